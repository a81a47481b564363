/-! told and member -/
def toldI (a : Nat → Nat) (n hn : Nat) (x : Int32) : Int32 := if x = 0 then nI (a 0) else if x = 1 then nI (a 1) else if x = 2 then nI (smN (fun m => popN (a (44 + m))) (a 0)) else if x = 3 then nI (smN (fun m => popN (sN (fun o => decide (o ≠ m) && clB a m o) (a 0))) (a 0) / 2) else if x = 4 then nI n else if x = 5 then nI hn else if x = 6 then nI (smN (fun m => a (26 + m)) (a 0)) else if x = 7 then nI (smN (fun m => a (32 + m)) (a 0)) else -1
theorem told_bad {a : Nat → Nat} {n hn : Nat} {x : Int32} (h : x.toInt < 0 ∨ 7 < x.toInt) : toldI a n hn x = -1 := by
  have hk : ∀ k : Nat, k < 8 → x ≠ nI k := by
    intro k hk e
    rw [e, nI_toInt (by omega)] at h
    omega
  unfold toldI
  rw [if_neg (show ¬ x = 0 from hk 0 (by decide)), if_neg (show ¬ x = 1 from hk 1 (by decide)), if_neg (show ¬ x = 2 from hk 2 (by decide)), if_neg (show ¬ x = 3 from hk 3 (by decide)), if_neg (show ¬ x = 4 from hk 4 (by decide)), if_neg (show ¬ x = 5 from hk 5 (by decide)), if_neg (show ¬ x = 6 from hk 6 (by decide)), if_neg (show ¬ x = 7 from hk 7 (by decide))]
theorem told_0 (a : Nat → Nat) (n hn : Nat) : toldI a n hn 0 = nI (a 0) := by unfold toldI; rw [if_pos rfl]
theorem told_1 (a : Nat → Nat) (n hn : Nat) : toldI a n hn 1 = nI (a 1) := by unfold toldI; rw [if_neg (by decide), if_pos rfl]
theorem told_2 (a : Nat → Nat) (n hn : Nat) : toldI a n hn 2 = nI (smN (fun m => popN (a (44 + m))) (a 0)) := by unfold toldI; rw [if_neg (by decide), if_neg (by decide), if_pos rfl]
theorem told_3 (a : Nat → Nat) (n hn : Nat) : toldI a n hn 3 = nI (smN (fun m => popN (sN (fun o => decide (o ≠ m) && clB a m o) (a 0))) (a 0) / 2) := by unfold toldI; rw [if_neg (by decide), if_neg (by decide), if_neg (by decide), if_pos rfl]
theorem told_4 (a : Nat → Nat) (n hn : Nat) : toldI a n hn 4 = nI n := by unfold toldI; rw [if_neg (by decide), if_neg (by decide), if_neg (by decide), if_neg (by decide), if_pos rfl]
theorem told_5 (a : Nat → Nat) (n hn : Nat) : toldI a n hn 5 = nI hn := by unfold toldI; rw [if_neg (by decide), if_neg (by decide), if_neg (by decide), if_neg (by decide), if_neg (by decide), if_pos rfl]
theorem told_6 (a : Nat → Nat) (n hn : Nat) : toldI a n hn 6 = nI (smN (fun m => a (26 + m)) (a 0)) := by unfold toldI; rw [if_neg (by decide), if_neg (by decide), if_neg (by decide), if_neg (by decide), if_neg (by decide), if_neg (by decide), if_pos rfl]
theorem told_7 (a : Nat → Nat) (n hn : Nat) : toldI a n hn 7 = nI (smN (fun m => a (32 + m)) (a 0)) := by unfold toldI; rw [if_neg (by decide), if_neg (by decide), if_neg (by decide), if_neg (by decide), if_neg (by decide), if_neg (by decide), if_neg (by decide), if_pos rfl]
theorem v_told {σ : Sg} {a : Nat → Nat} {n hn : Nat} (ha : wfA a) (hD : repD σ 5 a) (hT : σ.1 1 1 = nI n) (hH : σ.1 14 1 = nI hn) (x : Int32) {post : Int32 → Sg → Prop} (h : post (toldI a n hn x) σ) : wpX6_told x σ post := by
  unfold wpX6_told
  refine ⟨fun c => ?_, fun c => ?_, fun c => ?_, fun c => ?_, fun c => ?_, fun c => ?_, fun c => ?_, fun c => ?_, fun c => ?_⟩
  · rw [told_bad c] at h; exact h
  · subst c; rw [told_0, ← hD.1] at h; exact h
  · subst c; rw [told_1, ← hD.2.1] at h; exact h
  · subst c; rw [told_2] at h; exact v_countRules k51 ha hD h
  · subst c; rw [told_3] at h; exact v_countClash k51 ha hD h
  · subst c; rw [told_4, ← hT] at h; exact h
  · subst c; rw [told_5, ← hH] at h; exact h
  · subst c; rw [told_6] at h; exact v_leastO k51 ha hD h
  · subst c; rw [told_7] at h; exact v_mostO k51 ha hD h
theorem m_told {σ : Sg} {a : Nat → Nat} {n hn : Nat} (ha : wfA a) (hW : repW σ a) (hT : σ.1 117 6 = nI n) (hH : σ.1 117 2 = nI hn) (x : Int32) {post : Int32 → Sg → Prop} (h : post (toldI a n hn x) σ) : wpX7_told x σ post := by
  unfold wpX7_told
  refine ⟨fun c => ?_, fun c => ?_, fun c => ?_, fun c => ?_, fun c => ?_, fun c => ?_, fun c => ?_, fun c => ?_, fun c => ?_⟩
  · rw [told_bad c] at h; exact h
  · subst c; rw [told_0] at h; refine ⟨in0_50, ?_⟩; rw [z0, hW 0 (by decide)]; exact h
  · subst c; rw [told_1] at h; refine ⟨in1_50, ?_⟩; rw [z1, hW 1 (by decide)]; exact h
  · subst c; rw [told_2] at h; exact m_rules ha hW h
  · subst c; rw [told_3] at h; exact m_clashes ha hW h
  · subst c; rw [told_4, ← hT] at h; exact h
  · subst c; rw [told_5, ← hH] at h; exact h
  · subst c; rw [told_6] at h; exact m_sumOf (p := 26) ha hW (by decide) h
  · subst c; rw [told_7] at h; exact m_sumOf (p := 32) ha hW (by decide) h
theorem op_told {σ : Sg} (h : R σ) (x : Int32) {post : Int32 → Sg → Prop} (hp : ∀ r σ1, (∀ post2 : Int32 → Sg → Prop, (∀ σ2, R σ2 → post2 r σ2) → wpX7_told x σ1 post2) → post r σ1) : wpX6_told x σ post := by
  obtain ⟨a, tx, n, hn, pa, ke, im, h⟩ := h
  exact v_told h.1.1.1 h.1.1.2.2.1 h.1.1.2.2.2.1.1 h.2.2.1.2.1 x (hp _ _ (fun post2 h2 => m_told h.1.1.1 h.1.2.2.2.2.1 h.1.2.2.2.2.2.1 h.2.2.1.2.2.1 x (h2 σ h.r)))
def mbI (a : Nat → Nat) (m w : Nat) : Int32 := if w < 4 then nI (a (20 + 6 * w + m)) else if w = 4 then nI (wl a m) else if w < 8 then eI (a (2 + 3 * m + (w - 5))) else if w = 8 then nI (a (44 + m)) else nI (sN (fun o => decide (o ≠ m) && clB a m o) (a 0))
theorem v_memb {σ : Sg} {a : Nat → Nat} {m w : Nat} (ha : wfA a) (hD : repD σ 5 a) (hm : m < a 0) (hw : w ≤ 9) {post : Int32 → Sg → Prop} (h : post (mbI a m w) σ) : ((((nI w).toInt < 4 ∨ 9 < (nI w).toInt) → wpX3_property (σ.2.2 6 m) (nI w) σ (fun r10 σ9 => post r10 σ9)) ∧ ((nI w = 4) → wpX3_wordLength (σ.2.2 6 m) σ (fun r12 σ11 => post r12 σ11)) ∧ ((nI w = 5) → wpX3_letter (σ.2.2 6 m) ((nI w - (5 : Int32))) σ (fun r14 σ13 => post r14 σ13)) ∧ ((nI w = 6) → wpX3_letter (σ.2.2 6 m) ((nI w - (5 : Int32))) σ (fun r16 σ15 => post r16 σ15)) ∧ ((nI w = 7) → wpX3_letter (σ.2.2 6 m) ((nI w - (5 : Int32))) σ (fun r18 σ17 => post r18 σ17)) ∧ ((nI w = 8) → post ((σ.1 (σ.2.2 6 m) 5)) σ) ∧ ((nI w = 9) → wpX1_clashesOf 5 (nI m) σ (fun r20 σ19 => post r20 σ19))) := by
  have hb := hD.2.2 m hm
  have hb : repMb σ (σ.2.2 6 m) a m := hb
  unfold mbI at h
  rcases (show w = 0 ∨ w = 1 ∨ w = 2 ∨ w = 3 ∨ w = 4 ∨ w = 5 ∨ w = 6 ∨ w = 7 ∨ w = 8 ∨ w = 9 by omega) with rfl | rfl | rfl | rfl | rfl | rfl | rfl | rfl | rfl | rfl
  · rw [if_pos (by decide)] at h
    refine ⟨fun _ => ?_, fun c => absurd c (by decide), fun c => absurd c (by decide), fun c => absurd c (by decide), fun c => absurd c (by decide), fun c => absurd c (by decide), fun c => absurd c (by decide)⟩
    unfold wpX3_property
    refine ⟨fun c => absurd c (by decide), fun _ => ?_, fun c => absurd c (by decide), fun c => absurd c (by decide)⟩
    rw [hb.2.1]; exact h
  · rw [if_pos (by decide)] at h
    refine ⟨fun _ => ?_, fun c => absurd c (by decide), fun c => absurd c (by decide), fun c => absurd c (by decide), fun c => absurd c (by decide), fun c => absurd c (by decide), fun c => absurd c (by decide)⟩
    unfold wpX3_property
    refine ⟨fun c => absurd c (by decide), fun c => absurd c (by decide), fun _ => ?_, fun c => absurd c (by decide)⟩
    rw [hb.2.2.1]; exact h
  · rw [if_pos (by decide)] at h
    refine ⟨fun _ => ?_, fun c => absurd c (by decide), fun c => absurd c (by decide), fun c => absurd c (by decide), fun c => absurd c (by decide), fun c => absurd c (by decide), fun c => absurd c (by decide)⟩
    unfold wpX3_property
    refine ⟨fun c => absurd c (by decide), fun c => absurd c (by decide), fun c => absurd c (by decide), fun _ => ?_⟩
    rw [hb.2.2.2.1]; exact h
  · rw [if_pos (by decide)] at h
    refine ⟨fun _ => ?_, fun c => absurd c (by decide), fun c => absurd c (by decide), fun c => absurd c (by decide), fun c => absurd c (by decide), fun c => absurd c (by decide), fun c => absurd c (by decide)⟩
    unfold wpX3_property
    refine ⟨fun _ => ?_, fun c => absurd c (by decide), fun c => absurd c (by decide), fun c => absurd c (by decide)⟩
    rw [hb.2.2.2.2.1]; exact h
  · rw [if_neg (by decide), if_pos rfl] at h
    refine ⟨fun c => absurd c (by decide), fun _ => ?_, fun c => absurd c (by decide), fun c => absurd c (by decide), fun c => absurd c (by decide), fun c => absurd c (by decide), fun c => absurd c (by decide)⟩
    exact v_wordLength ha hm hb.1 h
  · rw [if_neg (by decide), if_neg (by decide), if_pos (by decide)] at h
    refine ⟨fun c => absurd c (by decide), fun c => absurd c (by decide), fun _ => ?_, fun c => absurd c (by decide), fun c => absurd c (by decide), fun c => absurd c (by decide), fun c => absurd c (by decide)⟩
    rw [show nI 5 - (5 : Int32) = nI 0 from by decide]
    exact v_letter ha hm (by decide) hb.1 h
  · rw [if_neg (by decide), if_neg (by decide), if_pos (by decide)] at h
    refine ⟨fun c => absurd c (by decide), fun c => absurd c (by decide), fun c => absurd c (by decide), fun _ => ?_, fun c => absurd c (by decide), fun c => absurd c (by decide), fun c => absurd c (by decide)⟩
    rw [show nI 6 - (5 : Int32) = nI 1 from by decide]
    exact v_letter ha hm (by decide) hb.1 h
  · rw [if_neg (by decide), if_neg (by decide), if_pos (by decide)] at h
    refine ⟨fun c => absurd c (by decide), fun c => absurd c (by decide), fun c => absurd c (by decide), fun c => absurd c (by decide), fun _ => ?_, fun c => absurd c (by decide), fun c => absurd c (by decide)⟩
    rw [show nI 7 - (5 : Int32) = nI 2 from by decide]
    exact v_letter ha hm (by decide) hb.1 h
  · rw [if_neg (by decide), if_neg (by decide), if_neg (by decide), if_pos rfl] at h
    refine ⟨fun c => absurd c (by decide), fun c => absurd c (by decide), fun c => absurd c (by decide), fun c => absurd c (by decide), fun c => absurd c (by decide), fun _ => ?_, fun c => absurd c (by decide)⟩
    rw [hb.2.2.2.2.2]; exact h
  · rw [if_neg (by decide), if_neg (by decide), if_neg (by decide), if_neg (by decide)] at h
    refine ⟨fun c => absurd c (by decide), fun c => absurd c (by decide), fun c => absurd c (by decide), fun c => absurd c (by decide), fun c => absurd c (by decide), fun c => absurd c (by decide), fun _ => ?_⟩
    exact v_clashesOf k51 ha hm hD h
theorem m_memb {σ : Sg} {a : Nat → Nat} {m w : Nat} (ha : wfA a) (hW : repW σ a) (hm : m < a 0) (hw : w ≤ 9) {post : Int32 → Sg → Prop} (h : post (mbI a m w) σ) : wpX7_member (nI m) (nI w) σ post := by
  have h6 := ha.1
  unfold wpX7_member
  refine m_isMember ha hW (nI m) (fun m' hm' e => ?_) (fun hno => absurd rfl (hno m hm))
  refine ⟨fun w => absurd w (by decide), fun _ => m_isIn (x := w) (lo := 0) (hi := 9) (by omega) (by decide) (by decide) ?_⟩
  rw [decide_eq_true (Nat.zero_le w), decide_eq_true hw]
  refine ⟨fun _ => ?_, fun w => absurd w (by decide)⟩
  unfold mbI at h
  rcases (show w = 0 ∨ w = 1 ∨ w = 2 ∨ w = 3 ∨ w = 4 ∨ w = 5 ∨ w = 6 ∨ w = 7 ∨ w = 8 ∨ w = 9 by omega) with rfl | rfl | rfl | rfl | rfl | rfl | rfl | rfl | rfl | rfl
  · rw [if_pos (by decide)] at h
    refine ⟨fun c => absurd c (by decide), fun _ => ?_⟩
    rw [show ((20 : Int32) + ((6 : Int32) * nI 0)) + nI m = nI (20 + 6 * 0 + m) from nI_add 20 m]
    refine ⟨pk_in (20 + 6 * 0 + m) 50 (by omega), ?_⟩
    rw [nI_clamp (by omega), hW _ (by omega)]; exact h
  · rw [if_pos (by decide)] at h
    refine ⟨fun c => absurd c (by decide), fun _ => ?_⟩
    rw [show ((20 : Int32) + ((6 : Int32) * nI 1)) + nI m = nI (20 + 6 * 1 + m) from nI_add 26 m]
    refine ⟨pk_in (20 + 6 * 1 + m) 50 (by omega), ?_⟩
    rw [nI_clamp (by omega), hW _ (by omega)]; exact h
  · rw [if_pos (by decide)] at h
    refine ⟨fun c => absurd c (by decide), fun _ => ?_⟩
    rw [show ((20 : Int32) + ((6 : Int32) * nI 2)) + nI m = nI (20 + 6 * 2 + m) from nI_add 32 m]
    refine ⟨pk_in (20 + 6 * 2 + m) 50 (by omega), ?_⟩
    rw [nI_clamp (by omega), hW _ (by omega)]; exact h
  · rw [if_pos (by decide)] at h
    refine ⟨fun c => absurd c (by decide), fun _ => ?_⟩
    rw [show ((20 : Int32) + ((6 : Int32) * nI 3)) + nI m = nI (20 + 6 * 3 + m) from nI_add 38 m]
    refine ⟨pk_in (20 + 6 * 3 + m) 50 (by omega), ?_⟩
    rw [nI_clamp (by omega), hW _ (by omega)]; exact h
  · rw [if_neg (by decide), if_pos rfl] at h
    refine ⟨fun _ => ⟨fun c => absurd rfl c, fun _ => m_wordLength ha (by omega) hW h⟩, fun c => absurd (by decide) c⟩
  · rw [if_neg (by decide), if_neg (by decide), if_pos (by decide)] at h
    refine ⟨fun _ => ⟨fun _ => ⟨fun c => absurd c (by decide), fun _ => ?_⟩, fun c => absurd c (by decide)⟩, fun c => absurd (by decide) c⟩
    rw [show nI 5 - (5 : Int32) = nI 0 from by decide]
    refine m_letter (by omega) (by decide) hW ⟨fun hz => m_letter (by omega) (by decide) hW ?_, fun hz => ?_⟩
    · unfold eI at h
      rw [if_neg (fun z => hz (by rw [z]; rfl))] at h; exact h
    · have hl := a_lt ha (2 + 3 * m + 0)
      have z := (nI_eq (b := 0) (by omega) (by decide)).mp hz
      unfold eI at h
      rw [if_pos z] at h; exact h
  · rw [if_neg (by decide), if_neg (by decide), if_pos (by decide)] at h
    refine ⟨fun _ => ⟨fun _ => ⟨fun c => absurd c (by decide), fun _ => ?_⟩, fun c => absurd c (by decide)⟩, fun c => absurd (by decide) c⟩
    rw [show nI 6 - (5 : Int32) = nI 1 from by decide]
    refine m_letter (by omega) (by decide) hW ⟨fun hz => m_letter (by omega) (by decide) hW ?_, fun hz => ?_⟩
    · unfold eI at h
      rw [if_neg (fun z => hz (by rw [z]; rfl))] at h; exact h
    · have hl := a_lt ha (2 + 3 * m + 1)
      have z := (nI_eq (b := 0) (by omega) (by decide)).mp hz
      unfold eI at h
      rw [if_pos z] at h; exact h
  · rw [if_neg (by decide), if_neg (by decide), if_pos (by decide)] at h
    refine ⟨fun _ => ⟨fun _ => ⟨fun c => absurd c (by decide), fun _ => ?_⟩, fun c => absurd c (by decide)⟩, fun c => absurd (by decide) c⟩
    rw [show nI 7 - (5 : Int32) = nI 2 from by decide]
    refine m_letter (by omega) (by decide) hW ⟨fun hz => m_letter (by omega) (by decide) hW ?_, fun hz => ?_⟩
    · unfold eI at h
      rw [if_neg (fun z => hz (by rw [z]; rfl))] at h; exact h
    · have hl := a_lt ha (2 + 3 * m + 2)
      have z := (nI_eq (b := 0) (by omega) (by decide)).mp hz
      unfold eI at h
      rw [if_pos z] at h; exact h
  · rw [if_neg (by decide), if_neg (by decide), if_neg (by decide), if_pos rfl] at h
    refine ⟨fun _ => ⟨fun _ => ⟨fun _ => ⟨fun c => absurd rfl c, fun _ => ?_⟩, fun c => absurd (by decide) c⟩, fun c => absurd c (by decide)⟩, fun c => absurd (by decide) c⟩
    rw [show (44 : Int32) + nI m = nI (44 + m) from nI_add 44 m]
    refine ⟨pk_in (44 + m) 50 (by omega), ?_⟩
    rw [nI_clamp (by omega), hW _ (by omega)]; exact h
  · rw [if_neg (by decide), if_neg (by decide), if_neg (by decide), if_neg (by decide)] at h
    refine ⟨fun _ => ⟨fun _ => ⟨fun _ => ⟨fun _ => m_clashing ha hW hm ?_, fun c => absurd c (by decide)⟩, fun c => absurd (by decide) c⟩, fun c => absurd c (by decide)⟩, fun c => absurd (by decide) c⟩
    rw [cl_set ha hm]; exact h
theorem op_member {σ : Sg} (h : R σ) (x y : Int32) {post : Int32 → Sg → Prop} (hp : ∀ r σ1, (∀ post2 : Int32 → Sg → Prop, (∀ σ2, R σ2 → post2 r σ2) → wpX7_member x y σ1 post2) → post r σ1) : wpX6_member x y σ post := by
  obtain ⟨a, tx, n, hn, pa, ke, im, h⟩ := h
  have ha := h.1.1.1
  have h6 := ha.1
  have hW := h.1.2.2.2.2.1
  unfold wpX6_member
  refine v_has ha h.1.1.2.2.1.1 x (fun m hm e => ?_) (fun hno => ?_)
  · subst e
    have hbad : (y < 0 ∨ 9 < y) → post (-1) σ := fun c => hp _ _ (fun post2 h2 => by
      unfold wpX7_member wpX7_isIn
      refine m_isMember ha hW (nI m) (fun m' hm' e => ?_) (fun hno => absurd rfl (hno m hm))
      refine ⟨fun w => absurd w (by decide), fun _ => ⟨fun _ => ⟨fun w => absurd rfl w, fun _ => h2 σ h.r⟩, fun c1 => ⟨fun _ => ⟨fun w => absurd rfl w, fun _ => h2 σ h.r⟩, fun c2 => ?_⟩⟩⟩
      rcases c with c | c
      · exact absurd c c1
      · exact absurd c c2)
    refine ⟨fun w => absurd w (by decide), fun _ => ⟨fun c => hbad (Or.inl c), fun c => ⟨fun c2 => ?_, fun c2 => hbad (Or.inr (by rw [Int32.not_le] at c2; exact c2))⟩⟩⟩
    obtain ⟨w, hw, rfl⟩ := nI_of2 (M := 9) (n := 9) (by decide) c c2
    exact v_at1 k51 (by omega) (fun _ => v_memb ha h.1.1.2.2.1 hm hw (hp _ _ (fun post2 h2 => m_memb ha hW hm hw (h2 σ h.r))))
  · refine ⟨fun _ => hp _ _ (fun post2 h2 => ?_), fun w => absurd rfl w⟩
    unfold wpX7_member
    refine m_isMember ha hW x (fun m' hm' e => absurd e (hno m' hm')) (fun _ => ?_)
    exact ⟨fun _ => h2 σ h.r, fun w => absurd rfl w⟩
