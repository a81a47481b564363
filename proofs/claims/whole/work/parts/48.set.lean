/-! set -/
theorem m_isInx {σ : Sg} (z : Int32) {lo hi : Nat} (hlo : lo < 2 ^ 31) (hhi : hi < 2 ^ 31) {post : Int32 → Sg → Prop} (h1 : ∀ v, lo ≤ v → v ≤ hi → z = nI v → post 1 σ) (h0 : (∀ v, lo ≤ v → v ≤ hi → z ≠ nI v) → post 0 σ) : wpX7_isIn z (nI lo) (nI hi) σ post := by
  unfold wpX7_isIn
  refine ⟨fun c => h0 (fun v g1 g2 e => ?_), fun c => ?_⟩
  · subst e; exact absurd c (nI_nlt g1 (by omega))
  · have c0 : ¬ z < 0 := by
      intro w
      apply c
      rw [Int32.lt_iff_toInt_lt] at w ⊢
      rw [nI_toInt hlo]
      have e0 : (0 : Int32).toInt = 0 := by decide
      omega
    obtain ⟨j, hj, rfl⟩ := nI_of c0
    have hl : lo ≤ j := by
      rcases Nat.lt_or_ge j lo with q | q
      · exact absurd (nI_lt q hlo) c
      · exact q
    exact pk_lt hi j (fun c => h0 (fun v h1 h2 e => by
      have := (nI_eq hj (by omega)).mp e
      omega)) (fun c => h1 j hl c rfl)
def okS (a : Nat → Nat) (m w v : Nat) : Prop := (w = 0 ∧ v ≤ 2) ∨ (w = 1 ∧ v ≤ a (32 + m)) ∨ (w = 2 ∧ 1 ≤ v ∧ v ≤ 3 ∧ a (26 + m) ≤ v) ∨ (w = 3 ∧ v ≤ 999)
theorem okS.le {a : Nat → Nat} {m w v : Nat} (ha : wfA a) (h : okS a m w v) : w ≤ 3 ∧ v ≤ 999 := by
  have := ha.2.2.1 (32 + m)
  unfold okS at h; omega
theorem v_accepts {σ : Sg} {a : Nat → Nat} (ha : wfA a) {m q : Nat} (hm : m < a 0) (hq : repMb σ q a m) (y z : Int32) {post : Int32 → Sg → Prop} (h1 : ∀ w v, y = nI w → z = nI v → okS a m w v → post 1 σ) (h0 : (∀ w v, y = nI w → z = nI v → ¬ okS a m w v) → post 0 σ) : wpX3_accepts q y z σ post := by
  obtain ⟨b0, b1, b2, b3, b4, b5⟩ := hq
  have hl1 := a_lt ha (26 + m)
  have hl2 := a_lt ha (32 + m)
  have hno : ∀ k : Nat, k < 4 → y = nI k → (∀ v, z = nI v → ¬ okS a m k v) → post 0 σ := by
    intro k hk e hz
    refine h0 (fun w v ew ev ho => hz v ev ?_)
    have hw := (ho.le ha).1
    rw [show k = w from (nI_eq (by omega) (by omega)).mp (e.symm.trans ew)]
    exact ho
  unfold wpX3_accepts
  refine ⟨fun c => h0 (fun w v ew _ ho => ?_), fun c => ?_, fun c => ?_, fun c => ?_, fun c => ?_⟩
  · have hw := (ho.le ha).1
    rw [ew, nI_toInt (by omega)] at c
    omega
  · unfold wpX6_isKind
    refine ⟨fun e => ⟨nar_b true, h1 0 0 c e (Or.inl ⟨rfl, by decide⟩)⟩, fun e0 => ⟨fun e => ⟨nar_b true, h1 0 1 c e (Or.inl ⟨rfl, by decide⟩)⟩, fun e1 => ⟨fun e2 => ⟨nar_b false, hno 0 (by decide) c (fun v ev ho => ?_)⟩, fun e => ⟨nar_b true, h1 0 2 c e (Or.inl ⟨rfl, by decide⟩)⟩⟩⟩⟩
    have hv : v ≤ 2 := by unfold okS at ho; omega
    rcases (show v = 0 ∨ v = 1 ∨ v = 2 by omega) with rfl | rfl | rfl
    · exact e0 ev
    · exact e1 ev
    · exact e2 ev
  · refine ⟨fun c1 => hno 1 (by decide) c (fun v ev ho => ?_), fun c1 => ?_⟩
    · have := (ho.le ha).2
      subst ev; exact absurd c1 (nI_pos (by omega))
    · obtain ⟨j, hj, ej⟩ := nI_of c1
      rw [b3, ej]
      refine pk_lt (a (32 + m)) j (fun c2 => hno 1 (by decide) c (fun v ev ho => ?_)) (fun c2 => h1 1 j c ej (Or.inr (Or.inl ⟨rfl, c2⟩)))
      have hv := (ho.le ha).2
      rw [show j = v from (nI_eq hj (by omega)).mp (ej.symm.trans ev)] at c2
      unfold okS at ho; omega
  · refine ⟨fun c1 => hno 2 (by decide) c (fun v ev ho => ?_), fun c1 => ?_⟩
    · have hv := (ho.le ha).2
      subst ev
      exact absurd c1 (nI_nlt (a := v) (b := 1) (by unfold okS at ho; omega) (by omega))
    · have c0 : ¬ z < 0 := by
        intro w
        apply c1
        rw [Int32.lt_iff_toInt_lt] at w ⊢
        have e0 : (0 : Int32).toInt = 0 := by decide
        have e1 : (1 : Int32).toInt = 1 := by decide
        omega
      obtain ⟨j, hj, ej⟩ := nI_of c0
      have hl : 1 ≤ j := by
        rcases Nat.lt_or_ge j 1 with q | q
        · exact absurd (by rw [ej]; exact nI_lt (a := j) (b := 1) q (by decide)) c1
        · exact q
      have hj2 : ∀ v, z = nI v → okS a m 2 v → j = v := fun v ev ho => (nI_eq hj (by have := (ho.le ha).2; omega)).mp (ej.symm.trans ev)
      rw [b2, ej]
      refine pk_lt 3 j (fun c2 => hno 2 (by decide) c (fun v ev ho => ?_)) (fun c2 => pk_lt j (a (26 + m)) (fun c3 => hno 2 (by decide) c (fun v ev ho => ?_)) (fun c3 => h1 2 j c ej (Or.inr (Or.inr (Or.inl ⟨rfl, hl, c2, c3⟩)))))
      · have := hj2 v ev ho
        unfold okS at ho; omega
      · have := hj2 v ev ho
        unfold okS at ho; omega
  · refine ⟨fun c1 => hno 3 (by decide) c (fun v ev ho => ?_), fun c1 => ?_⟩
    · have := (ho.le ha).2
      subst ev; exact absurd c1 (nI_pos (by omega))
    · obtain ⟨j, hj, ej⟩ := nI_of c1
      rw [ej]
      refine pk_lt 999 j (fun c2 => hno 3 (by decide) c (fun v ev ho => ?_)) (fun c2 => h1 3 j c ej (Or.inr (Or.inr (Or.inr ⟨rfl, c2⟩))))
      have hv := (ho.le ha).2
      rw [show j = v from (nI_eq hj (by omega)).mp (ej.symm.trans ev)] at c2
      omega
theorem m_set {σ : Sg} {a : Nat → Nat} (ha : wfA a) (hW : repW σ a) {m : Nat} (hm : m < a 0) (y z : Int32) {post : Int32 → Sg → Prop} (h1 : ∀ w v, y = nI w → z = nI v → okS a m w v → BX7_set_97 (nI m) y z post 1 σ) (h0 : (∀ w v, y = nI w → z = nI v → ¬ okS a m w v) → post (-1) σ) : wpX7_set (nI m) y z σ post := by
  have h6 := ha.1
  have hl1 := a_lt ha (26 + m)
  have hl2 := a_lt ha (32 + m)
  have hbad : (∀ w v, y = nI w → z = nI v → ¬ okS a m w v) → BX7_set_97 (nI m) y z post 0 σ := fun hh => ⟨fun w => absurd rfl w, fun _ => h0 hh⟩
  have hno : ∀ k : Nat, k < 4 → y = nI k → (∀ v, z = nI v → ¬ okS a m k v) → BX7_set_97 (nI m) y z post 0 σ := by
    intro k hk e hz
    refine hbad (fun w v ew ev ho => hz v ev ?_)
    have hw := (ho.le ha).1
    rw [show k = w from (nI_eq (by omega) (by omega)).mp (e.symm.trans ew)]
    exact ho
  unfold wpX7_set
  refine m_isMember ha hW (nI m) (fun _ _ _ => ⟨fun w => absurd w (by decide), fun _ => m_isInx y (lo := 0) (hi := 3) (by decide) (by decide) (fun w _ hw ey => ⟨fun _ => ?_, fun w => absurd w (by decide)⟩) (fun hno2 => ⟨fun w => absurd rfl w, fun _ => h0 (fun w v ew _ ho => hno2 w (Nat.zero_le w) (ho.le ha).1 ew)⟩)⟩) (fun hno2 => absurd rfl (hno2 m hm))
  subst ey
  rcases (show w = 0 ∨ w = 1 ∨ w = 2 ∨ w = 3 by omega) with rfl | rfl | rfl | rfl
  · refine ⟨fun w => absurd rfl w, fun _ => m_isInx z (lo := 0) (hi := 2) (by decide) (by decide) (fun v _ hv ev => h1 0 v rfl ev (Or.inl ⟨rfl, hv⟩)) (fun hn => hno 0 (by decide) rfl (fun v ev ho => hn v (Nat.zero_le v) (by unfold okS at ho; omega) ev))⟩
  · refine ⟨fun _ => ⟨fun w => absurd rfl w, fun _ => ?_⟩, fun w => absurd w (by decide)⟩
    rw [show (32 : Int32) + nI m = nI (32 + m) from nI_add 32 m]
    refine ⟨pk_in (32 + m) 50 (by omega), ?_⟩
    rw [nI_clamp (by omega), hW _ (by omega)]
    exact m_isInx z (lo := 0) (by decide) (by omega) (fun v _ hv ev => h1 1 v rfl ev (Or.inr (Or.inl ⟨rfl, hv⟩))) (fun hn => hno 1 (by decide) rfl (fun v ev ho => hn v (Nat.zero_le v) (by unfold okS at ho; omega) ev))
  · refine ⟨fun _ => ⟨fun _ => ⟨fun w => absurd rfl w, fun _ => m_isInx z (lo := 1) (hi := 3) (by decide) (by decide) (fun v hv1 hv ev => ⟨fun w => absurd w (by decide), fun _ => ?_⟩) (fun hn => ⟨fun _ => hno 2 (by decide) rfl (fun v ev ho => hn v (by unfold okS at ho; omega) (by unfold okS at ho; omega) ev), fun w => absurd rfl w⟩)⟩, fun w => absurd w (by decide)⟩, fun w => absurd w (by decide)⟩
    rw [show (26 : Int32) + nI m = nI (26 + m) from nI_add 26 m]
    refine ⟨pk_in (26 + m) 50 (by omega), ?_⟩
    have hzz : z = nI v := ev
    rw [nI_clamp (by omega), hW _ (by omega)]
    refine ⟨fun c3 => hno 2 (by decide) rfl (fun v' ev' ho => ?_), fun c3 => h1 2 v rfl ev (Or.inr (Or.inr (Or.inl ⟨rfl, hv1, hv, ?_⟩)))⟩
    · have hv' := (ho.le ha).2
      have : v' = v := (nI_eq (by omega) (by omega)).mp (ev'.symm.trans ev)
      rw [hzz] at c3
      exact absurd c3 (nI_nlt (by unfold okS at ho; omega) (by omega))
    · rcases Nat.lt_or_ge v (a (26 + m)) with q | q
      · exact absurd (by rw [hzz]; exact nI_lt q (by omega)) c3
      · exact q
  · refine ⟨fun _ => ⟨fun _ => ⟨fun _ => m_isInx z (lo := 0) (hi := 999) (by decide) (by decide) (fun v _ hv ev => h1 3 v rfl ev (Or.inr (Or.inr (Or.inr ⟨rfl, hv⟩)))) (fun hn => hno 3 (by decide) rfl (fun v ev ho => hn v (Nat.zero_le v) (ho.le ha).2 ev)), fun w => absurd w (by decide)⟩, fun w => absurd w (by decide)⟩, fun w => absurd w (by decide)⟩
theorem op_set {σ : Sg} (h : R σ) (x y z : Int32) {post : Int32 → Sg → Prop} (hp : ∀ r σ1, (∀ post2 : Int32 → Sg → Prop, (∀ σ2, R σ2 → post2 r σ2) → wpX7_set x y z σ1 post2) → post r σ1) : wpX6_set x y z σ post := by
  obtain ⟨a, tx, n, hn, pa, ke, im, h⟩ := h
  have ha := h.1.1.1
  have h6 := ha.1
  have hW := h.1.2.2.2.2.1
  have hD := h.1.1.2.2.1
  unfold wpX6_set
  refine v_has ha hD.1 x (fun m hm ex => ⟨fun w => absurd w (by decide), fun _ => ?_⟩) (fun hno => ⟨fun _ => ?_, fun w => absurd rfl w⟩)
  · subst ex
    refine v_at1 k51 (by omega) (fun _ => v_accepts ha hm (hD.2.2 m hm) y z (fun w v ey ez ho => ⟨fun _ => ?_, fun w => absurd w (by decide)⟩) (fun hn => ⟨fun w => absurd rfl w, fun _ => hp _ _ (fun post2 h2 => m_set ha hW hm y z (fun w v ew ev ho => absurd ho (hn w v ew ev)) (fun _ => h2 σ h.r))⟩))
    have hle := ho.le ha
    refine q_begin h (fun σ1 f1 c1 => v_at1 k51 (by omega) (fun _ => ?_))
    have hbm := c1.2.2.2.2.1.2.2 m hm
    obtain ⟨b0, b1, b2, b3, b4, b5⟩ := hbm
    have hok2 : (w + 1 = 1 ∧ v ≤ 2) ∨ (w + 1 = 2 ∧ v ≤ a (32 + m)) ∨ (w + 1 = 3 ∧ 1 ≤ v ∧ v ≤ 3 ∧ a (26 + m) ≤ v) ∨ w + 1 = 4 ∨ (w + 1 = 5 ∧ v < 2 ^ a 0) := by
      unfold okS at ho; omega
    have hwf := putA_wf (f := w + 1) ha hm hle.2 hok2
    have hgo : ∀ σ2, σ2 = setI σ1 (σ1.2.2 6 m) (w + 1) (nI v) → post (nI (a (20 + 6 * w + m))) σ2 := by
      intro σ2 e2
      have hst := c1.putf (f := w + 1) hm (by omega) e2 hwf
      refine hp _ _ (fun post2 h2 => ?_)
      have up : ∀ k, 98 < k → σ2.1 k = σ.1 k := fun k hk => (hst.1 k (by omega)).1
      have hW2 : repW σ2 a := by unfold repW; rw [up 118 (by decide)]; exact hW
      refine m_set ha hW2 hm y z (fun w' v' ew ev ho' => ?_) (fun hn => absurd ho (hn w v ey ez))
      unfold BX7_set_97
      refine ⟨fun _ => q_remember h up (fun σ3 hW3 m3 => ?_), fun w => absurd w (by decide)⟩
      have hidx : ((20 : Int32) + ((6 : Int32) * y)) + nI m = nI (14 + 6 * (w + 1) + m) := by
        rw [ey, show (6 : Int32) * nI w = nI (6 * w) from pk_mul 6 w, show (20 : Int32) + nI (6 * w) = nI (20 + 6 * w) from nI_add 20 _, nI_add]
        congr 1; omega
      rw [hidx, nI_clamp (by omega), hW3 _ (by omega), show 14 + 6 * (w + 1) + m = 20 + 6 * w + m by omega]
      refine ⟨pk_in (20 + 6 * w + m) 50 (by omega), pk_in (20 + 6 * w + m) 50 (by omega), fun σ4 e4 => ?_⟩
      rw [ez] at e4
      have hm4 := m3.put e4
      rw [show 20 + 6 * w + m = 14 + 6 * (w + 1) + m by omega] at hm4
      exact h2 σ4 (h.fin hst hm4).r
    unfold wpX3_exchange wpX3_property
    subst ey
    subst ez
    rcases (show w = 0 ∨ w = 1 ∨ w = 2 ∨ w = 3 by omega) with rfl | rfl | rfl | rfl
    · refine ⟨fun c => absurd c (by decide), fun _ => ⟨fun c => absurd c (by decide), fun _ σ2 e2 => ?_, fun c => absurd c (by decide), fun c => absurd c (by decide)⟩, fun c => absurd c (by decide), fun c => absurd c (by decide)⟩
      rw [b1]; exact hgo σ2 e2
    · refine ⟨fun c => absurd c (by decide), fun c => absurd c (by decide), fun _ => ⟨fun c => absurd c (by decide), fun c => absurd c (by decide), fun _ σ2 e2 => ?_, fun c => absurd c (by decide)⟩, fun c => absurd c (by decide)⟩
      rw [b2]; exact hgo σ2 e2
    · refine ⟨fun c => absurd c (by decide), fun c => absurd c (by decide), fun c => absurd c (by decide), fun _ => ⟨fun c => absurd c (by decide), fun c => absurd c (by decide), fun c => absurd c (by decide), fun _ σ2 e2 => ?_⟩⟩
      rw [b3]; exact hgo σ2 e2
    · refine ⟨fun _ => ⟨fun _ σ2 e2 => ?_, fun c => absurd c (by decide), fun c => absurd c (by decide), fun c => absurd c (by decide)⟩, fun c => absurd c (by decide), fun c => absurd c (by decide), fun c => absurd c (by decide)⟩
      rw [b4]; exact hgo σ2 e2
  · refine hp _ _ (fun post2 h2 => ?_)
    unfold wpX7_set
    exact m_isMember ha hW x (fun m hm e => absurd e (hno m hm)) (fun _ => ⟨fun _ => h2 σ h.r, fun w => absurd rfl w⟩)
