/-! the questions: their answers, by the numbers -/
noncomputable def farV (a tx : Nat → Nat) (n : Nat) : Nat := Classical.epsilon (fun M => farI a tx n M)
noncomputable def goV (a tx : Nat → Nat) (n : Nat) : Nat := Classical.epsilon (fun M => goS a tx n M)
theorem farV_of {a tx : Nat → Nat} {n M : Nat} (h : farI a tx n M) : farI a tx n (farV a tx n) := Classical.epsilon_spec ⟨M, h⟩
theorem goV_of {a tx : Nat → Nat} {n M : Nat} (h : goS a tx n M) : goS a tx n (goV a tx n) := Classical.epsilon_spec ⟨M, h⟩
noncomputable def faultV (a tx : Nat → Nat) (n : Nat) : Int32 := if 0 < wT a tx n 0 then -9 else nI (farV a tx n)
noncomputable def nextV (a tx : Nat → Nat) (n : Nat) : Int32 := @ite _ (∃ t, Rc a tx n t n) (Classical.propDecidable _) (nI (goV a tx n)) (-9)
noncomputable def rankV (a tx : Nat → Nat) (n : Nat) : Int64 := if 0 < wT a tx n 0 then lN (rkN a tx n (rdN a tx n)) else -2
def ordI (a : Nat → Nat) (N k : Nat) : Int32 := if oc a 0 0 ≤ N then -9 else oI (oM a 18 0 N k)
noncomputable def occV (a tx : Nat → Nat) (n k w : Nat) : Int32 := if 0 < wT a tx n 0 then (if k < rdN a tx n then (if w = 0 then nI (memK a tx n k) else if w = 1 then nI (staK a tx n k) else nI (vlK a tx n k)) else -9) else -2
noncomputable def vF (a tx : Nat → Nat) (n m k : Nat) : Nat → Nat → Nat → Int32
  | 0, _, f => if f = 0 ∧ k = 0 then nI (a (38 + m)) else -9
  | r + 1, i, f => if memK a tx n i = m then (if f = k then nI (vlK a tx n i) else vF a tx n m k r (i + 1) (f + 1)) else vF a tx n m k r (i + 1) f
theorem v_value {σ : Sg} {a tx : Nat → Nat} {n m k : Nat} (hc : ctxN σ a tx n) (hT : tabC σ a tx n) (hm : m < a 0) (hk : k < 2 ^ 31) {post : Int32 → Sg → Prop} : ∀ r i f, i + r = rdN a tx n → f ≤ i → post (vF a tx n m k r i f) σ → BX6_value_50 (nI m) (nI k) post (r + 1) (nI f) (nI i) σ := by
  have h6 := hc.1.1
  have hr := rdN_le a tx n
  intro r
  induction r with
  | zero =>
    intro i f hi hf h
    rw [BX6_value_50, hT.2.2.2.1]
    refine pk_le (rdN a tx n) i (fun _ => ?_) (fun c => by omega)
    unfold vF at h
    by_cases z1 : f = 0
    · subst z1
      refine ⟨fun w => absurd rfl w, fun _ => ?_⟩
      by_cases z2 : k = 0
      · subst z2
        rw [if_pos ⟨rfl, rfl⟩] at h
        refine ⟨fun w => absurd rfl w, fun _ => v_at1 k51 (by omega) (fun _ => ?_)⟩
        rw [(hc.2.2.1.2.2 m hm).2.2.2.2.1]; exact h
      · rw [if_neg (fun w => z2 w.2)] at h
        exact ⟨fun _ => h, fun w => absurd ((nI_eq (b := 0) hk (by decide)).mp w) z2⟩
    · rw [if_neg (fun w => z1 w.1)] at h
      exact ⟨fun _ => h, fun w => absurd ((nI_eq (b := 0) (by omega) (by decide)).mp w) z1⟩
  | succ r ih =>
    intro i f hi hf h
    rw [BX6_value_50, hT.2.2.2.1]
    refine pk_le (rdN a tx n) i (fun c => by omega) (fun c => v_memberAt hT (by omega) (fun _ => ?_) (fun q => by omega))
    have hmk := memK_lt c
    show (¬ nI (memK a tx n i) = nI m → _) ∧ (nI (memK a tx n i) = nI m → _)
    unfold vF at h
    rw [nI_1, nI_1]
    refine ⟨fun w => ?_, fun w => ?_⟩
    · rw [if_neg (fun z => w (by rw [z]))] at h
      exact ih (i + 1) f (by omega) (by omega) h
    · rw [if_pos ((nI_eq (by omega) (by omega)).mp w)] at h
      refine ⟨fun w2 => ?_, fun w2 => ?_⟩
      · rw [if_neg (fun z => w2 (by rw [z]))] at h
        exact ih (i + 1) (f + 1) (by omega) (by omega) h
      · rw [if_pos ((nI_eq (by omega) hk).mp w2)] at h
        refine v_numberAt hT (by omega) (fun _ => ?_) (fun q => by omega)
        rw [(hT.2.2.2.2 i c).2.2]; exact h
def toldI (a : Nat → Nat) (n hn : Nat) (x : Int32) : Int32 := if x = 0 then nI (a 0) else if x = 1 then nI (a 1) else if x = 2 then nI (smN (fun m => popN (a (44 + m))) (a 0)) else if x = 3 then nI (smN (fun m => popN (sN (fun o => decide (o ≠ m) && clB a m o) (a 0))) (a 0) / 2) else if x = 4 then nI n else if x = 5 then nI hn else if x = 6 then nI (smN (fun m => a (26 + m)) (a 0)) else if x = 7 then nI (smN (fun m => a (32 + m)) (a 0)) else -1
theorem told_bad {a : Nat → Nat} {n hn : Nat} {x : Int32} (h : x.toInt < 0 ∨ 7 < x.toInt) : toldI a n hn x = -1 := by
  have hk : ∀ k : Nat, k < 8 → x ≠ nI k := by
    intro k hk e
    rw [e, nI_toInt (by omega)] at h
    omega
  unfold toldI
  rw [if_neg (show ¬ x = 0 from hk 0 (by decide)), if_neg (show ¬ x = 1 from hk 1 (by decide)), if_neg (show ¬ x = 2 from hk 2 (by decide)), if_neg (show ¬ x = 3 from hk 3 (by decide)), if_neg (show ¬ x = 4 from hk 4 (by decide)), if_neg (show ¬ x = 5 from hk 5 (by decide)), if_neg (show ¬ x = 6 from hk 6 (by decide)), if_neg (show ¬ x = 7 from hk 7 (by decide))]
theorem told_0 (a : Nat → Nat) (n hn : Nat) : toldI a n hn 0 = nI (a 0) := by unfold toldI; rw [if_pos rfl]
theorem told_1 (a : Nat → Nat) (n hn : Nat) : toldI a n hn 1 = nI (a 1) := by unfold toldI; rw [if_neg (by decide), if_pos rfl]
theorem told_2 (a : Nat → Nat) (n hn : Nat) : toldI a n hn 2 = nI (smN (fun m => popN (a (44 + m))) (a 0)) := by unfold toldI; rw [if_neg (by decide), if_neg (by decide), if_pos rfl]
theorem told_3 (a : Nat → Nat) (n hn : Nat) : toldI a n hn 3 = nI (smN (fun m => popN (sN (fun o => decide (o ≠ m) && clB a m o) (a 0))) (a 0) / 2) := by unfold toldI; rw [if_neg (by decide), if_neg (by decide), if_neg (by decide), if_pos rfl]
theorem told_4 (a : Nat → Nat) (n hn : Nat) : toldI a n hn 4 = nI n := by unfold toldI; rw [if_neg (by decide), if_neg (by decide), if_neg (by decide), if_neg (by decide), if_pos rfl]
theorem told_5 (a : Nat → Nat) (n hn : Nat) : toldI a n hn 5 = nI hn := by unfold toldI; rw [if_neg (by decide), if_neg (by decide), if_neg (by decide), if_neg (by decide), if_neg (by decide), if_pos rfl]
theorem told_6 (a : Nat → Nat) (n hn : Nat) : toldI a n hn 6 = nI (smN (fun m => a (26 + m)) (a 0)) := by unfold toldI; rw [if_neg (by decide), if_neg (by decide), if_neg (by decide), if_neg (by decide), if_neg (by decide), if_neg (by decide), if_pos rfl]
theorem told_7 (a : Nat → Nat) (n hn : Nat) : toldI a n hn 7 = nI (smN (fun m => a (32 + m)) (a 0)) := by unfold toldI; rw [if_neg (by decide), if_neg (by decide), if_neg (by decide), if_neg (by decide), if_neg (by decide), if_neg (by decide), if_neg (by decide), if_pos rfl]
theorem v_told {σ : Sg} {a : Nat → Nat} {n hn : Nat} (ha : wfA a) (hD : repD σ 5 a) (hT : σ.1 1 1 = nI n) (hH : σ.1 14 1 = nI hn) (x : Int32) {post : Int32 → Sg → Prop} (h : post (toldI a n hn x) σ) : wpX6_told x σ post := by
  unfold wpX6_told
  refine ⟨fun c => ?_, fun c => ?_, fun c => ?_, fun c => ?_, fun c => ?_, fun c => ?_, fun c => ?_, fun c => ?_, fun c => ?_⟩
  · rw [told_bad c] at h; exact h
  · subst c; rw [told_0, ← hD.1] at h; exact h
  · subst c; rw [told_1, ← hD.2.1] at h; exact h
  · subst c; rw [told_2] at h; exact v_countRules k51 ha hD h
  · subst c; rw [told_3] at h; exact v_countClash k51 ha hD h
  · subst c; rw [told_4, ← hT] at h; exact h
  · subst c; rw [told_5, ← hH] at h; exact h
  · subst c; rw [told_6] at h; exact v_leastO k51 ha hD h
  · subst c; rw [told_7] at h; exact v_mostO k51 ha hD h
def mbI (a : Nat → Nat) (m w : Nat) : Int32 := if w < 4 then nI (a (20 + 6 * w + m)) else if w = 4 then nI (wl a m) else if w < 8 then eI (a (2 + 3 * m + (w - 5))) else if w = 8 then nI (a (44 + m)) else nI (sN (fun o => decide (o ≠ m) && clB a m o) (a 0))
theorem v_memb {σ : Sg} {a : Nat → Nat} {m w : Nat} (ha : wfA a) (hD : repD σ 5 a) (hm : m < a 0) (hw : w ≤ 9) {post : Int32 → Sg → Prop} (h : post (mbI a m w) σ) : ((((nI w).toInt < 4 ∨ 9 < (nI w).toInt) → wpX3_property (σ.2.2 6 m) (nI w) σ (fun r10 σ9 => post r10 σ9)) ∧ ((nI w = 4) → wpX3_wordLength (σ.2.2 6 m) σ (fun r12 σ11 => post r12 σ11)) ∧ ((nI w = 5) → wpX3_letter (σ.2.2 6 m) ((nI w - (5 : Int32))) σ (fun r14 σ13 => post r14 σ13)) ∧ ((nI w = 6) → wpX3_letter (σ.2.2 6 m) ((nI w - (5 : Int32))) σ (fun r16 σ15 => post r16 σ15)) ∧ ((nI w = 7) → wpX3_letter (σ.2.2 6 m) ((nI w - (5 : Int32))) σ (fun r18 σ17 => post r18 σ17)) ∧ ((nI w = 8) → post ((σ.1 (σ.2.2 6 m) 5)) σ) ∧ ((nI w = 9) → wpX1_clashesOf 5 (nI m) σ (fun r20 σ19 => post r20 σ19))) := by
  have hb := hD.2.2 m hm
  have hb : repMb σ (σ.2.2 6 m) a m := hb
  unfold mbI at h
  rcases (show w = 0 ∨ w = 1 ∨ w = 2 ∨ w = 3 ∨ w = 4 ∨ w = 5 ∨ w = 6 ∨ w = 7 ∨ w = 8 ∨ w = 9 by omega) with rfl | rfl | rfl | rfl | rfl | rfl | rfl | rfl | rfl | rfl
  · rw [if_pos (by decide)] at h
    refine ⟨fun _ => ?_, fun c => absurd c (by decide), fun c => absurd c (by decide), fun c => absurd c (by decide), fun c => absurd c (by decide), fun c => absurd c (by decide), fun c => absurd c (by decide)⟩
    unfold wpX3_property
    refine ⟨fun c => absurd c (by decide), fun _ => ?_, fun c => absurd c (by decide), fun c => absurd c (by decide)⟩
    rw [hb.2.1]; exact h
  · rw [if_pos (by decide)] at h
    refine ⟨fun _ => ?_, fun c => absurd c (by decide), fun c => absurd c (by decide), fun c => absurd c (by decide), fun c => absurd c (by decide), fun c => absurd c (by decide), fun c => absurd c (by decide)⟩
    unfold wpX3_property
    refine ⟨fun c => absurd c (by decide), fun c => absurd c (by decide), fun _ => ?_, fun c => absurd c (by decide)⟩
    rw [hb.2.2.1]; exact h
  · rw [if_pos (by decide)] at h
    refine ⟨fun _ => ?_, fun c => absurd c (by decide), fun c => absurd c (by decide), fun c => absurd c (by decide), fun c => absurd c (by decide), fun c => absurd c (by decide), fun c => absurd c (by decide)⟩
    unfold wpX3_property
    refine ⟨fun c => absurd c (by decide), fun c => absurd c (by decide), fun c => absurd c (by decide), fun _ => ?_⟩
    rw [hb.2.2.2.1]; exact h
  · rw [if_pos (by decide)] at h
    refine ⟨fun _ => ?_, fun c => absurd c (by decide), fun c => absurd c (by decide), fun c => absurd c (by decide), fun c => absurd c (by decide), fun c => absurd c (by decide), fun c => absurd c (by decide)⟩
    unfold wpX3_property
    refine ⟨fun _ => ?_, fun c => absurd c (by decide), fun c => absurd c (by decide), fun c => absurd c (by decide)⟩
    rw [hb.2.2.2.2.1]; exact h
  · rw [if_neg (by decide), if_pos rfl] at h
    refine ⟨fun c => absurd c (by decide), fun _ => ?_, fun c => absurd c (by decide), fun c => absurd c (by decide), fun c => absurd c (by decide), fun c => absurd c (by decide), fun c => absurd c (by decide)⟩
    exact v_wordLength ha hm hb.1 h
  · rw [if_neg (by decide), if_neg (by decide), if_pos (by decide)] at h
    refine ⟨fun c => absurd c (by decide), fun c => absurd c (by decide), fun _ => ?_, fun c => absurd c (by decide), fun c => absurd c (by decide), fun c => absurd c (by decide), fun c => absurd c (by decide)⟩
    rw [show nI 5 - (5 : Int32) = nI 0 from by decide]
    exact v_letter ha hm (by decide) hb.1 h
  · rw [if_neg (by decide), if_neg (by decide), if_pos (by decide)] at h
    refine ⟨fun c => absurd c (by decide), fun c => absurd c (by decide), fun c => absurd c (by decide), fun _ => ?_, fun c => absurd c (by decide), fun c => absurd c (by decide), fun c => absurd c (by decide)⟩
    rw [show nI 6 - (5 : Int32) = nI 1 from by decide]
    exact v_letter ha hm (by decide) hb.1 h
  · rw [if_neg (by decide), if_neg (by decide), if_pos (by decide)] at h
    refine ⟨fun c => absurd c (by decide), fun c => absurd c (by decide), fun c => absurd c (by decide), fun c => absurd c (by decide), fun _ => ?_, fun c => absurd c (by decide), fun c => absurd c (by decide)⟩
    rw [show nI 7 - (5 : Int32) = nI 2 from by decide]
    exact v_letter ha hm (by decide) hb.1 h
  · rw [if_neg (by decide), if_neg (by decide), if_neg (by decide), if_pos rfl] at h
    refine ⟨fun c => absurd c (by decide), fun c => absurd c (by decide), fun c => absurd c (by decide), fun c => absurd c (by decide), fun c => absurd c (by decide), fun _ => ?_, fun c => absurd c (by decide)⟩
    rw [hb.2.2.2.2.2]; exact h
  · rw [if_neg (by decide), if_neg (by decide), if_neg (by decide), if_neg (by decide)] at h
    refine ⟨fun c => absurd c (by decide), fun c => absurd c (by decide), fun c => absurd c (by decide), fun c => absurd c (by decide), fun c => absurd c (by decide), fun c => absurd c (by decide), fun _ => ?_⟩
    exact v_clashesOf k51 ha hm hD h
section
variable {σ : Sg} {a tx : Nat → Nat} {n hn : Nat} {pa : Nat → Nat → Nat} {ke : Nat → Bool} {im : Nat → Nat → Nat}
theorem a_fault (h : Cx σ a tx n hn pa ke im) {post : Int32 → Sg → Prop} (hp : ((0 < wT a tx n 0) ∨ farI a tx n (farV a tx n)) → ∀ σ1, Cx σ1 a tx n hn pa ke im → post (faultV a tx n) σ1) : wpX6_fault σ post := by
  unfold wpX6_fault
  refine q_learn h (fun σ1 h1 t1 => v_exists h1.1 t1 (bI_0 _ (fun e => v_farthest h1.1 t1.1 (fun M hM hl => ?_)) (fun e => ?_)))
  · rw [decide_eq_false_iff_not] at e
    have h2 := hp (Or.inr (farV_of hM)) σ1 h1
    unfold faultV at h2
    rw [if_neg e, (farV_of hM).uniq hM] at h2
    exact h2
  · rw [decide_eq_true_eq] at e
    have h2 := hp (Or.inl e) σ1 h1
    unfold faultV at h2
    rw [if_pos e] at h2
    exact h2
theorem a_readings (h : Cx σ a tx n hn pa ke im) {post : Int32 → Sg → Prop} (hp : ∀ σ1, Cx σ1 a tx n hn pa ke im → post (nI (capN (wT a tx n 0))) σ1) : wpX6_readings σ post := by
  unfold wpX6_readings
  refine q_learn h (fun σ1 h1 t1 => v_waysFrom (t := 0) (by decide) ?_)
  have hp4 : 0 < 4 ^ a 0 := p4_pos _
  have hwl := wT_le (tx := tx) (n := n) h.1.1 0
  rw [t1.2.2.1 0 hp4]
  have e : (if (1000000 : Int64) < lN (wT a tx n 0) then (1000000 : Int64) else lN (wT a tx n 0)).toInt32 = nI (capN (wT a tx n 0)) := by
    rw [show (1000000 : Int64) = lN 1000000 from rfl]
    unfold capN
    by_cases c : 1000000 < wT a tx n 0
    · rw [if_pos c, if_pos ((pk_lLT (by decide) (by omega)).mpr c)]; rfl
    · rw [if_neg c, if_neg (fun w => c ((pk_lLT (by decide) (by omega)).mp w))]; exact lN_i _
  rw [e]
  exact hp σ1 h1
theorem a_next (h : Cx σ a tx n hn pa ke im) {post : Int32 → Sg → Prop} (hp : ((¬ ∃ t, Rc a tx n t n) ∨ goS a tx n (goV a tx n)) → ∀ σ1, Cx σ1 a tx n hn pa ke im → post (nextV a tx n) σ1) : wpX6_next σ post := by
  unfold wpX6_next
  refine q_learn h (fun σ1 h1 t1 => v_goingOn h1.1 t1.1 (fun S hex hS => ?_) (fun hno => ?_))
  · have h2 := hp (Or.inr (goV_of hS)) σ1 h1
    unfold nextV at h2
    rw [if_pos hex, (goV_of hS).uniq hS] at h2
    exact h2
  · have h2 := hp (Or.inl hno) σ1 h1
    unfold nextV at h2
    rw [if_neg hno] at h2
    exact h2
theorem kl_ok : ∀ L, L < 20 → ¬ (kl L < -1) ∧ kl L ≤ 18 := by decide +kernel
theorem a_orders (h : Cx σ a tx n hn pa ke im) {L : Nat} (hL : L ≤ 19) {post : Int64 → Sg → Prop} (hp : ∀ σ1, Cx σ1 a tx n hn pa ke im → post (lN (oc a L 0)) σ1) : wpX6_orders (kl L) σ post := by
  have hk := kl_ok L (by omega)
  unfold wpX6_orders
  refine ⟨fun c => absurd c hk.1, fun _ => ⟨fun _ => ?_, fun c => absurd hk.2 c⟩⟩
  refine q_oLearn h hL (fun σ1 f1 h1 t1 => v_oCountFrom (t := 0) (by decide) ?_)
  rw [t1 0 (p4_pos _)]
  exact hp σ1 h1
theorem a_orders19 (h : Cx σ a tx n hn pa ke im) {post : Int64 → Sg → Prop} (hp : ∀ σ1, Cx σ1 a tx n hn pa ke im → post (-1) σ1) : wpX6_orders 19 σ post := by
  unfold wpX6_orders
  exact ⟨fun c => absurd c (by decide), fun _ => ⟨fun c => absurd c (by decide), fun _ => hp σ h⟩⟩
theorem a_order (h : Cx σ a tx n hn pa ke im) {N k : Nat} (hN : N < 2 ^ 63) (hk : k < 2 ^ 31) {post : Int32 → Sg → Prop} (hp : ∀ σ1, Cx σ1 a tx n hn pa ke im → post (ordI a N k) σ1) : wpX6_order (lN N) (nI k) σ post := by
  unfold wpX6_order
  rw [lg_cmp_lt]
  refine ⟨fun c => absurd ((pk_lLT (b := 0) hN (by decide)).mp c) (Nat.not_lt_zero _), fun _ => ⟨fun _ => ?_, fun c => absurd (show (0 : Int32) ≤ nI k from nI_le (a := 0) (Nat.zero_le k) hk) c⟩⟩
  refine q_oLearn (L := 0) h (by decide) (fun σ1 f1 h1 t1 => v_memberOf h1.1.o t1 hN hk (fun hle => ?_) (fun hlt => ?_))
  · have h2 := hp σ1 h1
    unfold ordI at h2
    rw [if_pos hle] at h2; exact h2
  · have h2 := hp σ1 h1
    unfold ordI at h2
    rw [if_neg (by omega)] at h2; exact h2
theorem a_rank (h : Cx σ a tx n hn pa ke im) {post : Int64 → Sg → Prop} (hp : ∀ σ1, Cx σ1 a tx n hn pa ke im → post (rankV a tx n) σ1) : wpX6_rank σ post := by
  unfold wpX6_rank
  refine q_learn h (fun σ1 h1 t1 => v_exists h1.1 t1 (bI_n _ (fun e => ?_) (fun e => ?_)))
  · rw [decide_eq_false_iff_not] at e
    have h2 := hp σ1 h1
    unfold rankV at h2
    rw [if_neg e] at h2; exact h2
  · rw [decide_eq_true_eq] at e
    refine q_oLearn (L := 0) h1 (by decide) (fun σ2 f2 h2 t2 => v_numberOf h2.1 (t1.row (fun k _ _ => ⟨(f2 k (by omega)).1, (f2 k (by omega)).2.1⟩)) t2 ?_)
    have h3 := hp σ2 h2
    unfold rankV at h3
    rw [if_pos e] at h3; exact h3
theorem a_normal0 (h : Cx σ a tx n hn pa ke im) (hw : wT a tx n 0 = 0) {post : Int32 → Sg → Prop} (hp : ∀ σ1, Cx σ1 a tx n hn pa ke im → post (-2) σ1) : wpX6_normal 0 σ post := by
  unfold wpX6_normal
  refine ⟨fun _ => ?_, fun c => absurd (by decide) c⟩
  refine q_learn h (fun σ1 h1 t1 => v_exists h1.1 t1 (bI_n _ (fun e => hp σ1 h1) (fun e => ?_)))
  rw [decide_eq_true_eq] at e; omega
theorem a_occurrence (h : Cx σ a tx n hn pa ke im) {k w : Nat} (hk : k < 2 ^ 31) (hw : w ≤ 2) {post : Int32 → Sg → Prop} (hp : ∀ σ1, Cx σ1 a tx n hn pa ke im → post (occV a tx n k w) σ1) : wpX6_occurrence (nI k) (nI w) σ post := by
  unfold wpX6_occurrence
  refine ⟨fun c => absurd c (nI_pos hk), fun _ => ⟨fun c => absurd c (nI_pos (by omega)), fun _ => ⟨fun _ => ?_, fun c => absurd (show nI w ≤ nI 2 from nI_le hw (by decide)) c⟩⟩⟩
  refine q_learn h (fun σ1 h1 t1 => v_exists h1.1 t1 (bI_n _ (fun e => ?_) (fun e => ?_)))
  · rw [decide_eq_false_iff_not] at e
    have h2 := hp σ1 h1
    unfold occV at h2
    rw [if_neg e] at h2; exact h2
  · rw [decide_eq_true_eq] at e
    have h2 := hp σ1 h1
    unfold occV at h2
    rw [if_pos e] at h2
    have hno : rdN a tx n ≤ k → post (-9) σ1 := fun hle => by
      rw [if_neg (by omega)] at h2; exact h2
    rcases (show w = 0 ∨ w = 1 ∨ w = 2 by omega) with rfl | rfl | rfl
    · refine ⟨fun w => absurd rfl w.1, fun _ => v_memberAt t1 hk (fun hlt => ?_) hno, fun w => absurd w (by decide)⟩
      rw [if_pos hlt, if_pos rfl] at h2; exact h2
    · refine ⟨fun w => absurd rfl w.2, fun w => absurd w (by decide), fun _ => v_startAt t1 hk (fun hlt => ?_) hno⟩
      rw [if_pos hlt, if_neg (by decide), if_pos rfl] at h2
      rw [(t1.2.2.2.2 k hlt).2.1]; exact h2
    · refine ⟨fun _ => v_numberAt t1 hk (fun hlt => ?_) hno, fun w => absurd w (by decide), fun w => absurd w (by decide)⟩
      rw [if_pos hlt, if_neg (by decide), if_neg (by decide)] at h2
      rw [(t1.2.2.2.2 k hlt).2.2]; exact h2
theorem a_value (h : Cx σ a tx n hn pa ke im) (hw : 0 < wT a tx n 0) {m k : Nat} (hm : m < a 0) (hk : k < 2 ^ 31) {post : Int32 → Sg → Prop} (hp : ∀ σ1, Cx σ1 a tx n hn pa ke im → post (vF a tx n m k (rdN a tx n) 0 0) σ1) : wpX6_value (nI m) (nI k) σ post := by
  unfold wpX6_value
  refine v_has h.1.1 h.1.2.2.1.1 (nI m) (fun m' hm' e => ?_) (fun hno => absurd rfl (hno m hm))
  refine ⟨fun w => absurd w (by decide), fun _ => ⟨fun _ => ?_, fun c => absurd (show (0 : Int32) ≤ nI k from nI_le (a := 0) (Nat.zero_le k) hk) c⟩⟩
  refine q_learn h (fun σ1 h1 t1 => v_exists h1.1 t1 (bI_n _ (fun e => ?_) (fun e => ?_)))
  · rw [decide_eq_false_iff_not] at e; omega
  · exact ⟨_, v_value h1.1 t1 hm hk (rdN a tx n) 0 0 (by omega) (Nat.le_refl 0) (hp σ1 h1)⟩
theorem a_told (h : Cx σ a tx n hn pa ke im) (x : Int32) {post : Int32 → Sg → Prop} (hp : ∀ σ1, Cx σ1 a tx n hn pa ke im → post (toldI a n hn x) σ1) : wpX6_told x σ post :=
  v_told h.1.1 h.1.2.2.1 h.1.2.2.2.1.1 h.2.2.2.2.1.2.1 x (hp σ h)
theorem a_member (h : Cx σ a tx n hn pa ke im) {m w : Nat} (hm : m < a 0) (hw : w ≤ 9) {post : Int32 → Sg → Prop} (hp : ∀ σ1, Cx σ1 a tx n hn pa ke im → post (mbI a m w) σ1) : wpX6_member (nI m) (nI w) σ post := by
  have ha := h.1.1
  have h6 := ha.1
  unfold wpX6_member
  refine v_has ha h.1.2.2.1.1 (nI m) (fun m' hm' e => ?_) (fun hno => absurd rfl (hno m hm))
  refine ⟨fun w => absurd w (by decide), fun _ => ⟨fun c => absurd c (nI_pos (by omega)), fun _ => ⟨fun _ => ?_, fun c => absurd (show nI w ≤ nI 9 from nI_le hw (by decide)) c⟩⟩⟩
  exact v_at1 k51 (by omega) (fun _ => v_memb ha h.1.2.2.1 hm hw (hp σ h))
end
