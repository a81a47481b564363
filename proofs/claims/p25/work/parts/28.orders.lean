/-! orders: how many go on from a tally (L: 0 any length, else the length and one) -/
def ocF (a : Nat → Nat) (L : Nat) : Nat → Nat → Nat
  | 0, _ => 0
  | k + 1, t => (if (L = 0 ∨ occ a t + 1 = L) ∧ enB a t = true then 1 else 0) + smN (fun m => if mayB a t m = true then ocF a L k (t + 4 ^ m) else 0) (a 0)
def oc (a : Nat → Nat) (L t : Nat) : Nat := ocF a L (4096 - t) t
def cb (a : Nat → Nat) (L t b : Nat) : Nat := smN (fun m => if mayB a t m = true then oc a L (t + 4 ^ m) else 0) b
theorem ocF_eq {a : Nat → Nat} {L : Nat} (ha : wfA a) : ∀ k k' t, t < 4 ^ a 0 → 4096 - t ≤ k → 4096 - t ≤ k' → ocF a L k t = ocF a L k' t := by
  have h4 := pow4_le ha.1
  intro k
  induction k with
  | zero => intro k' t ht h1; omega
  | succ k ih =>
    intro k' t ht h1 h2
    cases k' with
    | zero => omega
    | succ k' =>
      show _ + smN _ _ = _ + smN _ _
      congr 1
      refine smN_congr (a 0) (fun m hm => ?_)
      by_cases hz : mayB a t m = true
      · rw [if_pos hz, if_pos hz]
        have hl := tal_lt ht hm (may_lt ha hm hz)
        have hp : 0 < 4 ^ m := Nat.pow_pos (by decide)
        exact ih k' _ hl (by omega) (by omega)
      · rw [if_neg hz, if_neg hz]
theorem oc_eq {a : Nat → Nat} {L t : Nat} (ha : wfA a) (ht : t < 4 ^ a 0) : oc a L t = (if (L = 0 ∨ occ a t + 1 = L) ∧ enB a t = true then 1 else 0) + cb a L t (a 0) := by
  have h4 := pow4_le ha.1
  unfold cb oc
  rw [show 4096 - t = (4095 - t) + 1 by omega]
  show _ + smN _ _ = _ + smN _ _
  congr 1
  refine smN_congr (a 0) (fun m hm => ?_)
  by_cases hz : mayB a t m = true
  · rw [if_pos hz, if_pos hz]
    have hl := tal_lt ht hm (may_lt ha hm hz)
    have hp : 0 < 4 ^ m := Nat.pow_pos (by decide)
    exact ocF_eq ha _ _ _ hl (by omega) (by omega)
  · rw [if_neg hz, if_neg hz]
theorem ocF_le {a : Nat → Nat} {L : Nat} (ha : wfA a) : ∀ k t, ocF a L k t ≤ 7 ^ (18 - occ a t) := by
  intro k
  induction k with
  | zero => intro t; exact Nat.zero_le _
  | succ k ih =>
    intro t
    have h6 := ha.1
    have ho := occ_le ha t
    show (if (L = 0 ∨ occ a t + 1 = L) ∧ enB a t = true then 1 else 0) + smN _ _ ≤ _
    have h1 : (if (L = 0 ∨ occ a t + 1 = L) ∧ enB a t = true then 1 else 0) ≤ 1 := by split <;> omega
    have hp : 0 < 7 ^ (18 - occ a t) := Nat.pow_pos (by decide)
    by_cases h18 : occ a t = 18
    · rw [smN_zero (a 0) (fun m hm => ?_)]
      · omega
      · by_cases hz : mayB a t m = true
        · exfalso
          have := occ_add hm (may_lt ha hm hz)
          have := occ_le ha (t + 4 ^ m)
          omega
        · rw [if_neg hz]
    · have hs := smN_le (f := fun m => if mayB a t m = true then ocF a L k (t + 4 ^ m) else 0) (B := 7 ^ (17 - occ a t)) (a 0) (fun m hm => ?_)
      · have e : 7 ^ (18 - occ a t) = 7 * 7 ^ (17 - occ a t) := by rw [← Nat.pow_succ']; congr 1; omega
        have hq : 0 < 7 ^ (17 - occ a t) := Nat.pow_pos (by decide)
        have := Nat.mul_le_mul_right (7 ^ (17 - occ a t)) h6
        omega
      · by_cases hz : mayB a t m = true
        · rw [if_pos hz]
          have h4 := occ_add hm (may_lt ha hm hz)
          have := ih (t + 4 ^ m)
          rw [h4, show 18 - (occ a t + 1) = 17 - occ a t by omega] at this
          exact this
        · rw [if_neg hz]; exact Nat.zero_le _
theorem oc_le {a : Nat → Nat} (ha : wfA a) (L t : Nat) : oc a L t ≤ 1628413597910449 := by
  have h1 := ocF_le (L := L) ha (4096 - t) t
  have h2 : 7 ^ (18 - occ a t) ≤ 7 ^ 18 := Nat.pow_le_pow_right (by decide) (by omega)
  unfold oc
  have h3 : (7 : Nat) ^ 18 = 1628413597910449 := by decide
  omega
theorem cb_1 (a : Nat → Nat) (L t b : Nat) : cb a L t (b + 1) = cb a L t b + (if mayB a t b = true then oc a L (t + 4 ^ b) else 0) := rfl
theorem cb_le {a : Nat → Nat} (ha : wfA a) (L t : Nat) {b : Nat} (hb : b ≤ 6) : cb a L t b ≤ 9770481587462694 := by
  have := smN_le (f := fun m => if mayB a t m = true then oc a L (t + 4 ^ m) else 0) (B := 1628413597910449) b (fun m _ => by
    have := oc_le ha L (t + 4 ^ m)
    split <;> omega)
  unfold cb
  omega
def kl (L : Nat) : Int32 := if L = 0 then -1 else nI (L - 1)
def tabO (σ : Sg) (a : Nat → Nat) (L : Nat) : Prop := ∀ s, s < 4 ^ a 0 → σ.2.1 98 s = lN (oc a L s)
/-- what the class's order methods rest on -/
def ctxO (σ : Sg) (a : Nat → Nat) : Prop := wfA a ∧ repD σ 5 a ∧ (∀ m, m < 6 → 8 ≤ σ.2.2 6 m ∧ σ.2.2 6 m ≤ 13)
theorem ctxN.o {σ : Sg} {a tx : Nat → Nat} {n : Nat} (h : ctxN σ a tx n) : ctxO σ a := ⟨h.1, h.2.2.1, h.2.2.2.2⟩
theorem ctxO.fr {σ σ' : Sg} {a : Nat → Nat} {lo hi : Nat} (h : ctxO σ a) (hf : frR lo hi σ σ') (hlo : 14 ≤ lo) : ctxO σ' a := by
  obtain ⟨ha, hD, hM⟩ := h
  have e : ∀ k, k < 14 → σ'.1 k = σ.1 k := fun k hk => (hf k (by omega)).1
  have e6 : σ'.2.2 6 = σ.2.2 6 := (hf 6 (by omega)).2.2
  refine ⟨ha, ⟨?_, ?_, ?_⟩, ?_⟩
  · rw [e 5 (by decide)]; exact hD.1
  · rw [e 5 (by decide)]; exact hD.2.1
  · intro m hm
    have hm6 := ha.1
    have h1 := hM m (by omega)
    have h2 := hD.2.2 m hm
    show repMb σ' (σ'.2.2 6 m) a m
    rw [e6]
    unfold repMb at h2 ⊢
    rw [e _ (by omega)]
    exact h2
  · rw [e6]; exact hM
theorem v_oCountFrom {t : Nat} (ht : t < 4096) {σ : Sg} {post : Int64 → Sg → Prop} (h : post (σ.2.1 98 t) σ) : wpX4_countFrom (nI t) σ post := by
  unfold wpX4_countFrom
  refine ⟨fun c => absurd c (nI_pos (by omega)), fun _ => pk_le 4096 t (fun c => by omega) (fun _ => ⟨pk_in t 4096 ht, ?_⟩)⟩
  rw [nI_clamp (by omega)]; exact h
theorem v_countBehind {σ : Sg} {a : Nat → Nat} {L t b : Nat} (hc : ctxO σ a) (ht : t < 4 ^ a 0) (hb : b ≤ a 0) (hO : ∀ s, t < s → s < 4 ^ a 0 → σ.2.1 98 s = lN (oc a L s)) {post : Int64 → Sg → Prop} (h : post (lN (cb a L t b)) σ) : wpX4_countBehind (nI t) (nI b) σ post := by
  obtain ⟨ha, hD, hM⟩ := hc
  have h6 := ha.1
  have h4 := pow4_le h6
  have hp6 := pow_le6 h6
  have h64 := sN_lt (mayB a t) (a 0)
  unfold wpX4_countBehind
  refine v_followers k51 ha (by omega) hD ?_
  have key : ∀ r k, k + r = b → BX4_countBehind_13 (nI t) (nI b) post (r + 1) (nI (sN (mayB a t) (a 0))) (lN (cb a L t k)) (nI k) σ := by
    intro r
    induction r with
    | zero =>
      intro k hk
      rw [BX4_countBehind_13]
      refine pk_le b k (fun _ => ?_) (fun c => by omega)
      rw [show k = b by omega]; exact h
    | succ r ih =>
      intro k hk
      rw [BX4_countBehind_13]
      refine pk_le b k (fun c => by omega) (fun c => v_bitOf (by omega) (by omega) ?_)
      have h2 := ih (k + 1) (by omega)
      rw [cb_1] at h2
      rw [show (sN (mayB a t) (a 0)).testBit k = mayB a t k from by rw [sN_bit, decide_eq_true (show k < a 0 by omega), Bool.true_and]]
      by_cases z : mayB a t k = true
      · rw [if_pos z] at h2 ⊢
        refine ⟨fun w => absurd rfl w, fun _ => v_withOneMore (by omega) ?_⟩
        have hl := tal_lt ht (show k < a 0 by omega) (may_lt ha (show k < a 0 by omega) z)
        have hp : 0 < 4 ^ k := Nat.pow_pos (by decide)
        refine v_oCountFrom (by omega) ?_
        rw [hO _ (by omega) hl, lN_add, nI_1]
        exact h2
      · rw [if_neg z] at h2 ⊢
        refine ⟨fun _ => ?_, fun w => absurd w (by decide)⟩
        rw [Nat.add_zero] at h2
        rw [nI_1]; exact h2
  exact ⟨_, key b 0 (by omega)⟩
theorem kl_inj {L M : Nat} (hL : L < 100) (hM : M < 100) (h : kl L = kl M) : L = M := by
  unfold kl at h
  by_cases z1 : L = 0 <;> by_cases z2 : M = 0
  · omega
  · rw [if_pos z1, if_neg z2] at h
    have := congrArg Int32.toInt h
    rw [nI_toInt (by omega)] at this
    have e : (-1 : Int32).toInt = -1 := by decide
    omega
  · rw [if_neg z1, if_pos z2] at h
    have := congrArg Int32.toInt h
    rw [nI_toInt (by omega)] at this
    have e : (-1 : Int32).toInt = -1 := by decide
    omega
  · rw [if_neg z1, if_neg z2] at h
    have := (nI_eq (by omega) (by omega)).mp h
    omega
theorem v_oLearn {σ : Sg} {a : Nat → Nat} {L : Nat} (hc : ctxO σ a) (hL : L ≤ 19) (hk : σ.1 97 1 = kl L → tabO σ a L) {post : Sg → Prop} (h : ∀ σ', frR 97 98 σ σ' → σ'.1 97 1 = kl L → tabO σ' a L → post σ') : wpX4_learn (kl L) σ post := by
  have ha := hc.1
  have h6 := ha.1
  have h4 := pow4_le h6
  have hp4 : 0 < 4 ^ a 0 := Nat.pow_pos (by decide)
  unfold wpX4_learn
  refine ⟨fun _ => ?_, fun z => h σ frR.rf z (hk z)⟩
  refine v_tallies ha hc.2.1.1 ?_
  rw [show (if (4096 : Int32) < nI (4 ^ a 0) then (4096 : Int32) else nI (4 ^ a 0)) = nI (4 ^ a 0) from if_neg (nI_nlt (a := 4096) h4 (by decide))]
  have key : ∀ k σ1, k ≤ 4 ^ a 0 → frR 97 98 σ σ1 → (∀ s, k ≤ s → s < 4 ^ a 0 → σ1.2.1 98 s = lN (oc a L s)) → BX4_learn_24 (kl L) post (k + 1) (if k = 0 then -1 else nI (k - 1)) σ1 := by
    intro k
    induction k with
    | zero =>
      intro σ1 _ hf hs
      rw [BX4_learn_24, if_pos rfl]
      refine ⟨fun _ => ?_, fun w => absurd (by decide) w⟩
      intro σ2 e2
      refine h σ2 (by rw [e2]; exact hf.i _ _ (by decide)) (by rw [e2, setI_1, if_pos ⟨rfl, rfl⟩]) ?_
      intro s hs1
      rw [e2]
      exact hs s (Nat.zero_le _) hs1
    | succ t ih =>
      intro σ1 hk hf hs
      have hc1 := hc.fr hf (by decide)
      rw [if_neg (by omega), Nat.add_sub_cancel, BX4_learn_24]
      refine ⟨fun w => absurd w (nI_pos (by omega)), fun _ => ?_⟩
      have hgo : ∀ own : Nat, own = (if (L = 0 ∨ occ a t + 1 = L) ∧ enB a t = true then 1 else 0) → BX4_learn_67 (kl L) (BX4_learn_24 (kl L) post (t + 1)) post (nI t) (lN own) σ1 := by
        intro own ho
        unfold BX4_learn_67
        rw [hc1.2.1.1]
        refine v_countBehind (L := L) hc1 (by omega) (Nat.le_refl _) (fun s h1 h2 => hs s (by omega) h2) ⟨pk_in t 4096 (by omega), ?_⟩
        intro σ2 e2
        rw [nI_clamp (by omega), lN_add, ho, ← oc_eq ha (by omega)] at e2
        have e3 : nI t + (-1) = if t = 0 then -1 else nI (t - 1) := by
          cases t with
          | zero => rfl
          | succ t => rw [if_neg (by omega), Nat.add_sub_cancel]; exact pk_m1 t
        rw [e3]
        refine ih σ2 (by omega) (by rw [e2]; exact hf.l _ _ (by decide)) (fun s h1 h2 => ?_)
        rw [e2, setL_2]
        by_cases z : s = t
        · rw [if_pos ⟨rfl, z⟩, z]
        · rw [if_neg (fun w => z w.2)]
          exact hs s (by omega) h2
      have h47 : ∀ b : Bool, (b = true ↔ (L = 0 ∨ occ a t + 1 = L)) → BX4_learn_47 (kl L) (BX4_learn_24 (kl L) post (t + 1)) post (nI t) (bI b) σ1 := by
        intro b hb
        unfold BX4_learn_47
        refine bI_0 b (fun e => hgo 0 (by rw [if_neg]; rintro ⟨w, _⟩; have := hb.mpr w; rw [e] at this; cases this)) (fun e => ?_)
        have hb2 := hb.mp e
        refine v_isEnough k51 ha (by omega) hc1.2.1 (bI_0 _ (fun e2 => ?_) (fun e2 => ?_))
        · exact hgo 0 (by rw [if_neg]; rintro ⟨_, w⟩; rw [e2] at w; cases w)
        · exact hgo 1 (by rw [if_pos ⟨hb2, e2⟩])
      by_cases z : L = 0
      · refine ⟨fun _ => h47 true ⟨fun _ => Or.inl z, fun _ => rfl⟩, fun w => absurd (by rw [z]; rfl) w⟩
      · refine ⟨fun w => ?_, fun _ => v_lengthOf ha (by omega) hc1.2.1.1 ?_⟩
        · have := kl_inj (L := L) (M := 0) (by omega) (by decide) w
          omega
        · have ho := occ_le ha t
          rw [show kl L = nI (L - 1) from by unfold kl; rw [if_neg z]] at h47 ⊢
          show (¬ nI (occ a t) = nI (L - 1) → _) ∧ (nI (occ a t) = nI (L - 1) → _)
          refine ⟨fun w => h47 false ⟨fun y => Bool.noConfusion y, fun y => ?_⟩, fun w => h47 true ⟨fun _ => Or.inr ?_, fun _ => rfl⟩⟩
          · rcases y with y | y
            · exact absurd y z
            · exact absurd (by rw [show occ a t = L - 1 by omega]) w
          · have := (nI_eq (by omega) (by omega)).mp w
            omega
  have h2 := key (4 ^ a 0) σ (Nat.le_refl _) frR.rf (fun s h1 h2 => by omega)
  rw [if_neg (by omega)] at h2
  rw [show nI (4 ^ a 0) - (1 : Int32) = nI (4 ^ a 0 - 1) from pk_sub (b := 1) (by omega)]
  exact ⟨_, h2⟩
/-- the rank of the first k occurrences -/
noncomputable def rkN (a tx : Nat → Nat) (n : Nat) : Nat → Nat
  | 0 => 0
  | k + 1 => rkN a tx n k + ((if enB a (tq a tx n k) = true then 1 else 0) + cb a 0 (tq a tx n k) (fm a tx n (tq a tx n k) - 1))
theorem rdN_fm {a tx : Nat → Nat} {n k : Nat} (h : k < rdN a tx n) : fm a tx n (tq a tx n k) ≠ 0 := by
  have := mt_all (fun i => decide (fm a tx n (tq a tx n i) ≠ 0)) 18 0 k (Nat.zero_le _) h
  exact of_decide_eq_true this
theorem v_numberOf {σ : Sg} {a tx : Nat → Nat} {n : Nat} (hc : ctxN σ a tx n) (hT : tabC σ a tx n) (hO : tabO σ a 0) {post : Int64 → Sg → Prop} (h : post (lN (rkN a tx n (rdN a tx n))) σ) : wpX4_numberOf σ post := by
  have ha := hc.1
  have h6 := ha.1
  have h4 := pow4_le h6
  have hr := rdN_le a tx n
  have key : ∀ r k, k + r = rdN a tx n → BX4_numberOf_8 post (r + 1) (lN (rkN a tx n k)) (nI (tq a tx n k)) (nI k) σ := by
    intro r
    induction r with
    | zero =>
      intro k hk
      rw [BX4_numberOf_8, hT.2.2.2.1]
      refine pk_le (rdN a tx n) k (fun _ => ?_) (fun c => by omega)
      rw [show k = rdN a tx n by omega]; exact h
    | succ r ih =>
      intro k hk
      rw [BX4_numberOf_8, hT.2.2.2.1]
      refine pk_le (rdN a tx n) k (fun c => by omega) (fun c => ?_)
      obtain ⟨t0, tl⟩ := tq_rc (tx := tx) (n := n) ha k (fun i hi => rdN_fm (by omega))
      obtain ⟨f1, f2, f3⟩ := fm_spec (rdN_fm c)
      obtain ⟨g1, g2, g3⟩ := sT_nx f2
      have hlt := (nx_lt ha tl f1 g3).1
      have hgo : ∀ own : Nat, own = (if enB a (tq a tx n k) = true then 1 else 0) → BX4_numberOf_30 (BX4_numberOf_8 post (r + 1)) post (lN (rkN a tx n k + own)) (nI (tq a tx n k)) (nI k) σ := by
        intro own ho
        unfold BX4_numberOf_30
        refine v_memberAt hT (by omega) (fun _ => ?_) (fun q => by omega)
        refine v_countBehind (L := 0) hc.o tl (by omega) (fun s _ h2 => hO s h2) ?_
        refine v_memberAt hT (by omega) (fun _ => ?_) (fun q => by omega)
        refine v_withOneMore (by omega) ?_
        rw [lN_add, nI_1]
        have h2 := ih (k + 1) (by omega)
        rw [show rkN a tx n (k + 1) = rkN a tx n k + ((if enB a (tq a tx n k) = true then 1 else 0) + cb a 0 (tq a tx n k) (fm a tx n (tq a tx n k) - 1)) from rfl, ← ho, ← Nat.add_assoc] at h2
        exact h2
      refine v_isEnough k51 ha (by omega) hc.2.2.1 (bI_0 _ (fun e => ?_) (fun e => ?_))
      · exact hgo 0 (by rw [if_neg (by rw [e]; decide)])
      · rw [show lN (rkN a tx n k) + (1 : Int64) = lN (rkN a tx n k + 1) from lN_1 _]
        exact hgo 1 (by rw [if_pos e])
  exact ⟨_, key (rdN a tx n) 0 (by omega)⟩
/-- the member at place k of the order that is number left of those from t, one more; 0: it has not so many -/
def oM (a : Nat → Nat) : Nat → Nat → Nat → Nat → Nat
  | 0, _, _, _ => 0
  | f + 1, t, left, k =>
    if enB a t = true ∧ left = 0 then 0
    else if srch (fun m => decide (left - (if enB a t = true then 1 else 0) < cb a 0 t (m + 1))) (a 0) 0 = 0 then 0
    else if k = 0 then srch (fun m => decide (left - (if enB a t = true then 1 else 0) < cb a 0 t (m + 1))) (a 0) 0
    else oM a f (t + 4 ^ (srch (fun m => decide (left - (if enB a t = true then 1 else 0) < cb a 0 t (m + 1))) (a 0) 0 - 1)) (left - (if enB a t = true then 1 else 0) - cb a 0 t (srch (fun m => decide (left - (if enB a t = true then 1 else 0) < cb a 0 t (m + 1))) (a 0) 0 - 1)) (k - 1)
theorem v_memberBehind {σ : Sg} {a : Nat → Nat} {t left : Nat} (hc : ctxO σ a) (ht : t < 4 ^ a 0) (hO : tabO σ a 0) (hl : left < 2 ^ 63) {post : Int32 → Sg → Prop} (h : post (oI (srch (fun m => decide (left < cb a 0 t (m + 1))) (a 0) 0)) σ) : wpX4_memberBehind (nI t) (lN left) σ post := by
  have ha := hc.1
  have h6 := ha.1
  have key : ∀ r k, k + r = a 0 → post (oI (srch (fun m => decide (left < cb a 0 t (m + 1))) r k)) σ → BX4_memberBehind_3 (nI t) (lN left) post (r + 1) (nI k) σ := by
    intro r
    induction r with
    | zero =>
      intro k hk h
      rw [BX4_memberBehind_3, hc.2.1.1]
      exact pk_le (a 0) k (fun _ => h) (fun c => by omega)
    | succ r ih =>
      intro k hk h
      rw [BX4_memberBehind_3, hc.2.1.1]
      refine pk_le (a 0) k (fun c => by omega) (fun c => ?_)
      rw [show nI k + (1 : Int32) = nI (k + 1) from nI_1 k]
      refine v_countBehind (L := 0) hc ht (by omega) (fun s _ h2 => hO s h2) ?_
      have hcb := cb_le ha 0 t (b := k + 1) (by omega)
      rw [lg_cmp_ge, pk_lLE (by omega) hl]
      unfold srch at h
      refine ⟨fun w => ?_, fun w => ?_⟩
      · rw [if_neg (by simp; omega)] at h
        exact ih (k + 1) (by omega) h
      · rw [if_pos (by simp; omega)] at h
        exact h
  exact ⟨_, key (a 0) 0 (by omega) h⟩
theorem v_memberOf {σ : Sg} {a : Nat → Nat} {N k : Nat} (hc : ctxO σ a) (hO : tabO σ a 0) (hN : N < 2 ^ 63) (hk : k < 2 ^ 31) {post : Int32 → Sg → Prop} (h0 : oc a 0 0 ≤ N → post (-9) σ) (h1 : N < oc a 0 0 → post (oI (oM a 18 0 N k)) σ) : wpX4_memberOf (lN N) (nI k) σ post := by
  have ha := hc.1
  have h6 := ha.1
  have h4 := pow4_le h6
  have hp4 : 0 < 4 ^ a 0 := Nat.pow_pos (by decide)
  have hol := oc_le ha 0 0
  unfold wpX4_memberOf
  refine v_oCountFrom (t := 0) (by decide) ?_
  rw [hO 0 hp4, lg_cmp_lt, pk_lLT hN (by omega)]
  refine ⟨fun c => ?_, fun c => h0 (by omega)⟩
  have key : ∀ r i t left, i + r = 18 → i ≤ k → t < 4 ^ a 0 → left < 2 ^ 63 → post (oI (oM a r t left (k - i))) σ → BX4_memberOf_22 (lN N) (nI k) post (r + 1) (lN left) (nI t) (nI i) σ := by
    intro r
    induction r with
    | zero =>
      intro i t left hi hik ht hl h
      rw [BX4_memberOf_22]
      refine pk_lt k i (fun c => h) (fun c => pk_le 18 i (fun c => h) (fun c => by omega))
    | succ r ih =>
      intro i t left hi hik ht hl h
      rw [BX4_memberOf_22]
      refine pk_lt k i (fun c => by omega) (fun _ => pk_le 18 i (fun c => by omega) (fun _ => ?_))
      unfold oM at h
      have hgo : ∀ own : Nat, own = (if enB a t = true then 1 else 0) → own ≤ left → BX4_memberOf_51 (lN N) (nI k) (BX4_memberOf_22 (lN N) (nI k) post (r + 1)) post (lN (left - own)) (nI t) (nI i) σ := by
        intro own ho hol
        rw [← ho] at h
        rw [if_neg (fun w => by rw [if_pos w.1] at ho; omega)] at h
        unfold BX4_memberOf_51
        rw [lg_cmp_ge]
        refine ⟨fun _ => v_memberBehind hc ht hO (by omega) ?_, fun w => absurd ((pk_lLE (a := 0) (b := left - own) (by decide) (by omega)).mpr (Nat.zero_le _)) w⟩
        unfold BX4_memberOf_72
        by_cases z : srch (fun m => decide (left - own < cb a 0 t (m + 1))) (a 0) 0 = 0
        · rw [if_pos z] at h
          rw [z]
          exact ⟨fun _ => h, fun w => absurd (by decide) w⟩
        · rw [if_neg z] at h
          have hsp := srch_spec (fun m => decide (left - own < cb a 0 t (m + 1))) (a 0) 0
          rcases hsp with ⟨q, _⟩ | ⟨q1, q2, q3, q4⟩
          · exact absurd q z
          · generalize hM : srch (fun m => decide (left - own < cb a 0 t (m + 1))) (a 0) 0 = M at *
            rw [decide_eq_true_eq] at q3
            have hmay : mayB a t (M - 1) = true := by
              refine Classical.byContradiction (fun hn => ?_)
              rw [cb_1, if_neg hn, Nat.add_zero] at q3
              rcases Nat.eq_zero_or_pos (M - 1) with y | y
              · rw [y] at q3; exact absurd q3 (Nat.not_lt_zero _)
              · have := q4 (M - 2) (Nat.zero_le _) (by omega)
                rw [decide_eq_false_iff_not, show M - 2 + 1 = M - 1 by omega] at this
                exact this q3
            rw [show oI M = nI (M - 1) from by unfold oI; rw [if_neg z]]
            refine ⟨fun w => absurd w (nI_pos (by omega)), fun _ => ⟨fun w => ?_, fun w => ?_⟩⟩
            · rw [if_neg (fun y => w (by rw [show i = k by omega]))] at h
              refine v_countBehind (L := 0) hc ht (by omega) (fun s _ h2 => hO s h2) (v_withOneMore (by omega) ?_)
              have hcble : cb a 0 t (M - 1) ≤ left - own := by
                rcases Nat.eq_zero_or_pos (M - 1) with y | y
                · rw [y]; exact Nat.zero_le _
                · have := q4 (M - 2) (Nat.zero_le _) (by omega)
                  rw [decide_eq_false_iff_not, show M - 2 + 1 = M - 1 by omega] at this
                  omega
              rw [lN_sub hcble, nI_1]
              refine ih (i + 1) (t + 4 ^ (M - 1)) (left - own - cb a 0 t (M - 1)) (by omega) ?_ (tal_lt ht (by omega) (may_lt ha (by omega) hmay)) (by omega) ?_
              · rcases Nat.lt_or_ge i k with y | y
                · exact y
                · exact absurd (by rw [show i = k by omega]) w
              · rw [show k - (i + 1) = k - i - 1 by omega]; exact h
            · have hik2 := (nI_eq (by omega) hk).mp w
              rw [if_pos (by omega)] at h
              rw [show oI M = nI (M - 1) from by unfold oI; rw [if_neg z]] at h
              exact h
      refine v_isEnough k51 ha (by omega) hc.2.1 (bI_0 _ (fun e => ?_) (fun e => ?_))
      · have := hgo 0 (by rw [if_neg (by rw [e]; decide)]) (Nat.zero_le _)
        exact this
      · by_cases z : left = 0
        · rw [if_pos ⟨e, z⟩] at h
          rw [z]
          unfold BX4_memberOf_51
          refine ⟨fun w => absurd w (by decide), fun _ => ?_⟩
          exact ⟨fun _ => h, fun w => absurd (by decide) w⟩
        · have := hgo 1 (by rw [if_pos e]) (by omega)
          rw [show lN left - (1 : Int64) = lN (left - 1) from lN_sub (b := 1) (by omega)]
          exact this
  exact ⟨_, key 18 0 0 N (by omega) (Nat.zero_le _) hp4 hN (h1 c)⟩
