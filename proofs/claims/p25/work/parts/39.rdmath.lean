/-! the first reading, by tallies: what stands where, its rank, its values -/
section
variable {a tx : Nat → Nat} {n : Nat}
theorem tq_ok (ha : wfA a) {k : Nat} (hk : k ≤ rdN a tx n) : eT a tx n (tq a tx n k) ≠ 0 ∧ tq a tx n k < 4 ^ a 0 := tq_rc ha k (fun i hi => rdN_fm (by omega))
/-- the step at k -/
theorem tq_step (ha : wfA a) {k : Nat} (hk : k < rdN a tx n) : mayB a (tq a tx n k) (memK a tx n k) = true ∧ stP a tx n (tq a tx n k) (eT a tx n (tq a tx n k) - 1) ≠ 0 ∧ enP a tx n (memK a tx n k) (staK a tx n k) ≠ 0 ∧ eT a tx n (tq a tx n (k + 1)) = enP a tx n (memK a tx n k) (staK a tx n k) + 1 ∧ tq a tx n (k + 1) = tq a tx n k + 4 ^ memK a tx n k := by
  obtain ⟨h1, h2⟩ := tq_ok (tx := tx) (n := n) ha (Nat.le_of_lt hk)
  obtain ⟨f1, f2, f3⟩ := fm_spec (rdN_fm hk)
  obtain ⟨g1, g2, g3⟩ := sT_nx f2
  obtain ⟨m1, m2, m3⟩ := nx_may rfl g3
  have hst := (eT_rc h1).step f1 rfl g3
  refine ⟨m1, m2, ?_, ?_, rfl⟩
  · show enP a tx n (fm a tx n (tq a tx n k) - 1) (stP a tx n (tq a tx n k) (eT a tx n (tq a tx n k) - 1) - 1) ≠ 0
    rw [m3]; exact g3
  · show eT a tx n (tq a tx n k + 4 ^ (fm a tx n (tq a tx n k) - 1)) = enP a tx n (fm a tx n (tq a tx n k) - 1) (stP a tx n (tq a tx n k) (eT a tx n (tq a tx n k) - 1) - 1) + 1
    rw [m3, eT_of ha hst]
theorem tq_cin (ha : wfA a) {k : Nat} (hk : k < rdN a tx n) (o : Nat) : cin (tq a tx n (k + 1)) o = cin (tq a tx n k) o + (if o = memK a tx n k then 1 else 0) := by
  obtain ⟨s1, _, _, _, s5⟩ := tq_step (tx := tx) (n := n) ha hk
  rw [s5]
  exact cin_add (may_lt ha (memK_lt hk) s1) o
theorem tq_occ (ha : wfA a) : ∀ k, k ≤ rdN a tx n → occ a (tq a tx n k) = k
  | 0, _ => occ_0 a
  | k + 1, hk => by
    obtain ⟨s1, _, _, _, s5⟩ := tq_step (tx := tx) (n := n) ha (show k < rdN a tx n by omega)
    have hm := memK_lt (show k < rdN a tx n by omega)
    rw [s5, occ_add hm (may_lt ha hm s1), tq_occ ha k (by omega)]
theorem tq_0 (ha : wfA a) {k : Nat} (hk : k ≤ rdN a tx n) : tq a tx n k = 0 ↔ k = 0 := by
  constructor
  · intro h
    have := tq_occ (tx := tx) (n := n) ha k hk
    rw [h, occ_0] at this; omega
  · intro h; rw [h]; rfl
theorem tq_w (hw : 0 < wT a tx n 0) : ∀ k, k ≤ rdN a tx n → 0 < wT a tx n (tq a tx n k)
  | 0, _ => hw
  | k + 1, hk => (fm_spec (rdN_fm (show k < rdN a tx n by omega))).2.2
theorem tq_fm (ha : wfA a) : fm a tx n (tq a tx n (rdN a tx n)) = 0 := by
  refine Classical.byContradiction (fun hf => ?_)
  rcases Nat.lt_or_ge (rdN a tx n) 18 with q | q
  · have := mt_end (fun i => decide (fm a tx n (tq a tx n i) ≠ 0)) 18 0 q
    exact absurd (of_decide_eq_false this) (fun w => w hf)
  · obtain ⟨f1, f2, f3⟩ := fm_spec hf
    obtain ⟨g1, g2, g3⟩ := sT_nx f2
    have h1 := tq_occ (tx := tx) (n := n) ha _ (Nat.le_refl _)
    have h2 := occ_add (a := a) f1 (may_lt ha f1 (nx_may rfl g3).1)
    have h3 := occ_le ha (tq a tx n (rdN a tx n) + 4 ^ (fm a tx n (tq a tx n (rdN a tx n)) - 1))
    omega
theorem tq_end (ha : wfA a) (hw : 0 < wT a tx n 0) : eT a tx n (tq a tx n (rdN a tx n)) = n + 1 ∧ enB a (tq a tx n (rdN a tx n)) = true := by
  obtain ⟨h1, h2⟩ := tq_ok (tx := tx) (n := n) ha (Nat.le_refl _)
  have h3 := tq_w hw _ (Nat.le_refl _)
  have hf := tq_fm (tx := tx) (n := n) ha
  rw [wT_eq ha h2 h1] at h3
  have hz : smN (fun m => if (sT a tx n (tq a tx n (rdN a tx n))).testBit m = true then wT a tx n (tq a tx n (rdN a tx n) + 4 ^ m) else 0) (a 0) = 0 := by
    refine smN_zero (a 0) (fun m hm => ?_)
    rcases srch_spec (fun m => (sT a tx n (tq a tx n (rdN a tx n))).testBit m && decide (0 < wT a tx n (tq a tx n (rdN a tx n) + 4 ^ m))) (a 0) 0 with ⟨_, h⟩ | ⟨h, _⟩
    · have h5 := h m (Nat.zero_le _) (by omega)
      by_cases c : (sT a tx n (tq a tx n (rdN a tx n))).testBit m = true
      · rw [if_pos c]
        rw [c, Bool.true_and, decide_eq_false_iff_not] at h5
        omega
      · rw [if_neg c]
    · have hf : srch (fun m => (sT a tx n (tq a tx n (rdN a tx n))).testBit m && decide (0 < wT a tx n (tq a tx n (rdN a tx n) + 4 ^ m))) (a 0) 0 = 0 := hf
      omega
  rw [hz] at h3
  by_cases c : eT a tx n (tq a tx n (rdN a tx n)) = n + 1 ∧ enB a (tq a tx n (rdN a tx n)) = true
  · exact c
  · rw [if_neg c] at h3; omega
/-- where the list of the first k ends -/
noncomputable def peK (a tx : Nat → Nat) (n k : Nat) : Nat := eT a tx n (tq a tx n k) - 1
theorem pe_0 (ha : wfA a) : peK a tx n 0 = 0 := by
  show eT a tx n 0 - 1 = 0
  rw [eT_zero ha]
theorem pe_end (ha : wfA a) (hw : 0 < wT a tx n 0) : peK a tx n (rdN a tx n) = n := by
  unfold peK; rw [(tq_end ha hw).1, Nat.add_sub_cancel]
theorem pe_le (ha : wfA a) {k : Nat} (hk : k ≤ rdN a tx n) : peK a tx n k ≤ n := by
  have := eT_le (n := n) ha (tq_ok (tx := tx) (n := n) ha hk).1
  unfold peK; omega
theorem pe_next (ha : wfA a) {k : Nat} (hk : k < rdN a tx n) : peK a tx n (k + 1) = enP a tx n (memK a tx n k) (staK a tx n k) := by
  unfold peK; rw [(tq_step (tx := tx) (n := n) ha hk).2.2.2.1, Nat.add_sub_cancel]
theorem sta_eq (ha : wfA a) {k : Nat} (hk : k < rdN a tx n) : staK a tx n k = peK a tx n k + (if 0 < k ∧ 0 < a 1 then 1 else 0) := by
  have hs := (tq_step (tx := tx) (n := n) ha hk).2.1
  have h0 := tq_0 (tx := tx) (n := n) ha (Nat.le_of_lt hk)
  unfold staK peK
  unfold stP at hs ⊢
  by_cases c : tq a tx n k = 0 ∨ a 1 = 0
  · rw [if_pos c]
    have : ¬ (0 < k ∧ 0 < a 1) := by
      rcases c with c | c
      · have := h0.mp c; omega
      · omega
    rw [if_neg this]; omega
  · rw [if_neg c] at hs ⊢
    have : 0 < k ∧ 0 < a 1 := by
      refine ⟨Nat.pos_of_ne_zero (fun w => c (Or.inl (h0.mpr w))), Nat.pos_of_ne_zero (fun w => c (Or.inr w))⟩
    rw [if_pos this]
    by_cases c2 : eT a tx n (tq a tx n k) - 1 < n ∧ tx (eT a tx n (tq a tx n k) - 1) = a 1
    · rw [if_pos c2]; omega
    · rw [if_neg c2] at hs; exact absurd rfl hs
/-- how long an occurrence is -/
theorem enP_len {m p : Nat} (ha : wfA a) (hm : m < a 0) (h : enP a tx n m p ≠ 0) : (a (20 + m) = 0 ∧ enP a tx n m p = p + wl a m) ∨ (a (20 + m) = 2 ∧ enP a tx n m p = p + wl a m + 1) ∨ (a (20 + m) = 1 ∧ ∃ d, 1 ≤ d ∧ d ≤ 3 ∧ enP a tx n m p = p + wl a m + d) := by
  have hk := (ha.2.2.2 m hm).2.2.1
  have h5 := dct_le tx n (p + wl a m)
  unfold enP at h ⊢
  by_cases c : mch a tx n m p < wl a m
  · rw [if_pos c] at h; exact absurd rfl h
  · rw [if_neg c] at h ⊢
    rcases (show a (20 + m) = 0 ∨ a (20 + m) = 1 ∨ a (20 + m) = 2 by omega) with k | k | k
    · rw [k, if_neg (by decide), if_neg (by decide)]; exact Or.inl ⟨rfl, rfl⟩
    · rw [k] at h ⊢
      rw [if_pos rfl] at h ⊢
      by_cases c2 : dct tx n (p + wl a m) = 0
      · rw [if_pos c2] at h; exact absurd rfl h
      · rw [if_neg c2]
        exact Or.inr (Or.inr ⟨rfl, _, by omega, h5, rfl⟩)
    · rw [k] at h ⊢
      rw [if_neg (by decide), if_pos rfl] at h ⊢
      by_cases c2 : cp tx n (p + wl a m) = true
      · rw [if_pos c2]; exact Or.inr (Or.inl ⟨rfl, rfl⟩)
      · rw [if_neg c2] at h; exact absurd rfl h
theorem rd_0 (ha : wfA a) (hw : 0 < wT a tx n 0) : rdN a tx n = 0 ↔ n = 0 := by
  constructor
  · intro h
    have := pe_end ha hw
    rw [h, pe_0 ha] at this; omega
  · intro h
    refine Classical.byContradiction (fun c => ?_)
    have hk : 0 < rdN a tx n := Nat.pos_of_ne_zero c
    have h1 := pe_le (tx := tx) (n := n) ha (show 0 + 1 ≤ rdN a tx n from hk)
    rw [pe_next ha hk] at h1
    have := enP_in ha (memK_lt hk) (tq_step (tx := tx) (n := n) ha hk).2.2.1
    omega
/-! counts of members -/
theorem cin_le3 (t m : Nat) : cin t m ≤ 3 := by have := cin_lt t m; omega
theorem cin_mono (ha : wfA a) (m : Nat) : ∀ d k, k + d ≤ rdN a tx n → cin (tq a tx n k) m ≤ cin (tq a tx n (k + d)) m
  | 0, k, _ => Nat.le_refl _
  | d + 1, k, h => by
    have h1 := cin_mono ha m d k (by omega)
    have h2 := tq_cin (tx := tx) (n := n) ha (show k + d < rdN a tx n by omega) m
    rw [show k + (d + 1) = k + d + 1 from rfl, h2]; omega
theorem cin_most (ha : wfA a) {m : Nat} (hm : m < a 0) : ∀ k, k ≤ rdN a tx n → cin (tq a tx n k) m ≤ a (32 + m)
  | 0, _ => by
    show cin 0 m ≤ _
    rw [cin_0]; exact Nat.zero_le _
  | k + 1, h => by
    have hk : k < rdN a tx n := by omega
    have h1 := cin_most ha hm k (by omega)
    rw [tq_cin ha hk m]
    by_cases c : m = memK a tx n k
    · have h2 := (tq_step (tx := tx) (n := n) ha hk).1
      unfold mayB at h2
      simp only [Bool.and_eq_true, decide_eq_true_eq] at h2
      rw [if_pos c]
      have h3 := h2.1
      rw [← c] at h3
      omega
    · rw [if_neg c]; exact h1
theorem may_rule {t m b : Nat} (h : mayB a t m = true) (hb : b < a 0) (hr : (a (44 + m)).testBit b = true) : cin t b = 0 := by
  unfold mayB at h
  simp only [Bool.and_eq_true, List.all_eq_true] at h
  have h2 := h.2 b (List.mem_range.mpr hb)
  rw [hr] at h2
  simpa using h2
/-! values -/
theorem vF_at (ha : wfA a) {k : Nat} (hk : k < rdN a tx n) : ∀ r i, i + r = rdN a tx n → i ≤ k → vF a tx n (memK a tx n k) (cin (tq a tx n k) (memK a tx n k)) r i (cin (tq a tx n i) (memK a tx n k)) = nI (vlK a tx n k) := by
  intro r
  induction r with
  | zero => intro i h1 h2; omega
  | succ r ih =>
    intro i h1 h2
    unfold vF
    have hi : i < rdN a tx n := by omega
    have hc := tq_cin (tx := tx) (n := n) ha hi (memK a tx n k)
    by_cases c : memK a tx n i = memK a tx n k
    · rw [if_pos c]
      by_cases e : i = k
      · rw [e, if_pos rfl]
      · rw [if_pos c.symm] at hc
        have hm := cin_mono (tx := tx) (n := n) ha (memK a tx n k) (k - (i + 1)) (i + 1) (by omega)
        rw [show i + 1 + (k - (i + 1)) = k by omega] at hm
        rw [if_neg (by omega), ← hc]
        exact ih (i + 1) (by omega) (by omega)
    · rw [if_neg c]
      replace hc : cin (tq a tx n (i + 1)) (memK a tx n k) = cin (tq a tx n i) (memK a tx n k) := by rw [hc, if_neg (fun w => c w.symm)]; rfl
      have e : i ≠ k := fun w => c (by rw [w])
      rw [← hc]
      exact ih (i + 1) (by omega) (by omega)
theorem vF_end (ha : wfA a) (m : Nat) : ∀ r i, i + r = rdN a tx n → vF a tx n m (cin (tq a tx n (rdN a tx n)) m) r i (cin (tq a tx n i) m) = if cin (tq a tx n (rdN a tx n)) m = 0 then nI (a (38 + m)) else -9 := by
  intro r
  induction r with
  | zero =>
    intro i h1
    unfold vF
    rw [show i = rdN a tx n by omega]
    by_cases c : cin (tq a tx n (rdN a tx n)) m = 0
    · rw [if_pos ⟨c, c⟩, if_pos c]
    · rw [if_neg (fun w => c w.1), if_neg c]
  | succ r ih =>
    intro i h1
    unfold vF
    have hi : i < rdN a tx n := by omega
    have hc := tq_cin (tx := tx) (n := n) ha hi m
    by_cases c : memK a tx n i = m
    · rw [if_pos c]
      rw [if_pos c.symm] at hc
      have hm := cin_mono (tx := tx) (n := n) ha m r (i + 1) (by omega)
      rw [show i + 1 + r = rdN a tx n by omega] at hm
      rw [if_neg (by omega), ← hc]
      exact ih (i + 1) (by omega)
    · rw [if_neg c]
      replace hc : cin (tq a tx n (i + 1)) m = cin (tq a tx n i) m := by rw [hc, if_neg (fun w => c w.symm)]; rfl
      rw [← hc]
      exact ih (i + 1) (by omega)
/-! the rank -/
theorem rk_mono : ∀ d k, rkN a tx n k ≤ rkN a tx n (k + d)
  | 0, k => Nat.le_refl _
  | d + 1, k => by
    have := rk_mono d k
    have e : rkN a tx n (k + (d + 1)) = rkN a tx n (k + d) + ((if enB a (tq a tx n (k + d)) = true then 1 else 0) + cb a 0 (tq a tx n (k + d)) (fm a tx n (tq a tx n (k + d)) - 1)) := rfl
    omega
/-- what is left of the rank behind the first k -/
noncomputable def rmK (a tx : Nat → Nat) (n k : Nat) : Nat := rkN a tx n (rdN a tx n) - rkN a tx n k
theorem rm_end : rmK a tx n (rdN a tx n) = 0 := Nat.sub_self _
theorem rm_step {k : Nat} (hk : k < rdN a tx n) : rmK a tx n k = (if enB a (tq a tx n k) = true then 1 else 0) + cb a 0 (tq a tx n k) (memK a tx n k) + rmK a tx n (k + 1) := by
  have h := rk_mono (a := a) (tx := tx) (n := n) (rdN a tx n - (k + 1)) (k + 1)
  rw [show k + 1 + (rdN a tx n - (k + 1)) = rdN a tx n by omega] at h
  have e : rkN a tx n (k + 1) = rkN a tx n k + ((if enB a (tq a tx n k) = true then 1 else 0) + cb a 0 (tq a tx n k) (memK a tx n k)) := rfl
  unfold rmK
  rw [e] at h ⊢
  omega
theorem rm_lt (ha : wfA a) (hw : 0 < wT a tx n 0) : ∀ d k, k + d = rdN a tx n → rmK a tx n k < oc a 0 (tq a tx n k)
  | 0, k, h => by
    rw [show k = rdN a tx n from h, rm_end, oc_eq ha (tq_ok (tx := tx) (n := n) ha (Nat.le_refl _)).2, if_pos ⟨Or.inl rfl, (tq_end ha hw).2⟩]
    omega
  | d + 1, k, h => by
    have hk : k < rdN a tx n := by omega
    have h1 := rm_lt ha hw d (k + 1) (by omega)
    obtain ⟨s1, _, _, _, s5⟩ := tq_step (tx := tx) (n := n) ha hk
    have hm := memK_lt hk
    rw [rm_step hk, oc_eq (L := 0) ha (tq_ok (tx := tx) (n := n) ha (Nat.le_of_lt hk)).2]
    have h2 : cb a 0 (tq a tx n k) (memK a tx n k + 1) ≤ cb a 0 (tq a tx n k) (a 0) := smN_up _ (by omega)
    rw [cb_1, if_pos s1, ← s5] at h2
    have h3 : (if ((0 : Nat) = 0 ∨ occ a (tq a tx n k) + 1 = 0) ∧ enB a (tq a tx n k) = true then 1 else 0) = (if enB a (tq a tx n k) = true then 1 else 0) := by
      by_cases c : enB a (tq a tx n k) = true
      · rw [if_pos c, if_pos ⟨Or.inl rfl, c⟩]
      · rw [if_neg c, if_neg (fun w => c w.2)]
    rw [h3]
    omega
theorem srch_eq {f : Nat → Bool} {r m : Nat} (hm : m < r) (h : f m = true) (h0 : ∀ i, i < m → f i = false) : srch f r 0 = m + 1 := by
  rcases srch_spec f r 0 with ⟨_, q⟩ | ⟨q1, q2, q3, q4⟩
  · have := q m (Nat.zero_le _) (by omega)
    rw [h] at this; cases this
  · rcases Nat.lt_trichotomy (srch f r 0 - 1) m with w | w | w
    · rw [h0 _ w] at q3; cases q3
    · omega
    · have := q4 m (Nat.zero_le _) w
      rw [h] at this; cases this
theorem oM_all (ha : wfA a) (hw : 0 < wT a tx n 0) : ∀ d k f, k + d ≤ rdN a tx n → k + f = 18 → oM a f (tq a tx n k) (rmK a tx n k) d = if k + d < rdN a tx n then memK a tx n (k + d) + 1 else 0 := by
  have h18 := rdN_le a tx n
  have hs : ∀ k, k < rdN a tx n → ¬ (enB a (tq a tx n k) = true ∧ rmK a tx n k = 0) ∧ srch (fun m => decide (rmK a tx n k - (if enB a (tq a tx n k) = true then 1 else 0) < cb a 0 (tq a tx n k) (m + 1))) (a 0) 0 = memK a tx n k + 1 ∧ rmK a tx n k - (if enB a (tq a tx n k) = true then 1 else 0) - cb a 0 (tq a tx n k) (memK a tx n k) = rmK a tx n (k + 1) := by
    intro k hk
    have h1 := rm_lt ha hw (rdN a tx n - (k + 1)) (k + 1) (by omega)
    obtain ⟨s1, _, _, _, s5⟩ := tq_step (tx := tx) (n := n) ha hk
    have hm := memK_lt hk
    have e := rm_step hk
    generalize hown : (if enB a (tq a tx n k) = true then 1 else 0) = own at e ⊢
    refine ⟨fun w => ?_, srch_eq hm ?_ (fun i hi => ?_), by omega⟩
    · rw [if_pos w.1] at hown; omega
    · rw [decide_eq_true_eq, cb_1, if_pos s1, ← s5]; omega
    · rw [decide_eq_false_iff_not]
      have : cb a 0 (tq a tx n k) (i + 1) ≤ cb a 0 (tq a tx n k) (memK a tx n k) := smN_up _ (by omega)
      omega
  intro d
  induction d with
  | zero =>
    intro k f h1 h2
    rw [Nat.add_zero]
    by_cases c : k < rdN a tx n
    · rw [if_pos c]
      obtain ⟨g1, g2, g3⟩ := hs k c
      rw [show f = 17 - k + 1 by omega]
      unfold oM
      rw [if_neg g1, g2, if_neg (by omega), if_pos rfl]
    · rw [if_neg c]
      have e : k = rdN a tx n := by omega
      cases f with
      | zero => rfl
      | succ f =>
        unfold oM
        rw [if_pos ⟨by rw [e]; exact (tq_end ha hw).2, by rw [e]; exact rm_end⟩]
  | succ d ih =>
    intro k f h1 h2
    have c : k < rdN a tx n := by omega
    obtain ⟨g1, g2, g3⟩ := hs k c
    rw [show f = 17 - k + 1 by omega]
    unfold oM
    rw [if_neg g1, g2, if_neg (by omega), if_neg (by omega), Nat.add_sub_cancel, g3, ← (tq_step (tx := tx) (n := n) ha c).2.2.2.2, Nat.add_sub_cancel, ih (k + 1) (17 - k) (by omega) (by omega), show k + 1 + d = k + (d + 1) by omega]
theorem rk_lt (ha : wfA a) (hw : 0 < wT a tx n 0) : rkN a tx n (rdN a tx n) < oc a 0 0 := by
  have h := rm_lt ha hw (rdN a tx n) 0 (by omega)
  exact h
theorem ord_rank (ha : wfA a) (hw : 0 < wT a tx n 0) {k : Nat} (hk : k ≤ rdN a tx n) : ordI a (rkN a tx n (rdN a tx n)) k = if k < rdN a tx n then nI (memK a tx n k) else -9 := by
  have h := oM_all (tx := tx) (n := n) ha hw k 0 18 (by omega) rfl
  rw [Nat.zero_add] at h
  have h2 : oM a 18 0 (rkN a tx n (rdN a tx n)) k = if k < rdN a tx n then memK a tx n k + 1 else 0 := h
  have hl := rk_lt ha hw
  unfold ordI
  rw [if_neg (by omega), h2]
  by_cases c : k < rdN a tx n
  · rw [if_pos c, if_pos c]
    unfold oI; rw [if_neg (by omega), Nat.add_sub_cancel]
  · rw [if_neg c, if_neg c]; rfl
end
/-! four bits a member -/
def c16 (t : Nat) : Nat := smN (fun m => cin t m * 16 ^ m) 6
theorem c16_lt (t : Nat) : c16 t < 2 ^ 24 := by
  have h0 := cin_lt t 0; have h1 := cin_lt t 1; have h2 := cin_lt t 2; have h3 := cin_lt t 3; have h4 := cin_lt t 4; have h5 := cin_lt t 5
  show 0 + cin t 0 * 1 + cin t 1 * 16 + cin t 2 * 256 + cin t 3 * 4096 + cin t 4 * 65536 + cin t 5 * 1048576 < 16777216
  omega
theorem c16_dig (t : Nat) {b : Nat} (hb : b < 6) : c16 t / 2 ^ (4 * b) % 16 = cin t b := by
  have h0 := cin_lt t 0; have h1 := cin_lt t 1; have h2 := cin_lt t 2; have h3 := cin_lt t 3; have h4 := cin_lt t 4; have h5 := cin_lt t 5
  have e : c16 t = 0 + cin t 0 * 1 + cin t 1 * 16 + cin t 2 * 256 + cin t 3 * 4096 + cin t 4 * 65536 + cin t 5 * 1048576 := rfl
  rw [e]
  rcases (show b = 0 ∨ b = 1 ∨ b = 2 ∨ b = 3 ∨ b = 4 ∨ b = 5 by omega) with rfl | rfl | rfl | rfl | rfl | rfl
  · show _ / 1 % 16 = _; omega
  · show _ / 16 % 16 = _; omega
  · show _ / 256 % 16 = _; omega
  · show _ / 4096 % 16 = _; omega
  · show _ / 65536 % 16 = _; omega
  · show _ / 1048576 % 16 = _; omega
theorem c16_get (t : Nat) {b : Nat} (hb : b < 6) : (nI (c16 t) >>> (((4 : Int32) * nI b) &&& 31)) &&& (15 : Int32) = nI (cin t b) := by
  have h := c16_lt t
  rw [show (4 : Int32) * nI b = nI (4 * b) from pk_mul 4 b, c_shr (by omega) (by omega), pk_andN (n := c16 t / 2 ^ (4 * b)) (Nat.lt_of_le_of_lt (Nat.div_le_self _ _) (by omega)) (m := (15 : Int32)) 4 (by decide)]
  rw [show 2 ^ 4 = 16 from rfl, c16_dig t hb]
theorem c16_0 : c16 0 = 0 := smN_zero 6 (fun m _ => by rw [cin_0, Nat.zero_mul])
theorem c16_add {t t2 m : Nat} (hm : m < 6) (h : ∀ o, cin t2 o = cin t o + (if o = m then 1 else 0)) : nI (c16 t) + ((1 : Int32) <<< (((4 : Int32) * nI m) &&& 31)) = nI (c16 t2) := by
  rw [show (4 : Int32) * nI m = nI (4 * m) from pk_mul 4 m, c_shl1 (by omega), nI_add]
  congr 1
  refine (smN_at 6 hm (fun o _ hn => ?_) ?_).symm
  · rw [h o, if_neg hn, Nat.add_zero]
  · show cin t2 m * 16 ^ m = cin t m * 16 ^ m + 2 ^ (4 * m)
    rw [h m, if_pos rfl, Nat.add_mul, Nat.one_mul, Nat.pow_mul]
