/-! in how many ways a beginning goes on to a reading -/
def wyF (a tx : Nat → Nat) (n : Nat) : Nat → Nat → Nat → Nat
  | 0, _, _ => 0
  | k + 1, t, p => (if p = n ∧ enB a t = true then 1 else 0) + smN (fun m => if nxP a tx n t p m = 0 then 0 else wyF a tx n k (t + 4 ^ m) (nxP a tx n t p m)) (a 0)
def wy (a tx : Nat → Nat) (n t p : Nat) : Nat := wyF a tx n (4096 - t) t p
theorem nx_lt {a tx : Nat → Nat} {n t p m : Nat} (ha : wfA a) (ht : t < 4 ^ a 0) (hm : m < a 0) (h : nxP a tx n t p m ≠ 0) : t + 4 ^ m < 4 ^ a 0 ∧ cin t m < 3 := by
  have h1 := may_lt ha hm (nx_may rfl h).1
  exact ⟨tal_lt ht hm h1, h1⟩
theorem wyF_eq {a tx : Nat → Nat} {n : Nat} (ha : wfA a) : ∀ k k' t p, t < 4 ^ a 0 → 4096 - t ≤ k → 4096 - t ≤ k' → wyF a tx n k t p = wyF a tx n k' t p := by
  have h4 := pow4_le ha.1
  intro k
  induction k with
  | zero => intro k' t p ht h1; omega
  | succ k ih =>
    intro k' t p ht h1 h2
    cases k' with
    | zero => omega
    | succ k' =>
      show _ + smN _ _ = _ + smN _ _
      congr 1
      refine smN_congr (a 0) (fun m hm => ?_)
      by_cases hz : nxP a tx n t p m = 0
      · rw [if_pos hz, if_pos hz]
      · rw [if_neg hz, if_neg hz]
        have hl := (nx_lt ha ht hm hz).1
        have hp : 0 < 4 ^ m := Nat.pow_pos (by decide)
        exact ih k' _ _ hl (by omega) (by omega)
theorem wy_eq {a tx : Nat → Nat} {n t p : Nat} (ha : wfA a) (ht : t < 4 ^ a 0) : wy a tx n t p = (if p = n ∧ enB a t = true then 1 else 0) + smN (fun m => if nxP a tx n t p m = 0 then 0 else wy a tx n (t + 4 ^ m) (nxP a tx n t p m)) (a 0) := by
  have h4 := pow4_le ha.1
  unfold wy
  rw [show 4096 - t = (4095 - t) + 1 by omega]
  show _ + smN _ _ = _ + smN _ _
  congr 1
  refine smN_congr (a 0) (fun m hm => ?_)
  by_cases hz : nxP a tx n t p m = 0
  · rw [if_pos hz, if_pos hz]
  · rw [if_neg hz, if_neg hz]
    have hl := (nx_lt ha ht hm hz).1
    have hp : 0 < 4 ^ m := Nat.pow_pos (by decide)
    exact wyF_eq ha _ _ _ _ hl (by omega) (by omega)
theorem occ_le {a : Nat → Nat} (ha : wfA a) (t : Nat) : occ a t ≤ 18 := by
  have := smN_le (f := cin t) (B := 3) (a 0) (fun m _ => by have := cin_lt t m; omega)
  have h6 := ha.1
  unfold occ; omega
theorem smN_zero {f : Nat → Nat} : ∀ c, (∀ m, m < c → f m = 0) → smN f c = 0
  | 0, _ => rfl
  | c + 1, h => by
    show smN f c + f c = 0
    rw [smN_zero c (fun m hm => h m (by omega)), h c (by omega)]
theorem wyF_le {a tx : Nat → Nat} {n : Nat} (ha : wfA a) : ∀ k t p, wyF a tx n k t p ≤ 7 ^ (18 - occ a t) := by
  intro k
  induction k with
  | zero => intro t p; exact Nat.zero_le _
  | succ k ih =>
    intro t p
    have h6 := ha.1
    have ho := occ_le ha t
    show (if p = n ∧ enB a t = true then 1 else 0) + smN _ _ ≤ _
    have h1 : (if p = n ∧ enB a t = true then 1 else 0) ≤ 1 := by split <;> omega
    have hp : 0 < 7 ^ (18 - occ a t) := Nat.pow_pos (by decide)
    by_cases h18 : occ a t = 18
    · rw [smN_zero (a 0) (fun m hm => ?_)]
      · omega
      · by_cases hz : nxP a tx n t p m = 0
        · rw [if_pos hz]
        · exfalso
          have h3 := may_lt ha hm (nx_may rfl hz).1
          have := occ_add hm h3
          have := occ_le ha (t + 4 ^ m)
          omega
    · have hs := smN_le (f := fun m => if nxP a tx n t p m = 0 then 0 else wyF a tx n k (t + 4 ^ m) (nxP a tx n t p m)) (B := 7 ^ (17 - occ a t)) (a 0) (fun m hm => ?_)
      · have e : 7 ^ (18 - occ a t) = 7 * 7 ^ (17 - occ a t) := by rw [← Nat.pow_succ']; congr 1; omega
        have hq : 0 < 7 ^ (17 - occ a t) := Nat.pow_pos (by decide)
        have := Nat.mul_le_mul_right (7 ^ (17 - occ a t)) h6
        omega
      · by_cases hz : nxP a tx n t p m = 0
        · rw [if_pos hz]; exact Nat.zero_le _
        · rw [if_neg hz]
          have h3 := may_lt ha hm (nx_may rfl hz).1
          have h4 := occ_add hm h3
          have := ih (t + 4 ^ m) (nxP a tx n t p m)
          rw [h4, show 18 - (occ a t + 1) = 17 - occ a t by omega] at this
          exact this
theorem wy_le {a tx : Nat → Nat} {n : Nat} (ha : wfA a) (t p : Nat) : wy a tx n t p ≤ 1628413597910449 := by
  have h1 := wyF_le (tx := tx) (n := n) ha (4096 - t) t p
  have h2 : 7 ^ (18 - occ a t) ≤ 7 ^ 18 := Nat.pow_le_pow_right (by decide) (by omega)
  unfold wy
  have h3 : (7 : Nat) ^ 18 = 1628413597910449 := by decide
  omega
/-- where the beginnings of a tally end, one more; 0: there is none -/
noncomputable def eT (a tx : Nat → Nat) (n t : Nat) : Nat := @dite _ (∃ p, Rc a tx n t p) (Classical.propDecidable _) (fun h => Classical.choose h + 1) (fun _ => 0)
theorem eT_of {a tx : Nat → Nat} {n t p : Nat} (ha : wfA a) (h : Rc a tx n t p) : eT a tx n t = p + 1 := by
  unfold eT
  rw [dif_pos ⟨p, h⟩, Rc.uniq ha (Classical.choose_spec (⟨p, h⟩ : ∃ p, Rc a tx n t p)) h]
theorem eT_no {a tx : Nat → Nat} {n t : Nat} (h : ¬ ∃ p, Rc a tx n t p) : eT a tx n t = 0 := by
  unfold eT
  rw [dif_neg h]
theorem eT_rc {a tx : Nat → Nat} {n t : Nat} (h : eT a tx n t ≠ 0) : Rc a tx n t (eT a tx n t - 1) := by
  unfold eT at h ⊢
  split
  · rename_i q
    exact Classical.choose_spec q
  · rename_i q
    rw [dif_neg q] at h
    exact absurd rfl h
theorem eT_le {a tx : Nat → Nat} {n t : Nat} (ha : wfA a) (h : eT a tx n t ≠ 0) : eT a tx n t ≤ n + 1 := by
  have := ((eT_rc h).J ha).2.2.2.2.2.2.2.1
  omega
theorem eT_zero {a tx : Nat → Nat} {n : Nat} (ha : wfA a) : eT a tx n 0 = 1 := eT_of ha Rc.zero
noncomputable def sT (a tx : Nat → Nat) (n t : Nat) : Nat := if eT a tx n t = 0 then 0 else sN (fun m => decide (nxP a tx n t (eT a tx n t - 1) m ≠ 0)) (a 0)
noncomputable def wT (a tx : Nat → Nat) (n t : Nat) : Nat := if eT a tx n t = 0 then 0 else wy a tx n t (eT a tx n t - 1)
theorem wT_le {a tx : Nat → Nat} {n : Nat} (ha : wfA a) (t : Nat) : wT a tx n t ≤ 1628413597910449 := by
  unfold wT
  split
  · exact Nat.zero_le _
  · exact wy_le ha _ _
theorem sT_lt {a tx : Nat → Nat} {n t : Nat} (ha : wfA a) : sT a tx n t < 64 := by
  have h1 := pow_le6 ha.1
  unfold sT
  split
  · decide
  · have := sN_lt (fun m => decide (nxP a tx n t (eT a tx n t - 1) m ≠ 0)) (a 0)
    omega
/-- the row of a tally, by the rows of longer ones -/
theorem wT_eq {a tx : Nat → Nat} {n t : Nat} (ha : wfA a) (ht : t < 4 ^ a 0) (h : eT a tx n t ≠ 0) : wT a tx n t = (if eT a tx n t = n + 1 ∧ enB a t = true then 1 else 0) + smN (fun m => if (sT a tx n t).testBit m = true then wT a tx n (t + 4 ^ m) else 0) (a 0) := by
  unfold wT
  rw [if_neg h, wy_eq ha ht]
  congr 1
  · by_cases z : enB a t = true
    · by_cases q : eT a tx n t = n + 1
      · rw [if_pos ⟨by omega, z⟩, if_pos ⟨q, z⟩]
      · rw [if_neg (fun w => q (by omega)), if_neg (fun w => q w.1)]
    · rw [if_neg (fun w => z w.2), if_neg (fun w => z w.2)]
  · refine smN_congr (a 0) (fun m hm => ?_)
    unfold sT
    rw [if_neg h, sN_bit, decide_eq_true hm, Bool.true_and]
    by_cases hz : nxP a tx n t (eT a tx n t - 1) m = 0
    · rw [if_pos hz, if_neg (by simp [hz])]
    · rw [if_neg hz, if_pos (by simp [hz])]
      rw [eT_of ha ((eT_rc h).step hm rfl hz), if_neg (by omega), Nat.add_sub_cancel]
