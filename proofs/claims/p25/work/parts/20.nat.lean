/-! the numbers that both sides speak of: declarations a : Nat → Nat (places as in the reference's row), text tx of n bytes -/
def cin (t m : Nat) : Nat := t / 4 ^ m % 4
def wl (a : Nat → Nat) (m : Nat) : Nat := if a (2 + 3 * m) = 0 then 0 else if a (3 + 3 * m) = 0 then 1 else if a (4 + 3 * m) = 0 then 2 else 3
def mayB (a : Nat → Nat) (t m : Nat) : Bool := decide (cin t m < a (32 + m)) && (List.range (a 0)).all (fun b => !((a (44 + m)).testBit b) || decide (cin t b = 0))
def enB (a : Nat → Nat) (t : Nat) : Bool := (List.range (a 0)).all (fun m => decide (a (26 + m) ≤ cin t m))
def mt (f : Nat → Bool) : Nat → Nat → Nat
  | 0, k => k
  | r + 1, k => if f k then mt f r (k + 1) else k
def dg (tx : Nat → Nat) (n i : Nat) : Bool := decide (i < n) && (decide (48 ≤ tx i) && decide (tx i ≤ 57))
def cp (tx : Nat → Nat) (n i : Nat) : Bool := decide (i < n) && (decide (65 ≤ tx i) && decide (tx i ≤ 90))
def mch (a tx : Nat → Nat) (n m p : Nat) : Nat := mt (fun k => decide (p + k < n) && decide (tx (p + k) = a (2 + 3 * m + k))) (wl a m) 0
def dct (tx : Nat → Nat) (n p : Nat) : Nat := mt (fun k => dg tx n (p + k)) 3 0
/-- where an occurrence of m that begins at p ends; 0: there is none (an end is never 0) -/
def enP (a tx : Nat → Nat) (n m p : Nat) : Nat :=
  if mch a tx n m p < wl a m then 0
  else if a (20 + m) = 1 then (if dct tx n (p + wl a m) = 0 then 0 else p + wl a m + dct tx n (p + wl a m))
  else if a (20 + m) = 2 then (if cp tx n (p + wl a m) then p + wl a m + 1 else 0)
  else p + wl a m
/-- where the next occurrence begins, one more; 0: nowhere -/
def stP (a tx : Nat → Nat) (n t p : Nat) : Nat := if t = 0 ∨ a 1 = 0 then p + 1 else if p < n ∧ tx p = a 1 then p + 2 else 0
def nv (tx : Nat → Nat) (s : Nat) : Nat → Nat
  | 0 => 0
  | d + 1 => 10 * nv tx s d + (tx (s + d) - 48)
/-- the value of an occurrence of m that begins at p -/
def vlP (a tx : Nat → Nat) (n m p : Nat) : Nat :=
  if a (20 + m) = 1 then nv tx (p + wl a m) (dct tx n (p + wl a m)) else if a (20 + m) = 2 then tx (p + wl a m) - 65 else 1
/-- a number that may be wanting: 0 for NONE, else one more -/
def oI (x : Nat) : Int32 := if x = 0 then -9 else nI (x - 1)
/-- as above, for ends: 0 for NONE -/
def eI (x : Nat) : Int32 := if x = 0 then -9 else nI x
def wfA (a : Nat → Nat) : Prop := a 0 ≤ 6 ∧ (a 1 = 0 ∨ (33 ≤ a 1 ∧ a 1 ≤ 47)) ∧ (∀ k, a k ≤ 999) ∧ ∀ m, m < a 0 →
  (97 ≤ a (2 + 3 * m) ∧ a (2 + 3 * m) ≤ 122) ∧ ((a (3 + 3 * m) = 0 ∧ a (4 + 3 * m) = 0) ∨ ((97 ≤ a (3 + 3 * m) ∧ a (3 + 3 * m) ≤ 122) ∧ (a (4 + 3 * m) = 0 ∨ (97 ≤ a (4 + 3 * m) ∧ a (4 + 3 * m) ≤ 122)))) ∧
  a (20 + m) ≤ 2 ∧ a (26 + m) ≤ a (32 + m) ∧ 1 ≤ a (32 + m) ∧ a (32 + m) ≤ 3 ∧ a (44 + m) < 2 ^ a 0
def wfT (tx : Nat → Nat) (n : Nat) : Prop := n ≤ 60 ∧ ∀ j, 32 ≤ tx j ∧ tx j ≤ 126
theorem cin_lt (t m : Nat) : cin t m < 4 := Nat.mod_lt _ (by decide)
theorem wl_le (a : Nat → Nat) (m : Nat) : wl a m ≤ 3 := by unfold wl; split <;> (try split) <;> (try split) <;> omega
theorem wfA.wl1 {a : Nat → Nat} (h : wfA a) {m : Nat} (hm : m < a 0) : 1 ≤ wl a m := by
  have := (h.2.2.2 m hm).1.1
  unfold wl; split <;> (try split) <;> (try split) <;> omega
theorem mt_le (f : Nat → Bool) : ∀ r k, mt f r k ≤ k + r
  | 0, k => Nat.le_refl k
  | r + 1, k => by
    unfold mt
    split
    · have := mt_le f r (k + 1); omega
    · omega
theorem mt_ge (f : Nat → Bool) : ∀ r k, k ≤ mt f r k
  | 0, k => Nat.le_refl k
  | r + 1, k => by
    unfold mt
    split
    · have := mt_ge f r (k + 1); omega
    · omega
theorem mt_all (f : Nat → Bool) : ∀ r k i, k ≤ i → i < mt f r k → f i = true
  | 0, k, i, h1, h2 => by unfold mt at h2; omega
  | r + 1, k, i, h1, h2 => by
    unfold mt at h2
    split at h2
    · rcases Nat.lt_or_ge k i with q | q
      · exact mt_all f r (k + 1) i q h2
      · have : i = k := by omega
        subst this; assumption
    · omega
theorem mt_end (f : Nat → Bool) : ∀ r k, mt f r k < k + r → f (mt f r k) = false
  | 0, k, h => by unfold mt at h; omega
  | r + 1, k, h => by
    unfold mt at h ⊢
    split
    · rename_i hf
      rw [if_pos hf] at h
      exact mt_end f r (k + 1) (by omega)
    · rename_i hf
      exact Bool.eq_false_iff.mpr hf
theorem mt_congr {f g : Nat → Bool} : ∀ r k, (∀ i, k ≤ i → i < k + r → f i = g i) → mt f r k = mt g r k
  | 0, k, _ => rfl
  | r + 1, k, h => by
    unfold mt
    rw [h k (Nat.le_refl k) (by omega), mt_congr r (k + 1) (fun i h1 h2 => h i (by omega) (by omega))]
theorem mch_le (a tx : Nat → Nat) (n m p : Nat) : mch a tx n m p ≤ wl a m := by
  have := mt_le (fun k => decide (p + k < n) && decide (tx (p + k) = a (2 + 3 * m + k))) (wl a m) 0
  unfold mch; omega
theorem dct_le (tx : Nat → Nat) (n p : Nat) : dct tx n p ≤ 3 := by
  have := mt_le (fun k => dg tx n (p + k)) 3 0
  unfold dct; omega
theorem mch_in (a tx : Nat → Nat) (n m p : Nat) : mch a tx n m p = 0 ∨ p + mch a tx n m p ≤ n := by
  rcases Nat.eq_zero_or_pos (mch a tx n m p) with h | h
  · exact Or.inl h
  · right
    have := mt_all (fun k => decide (p + k < n) && decide (tx (p + k) = a (2 + 3 * m + k))) (wl a m) 0 (mch a tx n m p - 1) (Nat.zero_le _) (by unfold mch at h ⊢; omega)
    simp only [Bool.and_eq_true, decide_eq_true_eq] at this
    omega
theorem dct_in (tx : Nat → Nat) (n p : Nat) : dct tx n p = 0 ∨ p + dct tx n p ≤ n := by
  rcases Nat.eq_zero_or_pos (dct tx n p) with h | h
  · exact Or.inl h
  · right
    have := mt_all (fun k => dg tx n (p + k)) 3 0 (dct tx n p - 1) (Nat.zero_le _) (by unfold dct at h ⊢; omega)
    simp only [dg, Bool.and_eq_true, decide_eq_true_eq] at this
    omega
/-- an occurrence has a byte at least, and ends in the text -/
theorem enP_in {a tx : Nat → Nat} {n m p : Nat} (ha : wfA a) (hm : m < a 0) (h : enP a tx n m p ≠ 0) : p < enP a tx n m p ∧ enP a tx n m p ≤ n := by
  have h1 := ha.wl1 hm
  unfold enP at h ⊢
  have h2 := mch_in a tx n m p
  have h3 := dct_in tx n (p + wl a m)
  split
  · rename_i q; rw [if_pos q] at h; exact absurd rfl h
  · rename_i q
    rw [if_neg q] at h
    have h4 := mch_le a tx n m p
    split
    · rename_i q2
      rw [if_pos q2] at h
      split
      · rename_i q3; rw [if_pos q3] at h; exact absurd rfl h
      · rename_i q3; omega
    · rename_i q2
      rw [if_neg q2] at h
      split
      · rename_i q3
        rw [if_pos q3] at h
        split
        · rename_i q4
          simp only [cp, Bool.and_eq_true, decide_eq_true_eq] at q4
          omega
        · rename_i q4; rw [if_neg q4] at h; exact absurd rfl h
      · omega
/-! numbers of the machine -/
theorem nI_m9 {k : Nat} (h : k < 2 ^ 31) : (-9 : Int32) = nI k ↔ False := by
  constructor
  · intro e
    have := congrArg Int32.toInt e
    rw [nI_toInt h] at this
    have h9 : (-9 : Int32).toInt = -9 := by decide
    omega
  · exact False.elim
theorem c_sh1 : ∀ k, k < 30 → ((nI k &&& 31).toBitVec.smod 32).toNat = k := by decide +kernel
theorem c_shl1 {k : Nat} (h : k < 30) : (1 : Int32) <<< (nI k &&& 31) = nI (2 ^ k) := by
  have := pk_shlN (n := 1) (nI k &&& 31) k (c_sh1 k h) (by rw [Nat.one_mul]; exact Nat.pow_lt_pow_right (by decide) (by omega))
  rw [Nat.one_mul] at this
  exact this
theorem c_shr {n k : Nat} (hn : n < 2 ^ 31) (h : k < 30) : nI n >>> (nI k &&& 31) = nI (n / 2 ^ k) := pk_shrN hn (nI k &&& 31) k (c_sh1 k h)
theorem c_and1 {n : Nat} (hn : n < 2 ^ 31) : nI n &&& (1 : Int32) = nI (n % 2) := pk_andN (n := n) (by omega) (m := 1) 1 (by decide)
theorem c_and3 {n : Nat} (hn : n < 2 ^ 31) : nI n &&& (3 : Int32) = nI (n % 4) := pk_andN (n := n) (by omega) (m := 3) 2 (by decide)
theorem c_and255 {n : Nat} (hn : n < 2 ^ 31) : nI n &&& (255 : Int32) = nI (n % 256) := pk_andN (n := n) (by omega) (m := 255) 8 (by decide)
theorem c_mul2 (m : Nat) : (2 : Int32) * nI m = nI (2 * m) := pk_mul 2 m
theorem c_mul8 (m : Nat) : (8 : Int32) * nI m = nI (8 * m) := pk_mul 8 m
theorem c_pow4 (m : Nat) : 2 ^ (2 * m) = 4 ^ m := by rw [Nat.pow_mul]
theorem c_cin {t m : Nat} (ht : t < 2 ^ 31) (hm : m < 15) : (nI t >>> (((2 : Int32) * nI m) &&& 31)) &&& (3 : Int32) = nI (cin t m) := by
  rw [c_mul2, c_shr ht (by omega), c_and3 (Nat.lt_of_le_of_lt (Nat.div_le_self _ _) ht), c_pow4]
  rfl
theorem c_with {t m : Nat} (hm : m < 15) : nI t + ((1 : Int32) <<< (((2 : Int32) * nI m) &&& 31)) = nI (t + 4 ^ m) := by
  rw [c_mul2, c_shl1 (by omega), nI_add, c_pow4]
theorem c_bit {n k : Nat} (hn : n < 2 ^ 31) (h : k < 30) : (nI n >>> (nI k &&& 31)) &&& (1 : Int32) = nI (if n.testBit k then 1 else 0) := by
  rw [c_shr hn h, c_and1 (Nat.lt_of_le_of_lt (Nat.div_le_self _ _) hn)]
  congr 1
  rw [Nat.testBit_eq_decide_div_mod_eq]
  have := Nat.mod_lt (n / 2 ^ k) (show 0 < 2 by decide)
  by_cases q : n / 2 ^ k % 2 = 1
  · simp [q]
  · simp [q]; omega
theorem c_below {n k : Nat} (hn : n < 2 ^ 31) (h : k < 30) : nI n &&& (((1 : Int32) <<< (nI k &&& 31)) - (1 : Int32)) = nI (n % 2 ^ k) := by
  rw [c_shl1 h]
  have hp : 2 ^ k < 2 ^ 30 := Nat.pow_lt_pow_right (by decide) h
  have h1 : 1 ≤ 2 ^ k := Nat.two_pow_pos k
  rw [show nI (2 ^ k) - (1 : Int32) = nI (2 ^ k - 1) from pk_sub h1]
  exact pk_andN (n := n) (by omega) k (by rw [pk_tn (by omega)])
theorem c_or {a b : Nat} : nI a ||| nI b = nI (a ||| b) := by
  apply Int32.toBitVec_inj.mp
  apply BitVec.eq_of_toNat_eq
  show ((nI a).toBitVec ||| (nI b).toBitVec).toNat = _
  rw [BitVec.toNat_or]
  show (a % 2 ^ 32) ||| (b % 2 ^ 32) = (a ||| b) % 2 ^ 32
  rw [Nat.or_mod_two_pow]
