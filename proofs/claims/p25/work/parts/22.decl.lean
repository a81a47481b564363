/-! sums and sets -/
def smN (f : Nat → Nat) : Nat → Nat
  | 0 => 0
  | c + 1 => smN f c + f c
def sN (f : Nat → Bool) (c : Nat) : Nat := smN (fun m => if f m then 2 ^ m else 0) c
theorem sN_lt (f : Nat → Bool) : ∀ c, sN f c < 2 ^ c
  | 0 => by show 0 < 1; exact Nat.one_pos
  | c + 1 => by
    have h := sN_lt f c
    have e : sN f (c + 1) = sN f c + (if f c then 2 ^ c else 0) := rfl
    rw [e, Nat.pow_succ]
    split <;> omega
theorem sN_1 (f : Nat → Bool) (c : Nat) : sN f (c + 1) = sN f c + (if f c then 2 ^ c else 0) := rfl
theorem or_pow {x k : Nat} (h : x < 2 ^ k) : x ||| 2 ^ k = x + 2 ^ k := by
  rw [Nat.or_comm, Nat.add_comm]
  have := Nat.two_pow_add_eq_or_of_lt h 1
  rw [Nat.mul_one] at this
  exact this.symm
theorem sN_bit (f : Nat → Bool) : ∀ c i, (sN f c).testBit i = (decide (i < c) && f i)
  | 0, i => by simp [sN, smN]
  | c + 1, i => by
    rw [sN_1]
    have hlt := sN_lt f c
    by_cases hf : f c = true
    · rw [if_pos hf, ← or_pow hlt, Nat.testBit_or, sN_bit f c i, Nat.testBit_two_pow]
      by_cases hi : i = c
      · subst hi; simp [hf]
      · by_cases h2 : i < c
        · simp [h2, show i < c + 1 by omega, show ¬ c = i by omega]
        · simp [h2, show ¬ i < c + 1 by omega, show ¬ c = i by omega]
    · rw [if_neg hf, Nat.add_zero, sN_bit f c i]
      by_cases hi : i = c
      · subst hi; simp [hf]
      · by_cases h2 : i < c
        · simp [h2, show i < c + 1 by omega]
        · simp [h2, show ¬ i < c + 1 by omega]
theorem sN_set {f : Nat → Bool} {c : Nat} (hc : c < 28) : nI (sN f c) ||| ((1 : Int32) <<< (nI c &&& 31)) = nI (sN f c + 2 ^ c) := by
  rw [c_shl1 (by omega), c_or, or_pow (sN_lt f c)]
theorem c_and {a b : Nat} : nI a &&& nI b = nI (a &&& b) := by
  apply Int32.toBitVec_inj.mp
  apply BitVec.eq_of_toNat_eq
  show ((nI a).toBitVec &&& (nI b).toBitVec).toNat = _
  rw [BitVec.toNat_and]
  show (a % 2 ^ 32) &&& (b % 2 ^ 32) = (a &&& b) % 2 ^ 32
  rw [Nat.and_mod_two_pow]
theorem smN_congr {f g : Nat → Nat} : ∀ c, (∀ m, m < c → f m = g m) → smN f c = smN g c
  | 0, _ => rfl
  | c + 1, h => by
    show smN f c + f c = smN g c + g c
    rw [smN_congr c (fun m hm => h m (by omega)), h c (by omega)]
theorem smN_le {f : Nat → Nat} {B : Nat} : ∀ c, (∀ m, m < c → f m ≤ B) → smN f c ≤ c * B
  | 0, _ => Nat.zero_le _
  | c + 1, h => by
    show smN f c + f c ≤ _
    have h1 := smN_le c (fun m hm => h m (by omega))
    have h2 := h c (by omega)
    rw [Nat.succ_mul]; omega
theorem pow_le6 {c : Nat} (h : c ≤ 6) : 2 ^ c ≤ 64 := Nat.pow_le_pow_right (n := 2) (by decide) h
theorem fin1 {d : Nat} (h : s_kd d = 1) : s_fin d 0 = d + 1 ∧ s_fin d 1 = d + 2 := (by decide +kernel : ∀ k, k < 117 → s_kd k = 1 → s_fin k 0 = k + 1 ∧ s_fin k 1 = k + 2) d (s_kd_lt h (by decide)) h
theorem v_at1 {d m : Nat} (hd : s_kd d = 1) (hm : m < 6) {σ : Sg} {post : Nat → Sg → Prop} (h : post (σ.2.2 (d + 1) m) σ) : wpX1_at d (nI m) σ post := by
  unfold wpX1_at
  refine ⟨fun c => absurd c (nI_pos (by omega)), fun _ => pk_le 6 m (fun c => by omega) (fun _ => ⟨pk_in m 6 hm, ?_⟩)⟩
  intro q hq
  rw [(fin1 hd).1, nI_clamp (by omega)] at hq
  rw [hq]; exact h
theorem v_has {d : Nat} {a : Nat → Nat} (ha : wfA a) {σ : Sg} (hR : σ.1 d 2 = nI (a 0)) (x : Int32) {post : Int32 → Sg → Prop} (h1 : ∀ m, m < a 0 → x = nI m → post 1 σ) (h0 : (∀ m, m < a 0 → x ≠ nI m) → post 0 σ) : wpX1_has d x σ post := by
  have h6 := ha.1
  unfold wpX1_has
  rw [hR]
  refine ⟨fun c => h0 (fun m hm e => ?_), fun c => ?_⟩
  · subst e; exact absurd c (nI_pos (by omega))
  · obtain ⟨j, hj, rfl⟩ := nI_of c
    refine pk_le (a 0) j (fun c => h0 (fun m hm e => ?_)) (fun c => pk_le 6 j (fun c => by omega) (fun _ => h1 j c rfl))
    have := (nI_eq hj (by omega)).mp e
    omega
theorem v_hasWord {d : Nat} (hd : s_kd d = 1) {a : Nat → Nat} (ha : wfA a) {σ : Sg} (hR : repD σ d a) (W : Nat) (hW : W < 2 ^ 31) {post : Int32 → Sg → Prop} (h1 : ∀ m, m < a 0 → wdN a m = W → post 1 σ) (h0 : (∀ m, m < a 0 → wdN a m ≠ W) → post 0 σ) : wpX1_hasWord d (nI W) σ post := by
  have h6 := ha.1
  have key : ∀ r k, k + r = a 0 → (∀ m, m < k → wdN a m ≠ W) → BX1_hasWord_2 d (nI W) post (r + 1) (nI k) σ := by
    intro r
    induction r with
    | zero =>
      intro k hk hn
      rw [BX1_hasWord_2, hR.1]
      exact pk_le (a 0) k (fun _ => h0 (fun m hm => hn m (by omega))) (fun c => by omega)
    | succ r ih =>
      intro k hk hn
      rw [BX1_hasWord_2, hR.1]
      refine pk_le (a 0) k (fun c => by omega) (fun c => v_at1 hd (by omega) (fun _ => ?_))
      rw [(hR.2.2 k c).1]
      have hw := wd_lt ha c
      refine ⟨fun e => ?_, fun e => h1 k c ((nI_eq (by omega) hW).mp e)⟩
      rw [nI_1]
      refine ih (k + 1) (by omega) (fun m hm => ?_)
      rcases Nat.lt_or_ge m k with q | q
      · exact hn m q
      · have : m = k := by omega
        subst this
        intro e2; rw [e2] at e; exact e rfl
  exact ⟨a 0 + 1, key (a 0) 0 (by omega) (fun m hm => by omega)⟩
theorem v_timesIn {t m : Nat} (ht : t < 2 ^ 31) (hm : m < 15) {σ : Sg} {post : Int32 → Sg → Prop} (h : post (nI (cin t m)) σ) : wpX6_timesIn (nI t) (nI m) σ post := by
  unfold wpX6_timesIn
  rw [c_cin ht hm]; exact h
theorem v_withOneMore {t m : Nat} (hm : m < 15) {σ : Sg} {post : Int32 → Sg → Prop} (h : post (nI (t + 4 ^ m)) σ) : wpX6_withOneMore (nI t) (nI m) σ post := by
  unfold wpX6_withOneMore
  rw [c_with hm]; exact h
theorem v_bitOf {n m : Nat} (hn : n < 2 ^ 31) (hm : m < 30) {σ : Sg} {post : Int32 → Sg → Prop} (h : post (nI (if n.testBit m then 1 else 0)) σ) : wpX6_bitOf (nI n) (nI m) σ post := by
  unfold wpX6_bitOf
  rw [c_bit hn hm]; exact h
theorem v_presentIn {d t : Nat} {a : Nat → Nat} (ha : wfA a) (ht : t < 2 ^ 31) {σ : Sg} (hR : σ.1 d 2 = nI (a 0)) {post : Int32 → Sg → Prop} (h : post (nI (sN (fun m => decide (0 < cin t m)) (a 0))) σ) : wpX1_presentIn d (nI t) σ post := by
  have h6 := ha.1
  have key : ∀ r k, k + r = a 0 → BX1_presentIn_4 d (nI t) post (r + 1) (nI (sN (fun m => decide (0 < cin t m)) k)) (nI k) σ := by
    intro r
    induction r with
    | zero =>
      intro k hk
      rw [BX1_presentIn_4, hR]
      refine pk_le (a 0) k (fun _ => ?_) (fun c => by omega)
      rw [show k = a 0 by omega]; exact h
    | succ r ih =>
      intro k hk
      rw [BX1_presentIn_4, hR]
      refine pk_le (a 0) k (fun c => by omega) (fun c => v_timesIn ht (by omega) ?_)
      have hc := cin_lt t k
      have h2 := ih (k + 1) (by omega)
      rw [sN_1] at h2
      refine pk_le (cin t k) 0 (fun c2 => ?_) (fun c2 => ?_)
      · rw [if_neg (by simp; omega), Nat.add_zero] at h2
        rw [nI_1]; exact h2
      · rw [if_pos (by simp; omega)] at h2
        rw [sN_set (by omega), nI_1]; exact h2
  exact ⟨a 0 + 1, key (a 0) 0 (by omega)⟩
theorem may_iff {a : Nat → Nat} (ha : wfA a) {t m : Nat} (hm : m < a 0) : mayB a t m = (decide (cin t m < a (32 + m)) && decide (a (44 + m) &&& sN (fun m => decide (0 < cin t m)) (a 0) = 0)) := by
  unfold mayB
  congr 1
  rw [Bool.eq_iff_iff, List.all_eq_true, decide_eq_true_eq]
  constructor
  · intro h
    apply Nat.eq_of_testBit_eq
    intro i
    rw [Nat.testBit_and, sN_bit, Nat.zero_testBit]
    by_cases hi : i < a 0
    · have := h i (List.mem_range.mpr hi)
      simp only [Bool.or_eq_true, Bool.not_eq_true', decide_eq_true_eq] at this
      rcases this with q | q
      · rw [q]; rfl
      · simp [q]
    · simp [hi]
  · intro h b hb
    rw [List.mem_range] at hb
    have h2 := congrArg (fun x => x.testBit b) h
    simp only [Nat.testBit_and, sN_bit, Nat.zero_testBit, hb, decide_true, Bool.true_and] at h2
    simp only [Bool.or_eq_true, Bool.not_eq_true', decide_eq_true_eq]
    by_cases q : (a (44 + m)).testBit b = true
    · right
      rw [q, Bool.true_and] at h2
      have := of_decide_eq_false h2
      omega
    · left; exact Bool.eq_false_iff.mpr q
theorem v_followers {d t : Nat} (hd : s_kd d = 1) {a : Nat → Nat} (ha : wfA a) (ht : t < 2 ^ 31) {σ : Sg} (hR : repD σ d a) {post : Int32 → Sg → Prop} (h : post (nI (sN (mayB a t) (a 0))) σ) : wpX1_followers d (nI t) σ post := by
  have h6 := ha.1
  have hp6 := pow_le6 h6
  unfold wpX1_followers
  refine v_presentIn ha ht hR.1 ?_
  generalize hP : sN (fun m => decide (0 < cin t m)) (a 0) = P
  have key : ∀ r k, k + r = a 0 → BX1_followers_11 d (nI t) post (r + 1) (nI P) (nI (sN (mayB a t) k)) (nI k) σ := by
    intro r
    induction r with
    | zero =>
      intro k hk
      rw [BX1_followers_11, hR.1]
      refine pk_le (a 0) k (fun _ => ?_) (fun c => by omega)
      rw [show k = a 0 by omega]; exact h
    | succ r ih =>
      intro k hk
      rw [BX1_followers_11, hR.1]
      refine pk_le (a 0) k (fun c => by omega) (fun c => v_timesIn ht (by omega) (v_at1 hd (by omega) (fun _ => ?_)))
      obtain ⟨q0, q1, q2, q3, q4, q5⟩ := hR.2.2 k c
      have hw := ha.2.2.2 k c
      have hc := cin_lt t k
      have h2 := ih (k + 1) (by omega)
      rw [sN_1, may_iff ha c, hP] at h2
      rw [q3]
      refine pk_le (a (32 + k)) (cin t k) (fun c2 => ?_) (fun c2 => v_at1 hd (by omega) (fun _ => ?_))
      · rw [if_neg (by simp; omega), Nat.add_zero] at h2
        rw [nI_1]; exact h2
      · rw [q5, c_and]
        have hle : a (44 + k) &&& P ≤ a (44 + k) := Nat.and_le_left
        by_cases hz : a (44 + k) &&& P = 0
        · rw [if_pos (by simp [hz]; omega)] at h2
          rw [hz]
          refine ⟨fun e => absurd rfl e, fun _ => ?_⟩
          rw [sN_set (by omega), nI_1]; exact h2
        · rw [if_neg (by simp [hz]), Nat.add_zero] at h2
          refine ⟨fun _ => ?_, fun e => absurd e (nI_ne0 (by omega) (by omega))⟩
          rw [nI_1]; exact h2
  exact ⟨a 0 + 1, key (a 0) 0 (by omega)⟩
theorem enB_1 (a : Nat → Nat) (t k : Nat) : (List.range (k + 1)).all (fun m => decide (a (26 + m) ≤ cin t m)) = ((List.range k).all (fun m => decide (a (26 + m) ≤ cin t m)) && decide (a (26 + k) ≤ cin t k)) := by
  rw [List.range_succ, List.all_append]; simp
theorem v_isEnough {d t : Nat} (hd : s_kd d = 1) {a : Nat → Nat} (ha : wfA a) (ht : t < 2 ^ 31) {σ : Sg} (hR : repD σ d a) {post : Int32 → Sg → Prop} (h : post (bI (enB a t)) σ) : wpX1_isEnough d (nI t) σ post := by
  have h6 := ha.1
  have key : ∀ r k, k + r = a 0 → (List.range k).all (fun m => decide (a (26 + m) ≤ cin t m)) = true → BX1_isEnough_2 d (nI t) post (r + 1) (nI k) σ := by
    intro r
    induction r with
    | zero =>
      intro k hk hall
      rw [BX1_isEnough_2, hR.1]
      refine pk_le (a 0) k (fun _ => ?_) (fun c => by omega)
      rw [show k = a 0 by omega] at hall
      rw [enB, hall] at h; exact h
    | succ r ih =>
      intro k hk hall
      rw [BX1_isEnough_2, hR.1]
      refine pk_le (a 0) k (fun c => by omega) (fun c => v_timesIn ht (by omega) (v_at1 hd (by omega) (fun _ => ?_)))
      have hw := ha.2.2.2 k c
      have hc := cin_lt t k
      rw [(hR.2.2 k c).2.2.1]
      refine pk_le (a (26 + k)) (cin t k) (fun c2 => ?_) (fun c2 => ?_)
      · rw [nI_1]
        exact ih (k + 1) (by omega) (by rw [enB_1, hall, decide_eq_true c2]; rfl)
      · have hf : enB a t = false := by
          rw [Bool.eq_false_iff]
          intro hE
          have := List.all_eq_true.mp hE k (List.mem_range.mpr c)
          rw [decide_eq_true_eq] at this
          omega
        rw [hf] at h; exact h
  exact ⟨a 0 + 1, key (a 0) 0 (by omega) rfl⟩
theorem v_lengthOf {d t : Nat} {a : Nat → Nat} (ha : wfA a) (ht : t < 2 ^ 31) {σ : Sg} (hR : σ.1 d 2 = nI (a 0)) {post : Int32 → Sg → Prop} (h : post (nI (smN (cin t) (a 0))) σ) : wpX1_lengthOf d (nI t) σ post := by
  have h6 := ha.1
  have key : ∀ r k, k + r = a 0 → BX1_lengthOf_4 d (nI t) post (r + 1) (nI (smN (cin t) k)) (nI k) σ := by
    intro r
    induction r with
    | zero =>
      intro k hk
      rw [BX1_lengthOf_4, hR]
      refine pk_le (a 0) k (fun _ => ?_) (fun c => by omega)
      rw [show k = a 0 by omega]; exact h
    | succ r ih =>
      intro k hk
      rw [BX1_lengthOf_4, hR]
      refine pk_le (a 0) k (fun c => by omega) (fun c => v_timesIn ht (by omega) ?_)
      rw [nI_add, nI_1]
      exact ih (k + 1) (by omega)
  exact ⟨a 0 + 1, key (a 0) 0 (by omega)⟩
theorem v_leastO {d : Nat} (hd : s_kd d = 1) {a : Nat → Nat} (ha : wfA a) {σ : Sg} (hR : repD σ d a) {post : Int32 → Sg → Prop} (h : post (nI (smN (fun m => a (26 + m)) (a 0))) σ) : wpX1_leastOccurrences d σ post := by
  have h6 := ha.1
  have key : ∀ r k, k + r = a 0 → BX1_leastOccurrences_4 d post (r + 1) (nI (smN (fun m => a (26 + m)) k)) (nI k) σ := by
    intro r
    induction r with
    | zero =>
      intro k hk
      rw [BX1_leastOccurrences_4, hR.1]
      refine pk_le (a 0) k (fun _ => ?_) (fun c => by omega)
      rw [show k = a 0 by omega]; exact h
    | succ r ih =>
      intro k hk
      rw [BX1_leastOccurrences_4, hR.1]
      refine pk_le (a 0) k (fun c => by omega) (fun c => v_at1 hd (by omega) (fun _ => ?_))
      rw [(hR.2.2 k c).2.2.1, nI_add, nI_1]
      exact ih (k + 1) (by omega)
  exact ⟨a 0 + 1, key (a 0) 0 (by omega)⟩
theorem v_mostO {d : Nat} (hd : s_kd d = 1) {a : Nat → Nat} (ha : wfA a) {σ : Sg} (hR : repD σ d a) {post : Int32 → Sg → Prop} (h : post (nI (smN (fun m => a (32 + m)) (a 0))) σ) : wpX1_mostOccurrences d σ post := by
  have h6 := ha.1
  have key : ∀ r k, k + r = a 0 → BX1_mostOccurrences_4 d post (r + 1) (nI (smN (fun m => a (32 + m)) k)) (nI k) σ := by
    intro r
    induction r with
    | zero =>
      intro k hk
      rw [BX1_mostOccurrences_4, hR.1]
      refine pk_le (a 0) k (fun _ => ?_) (fun c => by omega)
      rw [show k = a 0 by omega]; exact h
    | succ r ih =>
      intro k hk
      rw [BX1_mostOccurrences_4, hR.1]
      refine pk_le (a 0) k (fun c => by omega) (fun c => v_at1 hd (by omega) (fun _ => ?_))
      rw [(hR.2.2 k c).2.2.2.1, nI_add, nI_1]
      exact ih (k + 1) (by omega)
  exact ⟨a 0 + 1, key (a 0) 0 (by omega)⟩
def popN (n : Nat) : Nat := smN (fun i => if n.testBit i then 1 else 0) 6
def bcE (x0 : Int32) : Int32 := (((((((((x0 - ((((x0).toUInt32 >>> (((1 : Int32)).toUInt32 &&& Int32.toUInt32 31)).toInt32) &&& (1431655765 : Int32))) &&& (858993459 : Int32)) + (((((x0 - ((((x0).toUInt32 >>> (((1 : Int32)).toUInt32 &&& Int32.toUInt32 31)).toInt32) &&& (1431655765 : Int32)))).toUInt32 >>> (((2 : Int32)).toUInt32 &&& Int32.toUInt32 31)).toInt32) &&& (858993459 : Int32))) + ((((((x0 - ((((x0).toUInt32 >>> (((1 : Int32)).toUInt32 &&& Int32.toUInt32 31)).toInt32) &&& (1431655765 : Int32))) &&& (858993459 : Int32)) + (((((x0 - ((((x0).toUInt32 >>> (((1 : Int32)).toUInt32 &&& Int32.toUInt32 31)).toInt32) &&& (1431655765 : Int32)))).toUInt32 >>> (((2 : Int32)).toUInt32 &&& Int32.toUInt32 31)).toInt32) &&& (858993459 : Int32)))).toUInt32 >>> (((4 : Int32)).toUInt32 &&& Int32.toUInt32 31)).toInt32)) &&& (252645135 : Int32)) + ((((((((x0 - ((((x0).toUInt32 >>> (((1 : Int32)).toUInt32 &&& Int32.toUInt32 31)).toInt32) &&& (1431655765 : Int32))) &&& (858993459 : Int32)) + (((((x0 - ((((x0).toUInt32 >>> (((1 : Int32)).toUInt32 &&& Int32.toUInt32 31)).toInt32) &&& (1431655765 : Int32)))).toUInt32 >>> (((2 : Int32)).toUInt32 &&& Int32.toUInt32 31)).toInt32) &&& (858993459 : Int32))) + ((((((x0 - ((((x0).toUInt32 >>> (((1 : Int32)).toUInt32 &&& Int32.toUInt32 31)).toInt32) &&& (1431655765 : Int32))) &&& (858993459 : Int32)) + (((((x0 - ((((x0).toUInt32 >>> (((1 : Int32)).toUInt32 &&& Int32.toUInt32 31)).toInt32) &&& (1431655765 : Int32)))).toUInt32 >>> (((2 : Int32)).toUInt32 &&& Int32.toUInt32 31)).toInt32) &&& (858993459 : Int32)))).toUInt32 >>> (((4 : Int32)).toUInt32 &&& Int32.toUInt32 31)).toInt32)) &&& (252645135 : Int32))).toUInt32 >>> (((8 : Int32)).toUInt32 &&& Int32.toUInt32 31)).toInt32)) + (((((((((x0 - ((((x0).toUInt32 >>> (((1 : Int32)).toUInt32 &&& Int32.toUInt32 31)).toInt32) &&& (1431655765 : Int32))) &&& (858993459 : Int32)) + (((((x0 - ((((x0).toUInt32 >>> (((1 : Int32)).toUInt32 &&& Int32.toUInt32 31)).toInt32) &&& (1431655765 : Int32)))).toUInt32 >>> (((2 : Int32)).toUInt32 &&& Int32.toUInt32 31)).toInt32) &&& (858993459 : Int32))) + ((((((x0 - ((((x0).toUInt32 >>> (((1 : Int32)).toUInt32 &&& Int32.toUInt32 31)).toInt32) &&& (1431655765 : Int32))) &&& (858993459 : Int32)) + (((((x0 - ((((x0).toUInt32 >>> (((1 : Int32)).toUInt32 &&& Int32.toUInt32 31)).toInt32) &&& (1431655765 : Int32)))).toUInt32 >>> (((2 : Int32)).toUInt32 &&& Int32.toUInt32 31)).toInt32) &&& (858993459 : Int32)))).toUInt32 >>> (((4 : Int32)).toUInt32 &&& Int32.toUInt32 31)).toInt32)) &&& (252645135 : Int32)) + ((((((((x0 - ((((x0).toUInt32 >>> (((1 : Int32)).toUInt32 &&& Int32.toUInt32 31)).toInt32) &&& (1431655765 : Int32))) &&& (858993459 : Int32)) + (((((x0 - ((((x0).toUInt32 >>> (((1 : Int32)).toUInt32 &&& Int32.toUInt32 31)).toInt32) &&& (1431655765 : Int32)))).toUInt32 >>> (((2 : Int32)).toUInt32 &&& Int32.toUInt32 31)).toInt32) &&& (858993459 : Int32))) + ((((((x0 - ((((x0).toUInt32 >>> (((1 : Int32)).toUInt32 &&& Int32.toUInt32 31)).toInt32) &&& (1431655765 : Int32))) &&& (858993459 : Int32)) + (((((x0 - ((((x0).toUInt32 >>> (((1 : Int32)).toUInt32 &&& Int32.toUInt32 31)).toInt32) &&& (1431655765 : Int32)))).toUInt32 >>> (((2 : Int32)).toUInt32 &&& Int32.toUInt32 31)).toInt32) &&& (858993459 : Int32)))).toUInt32 >>> (((4 : Int32)).toUInt32 &&& Int32.toUInt32 31)).toInt32)) &&& (252645135 : Int32))).toUInt32 >>> (((8 : Int32)).toUInt32 &&& Int32.toUInt32 31)).toInt32))).toUInt32 >>> (((16 : Int32)).toUInt32 &&& Int32.toUInt32 31)).toInt32)) &&& (63 : Int32)))
set_option maxRecDepth 100000 in
theorem bc_all : ∀ n, n < 64 → bcE (nI n) = nI (popN n) := by decide +kernel
theorem v_bitCount {n : Nat} (hn : n < 64) {σ : Sg} {post : Int32 → Sg → Prop} (h : post (nI (popN n)) σ) : wpJ6_bitCount_0f7a4 (nI n) σ post := by
  show post (bcE (nI n)) σ
  rw [bc_all n hn]; exact h
theorem popN_le (n : Nat) : popN n ≤ 6 := by
  have := smN_le (f := fun i => if n.testBit i then 1 else 0) (B := 1) 6 (fun m _ => by split <;> omega)
  unfold popN; omega
theorem v_countRules {d : Nat} (hd : s_kd d = 1) {a : Nat → Nat} (ha : wfA a) {σ : Sg} (hR : repD σ d a) {post : Int32 → Sg → Prop} (h : post (nI (smN (fun m => popN (a (44 + m))) (a 0))) σ) : wpX1_countRules d σ post := by
  have h6 := ha.1
  have hp6 := pow_le6 h6
  have key : ∀ r k, k + r = a 0 → BX1_countRules_4 d post (r + 1) (nI (smN (fun m => popN (a (44 + m))) k)) (nI k) σ := by
    intro r
    induction r with
    | zero =>
      intro k hk
      rw [BX1_countRules_4, hR.1]
      refine pk_le (a 0) k (fun _ => ?_) (fun c => by omega)
      rw [show k = a 0 by omega]; exact h
    | succ r ih =>
      intro k hk
      rw [BX1_countRules_4, hR.1]
      refine pk_le (a 0) k (fun c => by omega) (fun c => v_at1 hd (by omega) (fun _ => ?_))
      have hw := (ha.2.2.2 k c).2.2.2.2.2.2
      rw [(hR.2.2 k c).2.2.2.2.2]
      refine v_bitCount (by omega) ?_
      rw [nI_add, nI_1]
      exact ih (k + 1) (by omega)
  exact ⟨a 0 + 1, key (a 0) 0 (by omega)⟩
def mnL (a : Nat → Nat) (m o : Nat) : Nat := if wl a o < wl a m then wl a o else wl a m
def clB (a : Nat → Nat) (m o : Nat) : Bool := decide (wdN a m % 2 ^ (8 * mnL a m o) = wdN a o % 2 ^ (8 * mnL a m o))
theorem v_clashesWith {a : Nat → Nat} (ha : wfA a) {m o q r : Nat} (hm : m < a 0) (ho : o < a 0) {σ : Sg} (hq : σ.1 q 0 = nI (wdN a m)) (hr : σ.1 r 0 = nI (wdN a o)) {post : Int32 → Sg → Prop} (h : post (bI (clB a m o)) σ) : wpX3_clashesWith q r σ post := by
  have h1 := wl_le a m
  have h2 := wl_le a o
  have w1 := wd_lt ha hm
  have w2 := wd_lt ha ho
  have hmn : mnL a m o ≤ 3 := by unfold mnL; split <;> omega
  unfold wpX3_clashesWith
  refine v_wordLength ha hm hq (v_wordLength ha ho hr ?_)
  have e : (if nI (wl a o) < nI (wl a m) then nI (wl a o) else nI (wl a m)) = nI (mnL a m o) := by
    unfold mnL
    by_cases c : wl a o < wl a m
    · rw [if_pos c, if_pos (nI_lt c (by omega))]
    · rw [if_neg c, if_neg (nI_nlt (by omega) (by omega))]
  unfold wpX6_bitsBelow
  dsimp only
  rw [e, hq, hr, c_mul8, c_below (by omega) (by omega), c_below (by omega) (by omega)]
  have m1 := Nat.mod_le (wdN a m) (2 ^ (8 * mnL a m o))
  have m2 := Nat.mod_le (wdN a o) (2 ^ (8 * mnL a m o))
  unfold clB at h
  by_cases c : wdN a m % 2 ^ (8 * mnL a m o) = wdN a o % 2 ^ (8 * mnL a m o)
  · rw [decide_eq_true c] at h
    exact ⟨fun z => absurd (by rw [c]) z, fun _ => h⟩
  · rw [decide_eq_false c] at h
    exact ⟨fun _ => h, fun z => absurd ((nI_eq (by omega) (by omega)).mp z) c⟩
theorem v_clashesOf {d m : Nat} (hd : s_kd d = 1) {a : Nat → Nat} (ha : wfA a) (hm : m < a 0) {σ : Sg} (hR : repD σ d a) {post : Int32 → Sg → Prop} (h : post (nI (sN (fun o => decide (o ≠ m) && clB a m o) (a 0))) σ) : wpX1_clashesOf d (nI m) σ post := by
  have h6 := ha.1
  have key : ∀ r k, k + r = a 0 → BX1_clashesOf_4 d (nI m) post (r + 1) (nI (sN (fun o => decide (o ≠ m) && clB a m o) k)) (nI k) σ := by
    intro r
    induction r with
    | zero =>
      intro k hk
      rw [BX1_clashesOf_4, hR.1]
      refine pk_le (a 0) k (fun _ => ?_) (fun c => by omega)
      rw [show k = a 0 by omega]; exact h
    | succ r ih =>
      intro k hk
      rw [BX1_clashesOf_4, hR.1]
      have h2 := ih (k + 1) (by omega)
      rw [sN_1] at h2
      refine pk_le (a 0) k (fun c => by omega) (fun c => ?_)
      refine pk_eq k m (fun c2 => ?_) (fun c2 => v_at1 hd (by omega) (fun _ => v_at1 hd (by omega) (fun _ => ?_)))
      · rw [if_neg (by simp [c2]), Nat.add_zero] at h2
        rw [nI_1]; exact h2
      · refine v_clashesWith ha hm c (hR.2.2 m hm).1 (hR.2.2 k c).1 ?_
        refine bI_0 _ (fun e => ?_) (fun e => ?_)
        · rw [if_neg (by simp [e]), Nat.add_zero] at h2
          rw [nI_1]; exact h2
        · rw [if_pos (by simp [e, c2])] at h2
          rw [sN_set (by omega), nI_1]; exact h2
  exact ⟨a 0 + 1, key (a 0) 0 (by omega)⟩
theorem v_countClash {d : Nat} (hd : s_kd d = 1) {a : Nat → Nat} (ha : wfA a) {σ : Sg} (hR : repD σ d a) {post : Int32 → Sg → Prop} (h : post (nI (smN (fun m => popN (sN (fun o => decide (o ≠ m) && clB a m o) (a 0))) (a 0) / 2)) σ) : wpX1_countClashingPairs d σ post := by
  have h6 := ha.1
  have hp6 := pow_le6 h6
  have key : ∀ r k, k + r = a 0 → BX1_countClashingPairs_4 d post (r + 1) (nI (smN (fun m => popN (sN (fun o => decide (o ≠ m) && clB a m o) (a 0))) k)) (nI k) σ := by
    intro r
    induction r with
    | zero =>
      intro k hk
      rw [BX1_countClashingPairs_4, hR.1]
      refine pk_le (a 0) k (fun _ => ?_) (fun c => by omega)
      rw [show k = a 0 by omega]
      have hb := smN_le (f := fun m => popN (sN (fun o => decide (o ≠ m) && clB a m o) (a 0))) (B := 6) (a 0) (fun m _ => popN_le _)
      rw [show nI (smN (fun m => popN (sN (fun o => decide (o ≠ m) && clB a m o) (a 0))) (a 0)) / (2 : Int32) = nI (smN (fun m => popN (sN (fun o => decide (o ≠ m) && clB a m o) (a 0))) (a 0) / 2) from pk_div (d := 2) (by omega) (by decide) (by decide)]
      exact h
    | succ r ih =>
      intro k hk
      rw [BX1_countClashingPairs_4, hR.1]
      refine pk_le (a 0) k (fun c => by omega) (fun c => v_clashesOf hd ha c hR ?_)
      have hl := sN_lt (fun o => decide (o ≠ k) && clB a k o) (a 0)
      refine v_bitCount (by omega) ?_
      rw [nI_add, nI_1]
      exact ih (k + 1) (by omega)
  exact ⟨a 0 + 1, key (a 0) 0 (by omega)⟩
theorem v_tallies {d : Nat} {a : Nat → Nat} (ha : wfA a) {σ : Sg} (hR : σ.1 d 2 = nI (a 0)) {post : Int32 → Sg → Prop} (h : post (nI (4 ^ a 0)) σ) : wpX1_tallies d σ post := by
  have h6 := ha.1
  unfold wpX1_tallies
  rw [hR, c_mul2, c_shl1 (by omega), c_pow4]; exact h
