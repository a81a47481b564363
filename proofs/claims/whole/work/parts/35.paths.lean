/-! ways from the empty tally to another, laid tally after tally -/
theorem smN_add (f g : Nat → Nat) : ∀ c, smN (fun k => f k + g k) c = smN f c + smN g c
  | 0 => rfl
  | c + 1 => by
    show smN (fun k => f k + g k) c + (f c + g c) = (smN f c + f c) + (smN g c + g c)
    rw [smN_add f g c]; omega
theorem smN_swap (F : Nat → Nat → Nat) (M : Nat) : ∀ T, smN (fun t => smN (fun m => F t m) M) T = smN (fun m => smN (fun t => F t m) T) M
  | 0 => (smN_0 M).symm
  | T + 1 => by
    show smN (fun t => smN (fun m => F t m) M) T + smN (fun m => F T m) M = smN (fun m => smN (fun t => F t m) T + F T m) M
    rw [smN_swap F M T, smN_add]
theorem smN_one {x y : Nat} : ∀ T, smN (fun t => if t = x then y else 0) T = if x < T then y else 0
  | 0 => by rw [if_neg (Nat.not_lt_zero _)]; rfl
  | T + 1 => by
    show smN (fun t => if t = x then y else 0) T + (if T = x then y else 0) = _
    rw [smN_one T]
    by_cases h : T = x
    · rw [if_neg (by omega), if_pos h, if_pos (by omega), Nat.zero_add]
    · by_cases h2 : x < T
      · rw [if_pos h2, if_neg h, if_pos (by omega)]; rfl
      · rw [if_neg h2, if_neg h, if_neg (by omega)]
theorem smN_mul (f : Nat → Nat) (y : Nat) : ∀ c, smN (fun k => f k * y) c = smN f c * y
  | 0 => (Nat.zero_mul y).symm
  | c + 1 => by
    show smN (fun k => f k * y) c + f c * y = (smN f c + f c) * y
    rw [smN_mul f y c, Nat.add_mul]
theorem smN_in {f : Nat → Nat} : ∀ c m, m < c → f m ≤ smN f c
  | 0, m, h => absurd h (Nat.not_lt_zero m)
  | c + 1, m, h => by
    show f m ≤ smN f c + f c
    by_cases q : m = c
    · rw [q]; omega
    · have := smN_in (f := f) c m (by omega); omega
theorem smN_ext {f : Nat → Nat} {c : Nat} : ∀ d, c ≤ d → (∀ m, c ≤ m → m < d → f m = 0) → smN f d = smN f c
  | 0, h, _ => by rw [show c = 0 by omega]
  | d + 1, h, hz => by
    by_cases q : c = d + 1
    · rw [q]
    · show smN f d + f d = _
      rw [hz d (by omega) (by omega), Nat.add_zero]
      exact smN_ext d (by omega) (fun m h1 h2 => hz m h1 (by omega))
def bhS (a : Nat → Nat) : Nat → Nat → Nat
  | 0, t => if t = 0 then 1 else 0
  | u + 1, t => bhS a u t + smN (fun m => if mayB a u m = true ∧ t = u + 4 ^ m then bhS a u u else 0) (a 0)
def bhP (a : Nat → Nat) (u k t : Nat) : Nat := bhS a u t + smN (fun m => if mayB a u m = true ∧ t = u + 4 ^ m then bhS a u u else 0) k
theorem bhP_1 (a : Nat → Nat) (u k t : Nat) : bhP a u (k + 1) t = bhP a u k t + (if mayB a u k = true ∧ t = u + 4 ^ k then bhS a u u else 0) := (Nat.add_assoc _ _ _).symm
theorem p4_pos (m : Nat) : 0 < 4 ^ m := Nat.pow_pos (by decide)
theorem bhP_old {a : Nat → Nat} {u t : Nat} (h : t ≤ u) (k : Nat) : bhP a u k t = bhS a u t := by
  unfold bhP
  rw [smN_zero k (fun m _ => if_neg (fun w => by have := p4_pos m; omega)), Nat.add_zero]
theorem bhS_old {a : Nat → Nat} {u t : Nat} (h : t ≤ u) : bhS a (u + 1) t = bhS a u t := bhP_old h (a 0)
theorem bhS_keep {a : Nat → Nat} {t : Nat} : ∀ d, bhS a (t + d) t = bhS a t t
  | 0 => rfl
  | d + 1 => by rw [show t + (d + 1) = t + d + 1 from rfl, bhS_old (by omega)]; exact bhS_keep d
theorem bhS_out {a : Nat → Nat} (ha : wfA a) : ∀ u t, 4 ^ a 0 ≤ t → bhS a u t = 0
  | 0, t, h => if_neg (by have := p4_pos (a 0); omega)
  | u + 1, t, h => by
    show bhS a u t + smN _ _ = 0
    rw [bhS_out ha u t h, smN_zero (a 0) (fun m hm => ?_)]
    by_cases q : mayB a u m = true ∧ t = u + 4 ^ m
    · rw [if_pos q]
      rcases Nat.lt_or_ge u (4 ^ a 0) with y | y
      · have := tal_lt y hm (may_lt ha hm q.1); omega
      · exact bhS_out ha u u y
    · rw [if_neg q]
def gE (a : Nat → Nat) (L t : Nat) : Nat := if (L = 0 ∨ occ a t + 1 = L) ∧ enB a t = true then 1 else 0
theorem bh_pot {a : Nat → Nat} {L : Nat} (ha : wfA a) : ∀ u, u ≤ 4 ^ a 0 → smN (fun t => bhS a u t * (if t < u then gE a L t else oc a L t)) (4 ^ a 0) = oc a L 0
  | 0, _ => by
    rw [smN_congr (g := fun t => if t = 0 then oc a L 0 else 0) (4 ^ a 0) (fun t _ => ?_), smN_one, if_pos (p4_pos _)]
    show (if t = 0 then 1 else 0) * (if t < 0 then gE a L t else oc a L t) = _
    rw [if_neg (Nat.not_lt_zero t)]
    by_cases z : t = 0
    · rw [if_pos z, if_pos z, Nat.one_mul, z]
    · rw [if_neg z, if_neg z, Nat.zero_mul]
  | u + 1, hu => by
    have ih := bh_pot (L := L) ha u (by omega)
    have hN : u < 4 ^ a 0 := by omega
    have h1 : smN (fun t => bhS a u t * (if t < u then gE a L t else oc a L t)) (4 ^ a 0) = smN (fun t => bhS a u t * (if t < u + 1 then gE a L t else oc a L t)) (4 ^ a 0) + bhS a u u * cb a L u (a 0) := by
      refine smN_at (m := u) (4 ^ a 0) hN (fun t _ h2 => ?_) ?_
      · by_cases z : t < u
        · rw [if_pos z, if_pos (by omega)]
        · rw [if_neg z, if_neg (by omega)]
      · rw [if_neg (Nat.lt_irrefl u), if_pos (Nat.lt_succ_self u), oc_eq ha hN, Nat.mul_add]
        rfl
    have h2 : smN (fun t => bhS a (u + 1) t * (if t < u + 1 then gE a L t else oc a L t)) (4 ^ a 0) = smN (fun t => bhS a u t * (if t < u + 1 then gE a L t else oc a L t)) (4 ^ a 0) + smN (fun t => smN (fun m => if t = u + 4 ^ m then (if mayB a u m = true then oc a L (u + 4 ^ m) else 0) * bhS a u u else 0) (a 0)) (4 ^ a 0) := by
      rw [← smN_add]
      refine smN_congr (4 ^ a 0) (fun t _ => ?_)
      show (bhS a u t + smN _ (a 0)) * _ = _
      rw [Nat.add_mul, ← smN_mul]
      congr 1
      refine smN_congr (a 0) (fun m _ => ?_)
      by_cases q : t = u + 4 ^ m
      · have := p4_pos m
        rw [if_pos q, if_neg (show ¬ t < u + 1 by omega)]
        by_cases y : mayB a u m = true
        · rw [if_pos ⟨y, q⟩, if_pos y, q, Nat.mul_comm]
        · rw [if_neg (fun w => y w.1), if_neg y, Nat.zero_mul, Nat.zero_mul]
      · rw [if_neg q, if_neg (fun w => q w.2), Nat.zero_mul]
    have h3 : smN (fun t => smN (fun m => if t = u + 4 ^ m then (if mayB a u m = true then oc a L (u + 4 ^ m) else 0) * bhS a u u else 0) (a 0)) (4 ^ a 0) = bhS a u u * cb a L u (a 0) := by
      rw [smN_swap, Nat.mul_comm]
      unfold cb
      rw [← smN_mul]
      refine smN_congr (a 0) (fun m hm => ?_)
      rw [smN_one]
      by_cases y : mayB a u m = true
      · rw [if_pos (tal_lt hN hm (may_lt ha hm y))]
      · rw [if_neg y, Nat.zero_mul]; split <;> rfl
    rw [h2, h3, ← h1]; exact ih
theorem cin_out {t c : Nat} (ht : t < 4 ^ c) {m : Nat} (hm : c ≤ m) : cin t m = 0 := by
  unfold cin
  rw [Nat.div_eq_of_lt (Nat.lt_of_lt_of_le ht (Nat.pow_le_pow_right (by decide) hm))]
theorem size_occ {a : Nat → Nat} (ha : wfA a) {t : Nat} (ht : t < 4 ^ a 0) : smN (cin t) 6 = occ a t :=
  smN_ext 6 ha.1 (fun m h1 _ => cin_out ht h1)
/-- the sum that the reference makes -/
theorem bh_sum {a : Nat → Nat} {N : Nat} (ha : wfA a) : smN (fun t => if smN (cin t) 6 = N ∧ enB a t = true then bhS a 4096 t else 0) 4096 = oc a (N + 1) 0 := by
  have h4 := pow4_le ha.1
  rw [smN_ext (c := 4 ^ a 0) 4096 h4 (fun t h1 _ => by rw [bhS_out ha _ _ h1]; split <;> rfl), ← bh_pot ha (4 ^ a 0) (Nat.le_refl _)]
  refine smN_congr (4 ^ a 0) (fun t ht => ?_)
  have e1 : bhS a 4096 t = bhS a t t := by rw [show 4096 = t + (4096 - t) by omega]; exact bhS_keep _
  have e2 : bhS a (4 ^ a 0) t = bhS a t t := by rw [show 4 ^ a 0 = t + (4 ^ a 0 - t) by omega]; exact bhS_keep _
  rw [if_pos ht, e1, e2, size_occ ha ht]
  unfold gE
  by_cases y : occ a t = N ∧ enB a t = true
  · rw [if_pos y, if_pos ⟨Or.inr (by omega), y.2⟩, Nat.mul_one]
  · rw [if_neg y, if_neg (fun w => y ⟨by omega, w.2⟩), Nat.mul_zero]
/-- the same declarations, with no least numbers of times -/
def noL (a : Nat → Nat) (k : Nat) : Nat := if 26 ≤ k ∧ k < 32 then 0 else a k
theorem noL_wf {a : Nat → Nat} (ha : wfA a) : wfA (noL a) := by
  have e : ∀ k, ¬ (26 ≤ k ∧ k < 32) → noL a k = a k := fun k h => if_neg h
  have h6 := ha.1
  have e0 : noL a 0 = a 0 := e 0 (by decide)
  refine ⟨by rw [e0]; exact h6, by rw [e 1 (by decide)]; exact ha.2.1, fun k => ?_, fun m hm => ?_⟩
  · unfold noL
    have := ha.2.2.1 k
    split <;> omega
  · rw [e0] at hm
    have := ha.2.2.2 m hm
    rw [e (2 + 3 * m) (by omega), e (3 + 3 * m) (by omega), e (4 + 3 * m) (by omega), e (20 + m) (by omega), e (32 + m) (by omega), e (44 + m) (by omega), e0, show noL a (26 + m) = 0 from if_pos (by omega)]
    exact ⟨this.1, this.2.1, this.2.2.1, Nat.zero_le _, this.2.2.2.2⟩
theorem noL_may (a : Nat → Nat) (t m : Nat) : mayB (noL a) t m = mayB a t m := by
  unfold mayB
  rw [show noL a (32 + m) = a (32 + m) from if_neg (by omega), show noL a (44 + m) = a (44 + m) from if_neg (by omega), show noL a 0 = a 0 from if_neg (by decide)]
theorem noL_bh (a : Nat → Nat) : ∀ u t, bhS (noL a) u t = bhS a u t
  | 0, _ => rfl
  | u + 1, t => by
    show bhS (noL a) u t + smN _ _ = bhS a u t + smN _ _
    rw [noL_bh a u t, show noL a 0 = a 0 from if_neg (by decide)]
    congr 1
    refine smN_congr (a 0) (fun m _ => ?_)
    rw [noL_may, noL_bh a u u]
theorem noL_en {a : Nat → Nat} (ha : wfA a) (t : Nat) : enB (noL a) t = true := by
  unfold enB
  rw [List.all_eq_true]
  intro m hm
  rw [List.mem_range, show noL a 0 = a 0 from if_neg (by decide)] at hm
  have := ha.1
  rw [show noL a (26 + m) = 0 from if_pos (by omega)]
  exact decide_eq_true (Nat.zero_le _)
theorem bhS_le {a : Nat → Nat} (ha : wfA a) (u t : Nat) : bhS a u t ≤ 1628413597910449 := by
  have hw := noL_wf ha
  have e0 : noL a 0 = a 0 := if_neg (by decide)
  have hg : ∀ t, gE (noL a) 0 t = 1 := fun t => if_pos ⟨Or.inl rfl, noL_en ha t⟩
  have h1 : ∀ u, u ≤ 4 ^ a 0 → t < 4 ^ a 0 → bhS a u t ≤ 1628413597910449 := by
    intro u hu ht
    have hp := bh_pot (L := 0) hw u (by rw [e0]; exact hu)
    have hi := smN_in (f := fun t => bhS (noL a) u t * (if t < u then gE (noL a) 0 t else oc (noL a) 0 t)) (4 ^ noL a 0) t (by rw [e0]; exact ht)
    rw [hp] at hi
    have hl := oc_le hw 0 0
    try dsimp only at hi
    rw [noL_bh, hg] at hi
    refine Nat.le_trans ?_ (Nat.le_trans hi hl)
    have h1 : 1 ≤ (if t < u then 1 else oc (noL a) 0 t) := by
      split
      · exact Nat.le_refl 1
      · rw [oc_eq hw (by rw [e0]; exact ht), if_pos ⟨Or.inl rfl, noL_en ha t⟩]; omega
    exact Nat.le_mul_of_pos_right _ h1
  rcases Nat.lt_or_ge t (4 ^ a 0) with ht | ht
  · rcases Nat.lt_or_ge (4 ^ a 0) u with hu | hu
    · have e1 : bhS a u t = bhS a t t := by rw [show u = t + (u - t) by omega]; exact bhS_keep _
      rw [e1]; exact h1 t (by omega) ht
    · exact h1 u hu ht
  · rw [bhS_out ha u t ht]; exact Nat.zero_le _
theorem isB_lt {a : Nat → Nat} {t : Nat} (ha : wfA a) (ht : t < 4096) (h : isB a t = true) : t < 4 ^ a 0 := by
  have hz : ∀ m, a 0 ≤ m → m < 6 → cin t m = 0 := by
    intro m h1 h2
    have := List.all_eq_true.mp h m (List.mem_range.mpr h2)
    rw [decide_eq_true_eq, if_neg (by omega)] at this
    omega
  have h6 := ha.1
  have step : ∀ c, a 0 ≤ c → c < 6 → t < 4 ^ (c + 1) → t < 4 ^ c := by
    intro c h1 h2 h3
    have hc := hz c h1 h2
    unfold cin at hc
    have hp := p4_pos c
    rw [Nat.pow_succ] at h3
    have h5 : t / 4 ^ c < 4 := by rw [Nat.div_lt_iff_lt_mul hp, Nat.mul_comm]; exact h3
    rw [Nat.mod_eq_of_lt h5] at hc
    rcases Nat.lt_or_ge t (4 ^ c) with q | q
    · exact q
    · have := Nat.div_pos q hp; omega
  have all : ∀ d, a 0 + d ≤ 6 → t < 4 ^ (6 - d) := by
    intro d
    induction d with
    | zero => intro _; exact ht
    | succ d ih =>
      intro hd
      have h8 := ih (by omega)
      have := step (6 - (d + 1)) (by omega) (by omega) (by rw [show 6 - (d + 1) + 1 = 6 - d by omega]; exact h8)
      exact this
  have := all (6 - a 0) (by omega)
  rw [show 6 - (6 - a 0) = a 0 by omega] at this
  exact this
theorem isB_0 (a : Nat → Nat) : isB a 0 = true := by
  unfold isB
  rw [List.all_eq_true]
  intro m _
  rw [cin_0]; exact decide_eq_true (Nat.zero_le _)
theorem isB_add {a : Nat → Nat} (ha : wfA a) {t m : Nat} (h : isB a t = true) (hm : m < a 0) (hy : mayB a t m = true) : isB a (t + 4 ^ m) = true := by
  have hc := may_lt ha hm hy
  unfold isB at h ⊢
  rw [List.all_eq_true] at h ⊢
  intro o ho
  have h2 := h o ho
  rw [decide_eq_true_eq] at h2 ⊢
  rw [cin_add hc o]
  by_cases q : o = m
  · rw [if_pos q, q, if_pos hm]
    unfold mayB at hy
    rw [Bool.and_eq_true, decide_eq_true_eq] at hy
    omega
  · rw [if_neg q]; exact h2
