/-! beginnings: the tallies that the text's beginnings have, and where they end -/
def nxP (a tx : Nat → Nat) (n t p m : Nat) : Nat := if mayB a t m = true ∧ stP a tx n t p ≠ 0 then enP a tx n m (stP a tx n t p - 1) else 0
def rcF (a tx : Nat → Nat) (n : Nat) : Nat → Nat → Nat → Prop
  | 0, t, p => t = 0 ∧ p = 0
  | k + 1, t, p => ∃ m t' p', m < a 0 ∧ rcF a tx n k t' p' ∧ nxP a tx n t' p' m = p ∧ p ≠ 0 ∧ t = t' + 4 ^ m
def Rc (a tx : Nat → Nat) (n t p : Nat) : Prop := ∃ k, rcF a tx n k t p
theorem Rc.zero {a tx : Nat → Nat} {n : Nat} : Rc a tx n 0 0 := ⟨0, rfl, rfl⟩
theorem Rc.step {a tx : Nat → Nat} {n t p m e : Nat} (h : Rc a tx n t p) (hm : m < a 0) (he : nxP a tx n t p m = e) (h0 : e ≠ 0) : Rc a tx n (t + 4 ^ m) e := by
  obtain ⟨k, h⟩ := h
  exact ⟨k + 1, m, t, p, hm, h, he, h0, rfl⟩
theorem Rc.ind {a tx : Nat → Nat} {n : Nat} {P : Nat → Nat → Prop} (h0 : P 0 0) (hs : ∀ t p m e, Rc a tx n t p → P t p → m < a 0 → nxP a tx n t p m = e → e ≠ 0 → P (t + 4 ^ m) e) {t p : Nat} (h : Rc a tx n t p) : P t p := by
  obtain ⟨k, h⟩ := h
  induction k generalizing t p with
  | zero => obtain ⟨rfl, rfl⟩ := h; exact h0
  | succ k ih =>
    obtain ⟨m, t', p', hm, h1, h2, h3, rfl⟩ := h
    exact hs t' p' m p ⟨k, h1⟩ (ih h1) hm h2 h3
/-- the last step of a beginning -/
theorem Rc.last {a tx : Nat → Nat} {n t p : Nat} (h : Rc a tx n t p) : (t = 0 ∧ p = 0) ∨ ∃ m t' p', m < a 0 ∧ Rc a tx n t' p' ∧ nxP a tx n t' p' m = p ∧ p ≠ 0 ∧ t = t' + 4 ^ m := by
  obtain ⟨k, h⟩ := h
  cases k with
  | zero => exact Or.inl h
  | succ k =>
    obtain ⟨m, t', p', hm, h1, h2, h3, h4⟩ := h
    exact Or.inr ⟨m, t', p', hm, ⟨k, h1⟩, h2, h3, h4⟩
theorem cin_add {t m : Nat} (h : cin t m < 3) (o : Nat) : cin (t + 4 ^ m) o = cin t o + (if o = m then 1 else 0) := by
  unfold cin at *
  have hp : 0 < 4 ^ m := Nat.pow_pos (by decide)
  rcases Nat.lt_trichotomy o m with q | q | q
  · rw [if_neg (by omega)]
    have e : 4 ^ m = 4 ^ o * (4 * 4 ^ (m - o - 1)) := by
      rw [← Nat.pow_succ', ← Nat.pow_add]; congr 1; omega
    rw [e, Nat.add_mul_div_left _ _ (Nat.pow_pos (by decide))]
    omega
  · subst q
    rw [if_pos rfl, Nat.add_div_right _ hp]
    omega
  · rw [if_neg (by omega)]
    have e : 4 ^ o = 4 ^ m * (4 * 4 ^ (o - m - 1)) := by
      rw [← Nat.pow_succ', ← Nat.pow_add]; congr 1; omega
    rw [e, ← Nat.div_div_eq_div_mul, ← Nat.div_div_eq_div_mul, Nat.add_div_right _ hp, ← Nat.div_div_eq_div_mul, ← Nat.div_div_eq_div_mul]
    congr 2
    omega
theorem cin_0 (m : Nat) : cin 0 m = 0 := by unfold cin; simp
theorem tal_lt {t m c : Nat} (ht : t < 4 ^ c) (hm : m < c) (h : cin t m < 3) : t + 4 ^ m < 4 ^ c := by
  unfold cin at h
  have hp : 0 < 4 ^ m := Nat.pow_pos (by decide)
  have e : 4 ^ c = 4 ^ m * (4 * 4 ^ (c - m - 1)) := by
    rw [← Nat.pow_succ', ← Nat.pow_add]; congr 1; omega
  have hq : t / 4 ^ m < 4 * 4 ^ (c - m - 1) := by
    rw [Nat.div_lt_iff_lt_mul hp, Nat.mul_comm, ← e]; exact ht
  have hq2 : t / 4 ^ m + 1 < 4 * 4 ^ (c - m - 1) := by omega
  have hr := Nat.div_add_mod t (4 ^ m)
  have hrl := Nat.mod_lt t hp
  rw [e]
  have h3 : 4 ^ m * (t / 4 ^ m + 1 + 1) ≤ 4 ^ m * (4 * 4 ^ (c - m - 1)) := Nat.mul_le_mul_left _ hq2
  rw [Nat.mul_add, Nat.mul_add] at h3
  omega
theorem may_lt {a : Nat → Nat} {t m : Nat} (ha : wfA a) (hm : m < a 0) (h : mayB a t m = true) : cin t m < 3 := by
  unfold mayB at h
  simp only [Bool.and_eq_true, decide_eq_true_eq] at h
  have := (ha.2.2.2 m hm).2.2.2.2.2.1
  omega
theorem nx_may {a tx : Nat → Nat} {n t p m e : Nat} (he : nxP a tx n t p m = e) (h0 : e ≠ 0) : mayB a t m = true ∧ stP a tx n t p ≠ 0 ∧ enP a tx n m (stP a tx n t p - 1) = e := by
  unfold nxP at he
  split at he
  · rename_i q; exact ⟨q.1, q.2, he⟩
  · exact absurd he.symm h0
theorem Rc.lt {a tx : Nat → Nat} {n t p : Nat} (ha : wfA a) (h : Rc a tx n t p) : t < 4 ^ a 0 := by
  refine Rc.ind (P := fun t _ => t < 4 ^ a 0) (Nat.pow_pos (by decide)) (fun t p m e _ ht hm he h0 => ?_) h
  exact tal_lt ht hm (may_lt ha hm (nx_may he h0).1)
theorem pow4_le {c : Nat} (h : c ≤ 6) : 4 ^ c ≤ 4096 := Nat.pow_le_pow_right (n := 4) (by decide) h
/-- what a step is, byte by byte -/
theorem nx_spec {a tx : Nat → Nat} {n t p m e : Nat} (ha : wfA a) (hm : m < a 0) (he : nxP a tx n t p m = e) (h0 : e ≠ 0) :
    ∃ s, ((s = p ∧ (t = 0 ∨ a 1 = 0)) ∨ (s = p + 1 ∧ t ≠ 0 ∧ a 1 ≠ 0 ∧ p < n ∧ tx p = a 1)) ∧ (∀ i, i < wl a m → s + i < n ∧ 97 ≤ tx (s + i) ∧ tx (s + i) ≤ 122) ∧
      ((a (20 + m) = 0 ∧ e = s + wl a m) ∨ (a (20 + m) = 1 ∧ ∃ d, 1 ≤ d ∧ d ≤ 3 ∧ e = s + wl a m + d ∧ (∀ i, i < d → dg tx n (s + wl a m + i) = true) ∧ (d = 3 ∨ dg tx n (s + wl a m + d) = false)) ∨ (a (20 + m) = 2 ∧ cp tx n (s + wl a m) = true ∧ e = s + wl a m + 1)) := by
  obtain ⟨h1, h2, h3⟩ := nx_may he h0
  have hkind := (ha.2.2.2 m hm).2.2.1
  refine ⟨stP a tx n t p - 1, ?_, ?_, ?_⟩
  · unfold stP at h2 ⊢
    split
    · rename_i q; left; exact ⟨rfl, q⟩
    · rename_i q
      rw [if_neg q] at h2
      split
      · rename_i q2; right; exact ⟨rfl, by omega, by omega, q2.1, q2.2⟩
      · rename_i q2; rw [if_neg q2] at h2; exact absurd rfl h2
  · intro i hi
    generalize stP a tx n t p - 1 = s at h3 ⊢
    have hmch : mch a tx n m s = wl a m := by
      have := mch_le a tx n m s
      unfold enP at h3
      split at h3
      · exact absurd h3.symm h0
      · omega
    have := mt_all (fun k => decide (s + k < n) && decide (tx (s + k) = a (2 + 3 * m + k))) (wl a m) 0 i (Nat.zero_le _) (by unfold mch at hmch; omega)
    simp only [Bool.and_eq_true, decide_eq_true_eq] at this
    have hl := wl_let ha hm hi
    rw [this.2]
    exact ⟨this.1, hl⟩
  · generalize stP a tx n t p - 1 = s at h3 ⊢
    unfold enP at h3
    split at h3
    · exact absurd h3.symm h0
    · rcases (show a (20 + m) = 0 ∨ a (20 + m) = 1 ∨ a (20 + m) = 2 by omega) with k | k | k
      · rw [k, if_neg (by decide), if_neg (by decide)] at h3
        exact Or.inl ⟨k, h3.symm⟩
      · rw [k, if_pos rfl] at h3
        right; left
        refine ⟨k, dct tx n (s + wl a m), ?_, dct_le _ _ _, ?_, ?_, ?_⟩
        · split at h3
          · exact absurd h3.symm h0
          · omega
        · split at h3
          · exact absurd h3.symm h0
          · exact h3.symm
        · intro i hi
          exact mt_all (fun k => dg tx n (s + wl a m + k)) 3 0 i (Nat.zero_le _) hi
        · rcases Nat.lt_or_ge (dct tx n (s + wl a m)) 3 with q | q
          · right; exact mt_end (fun k => dg tx n (s + wl a m + k)) 3 0 (by unfold dct at q; omega)
          · left; have := dct_le tx n (s + wl a m); omega
      · rw [k, if_neg (by decide), if_pos rfl] at h3
        right; right
        split at h3
        · rename_i q; exact ⟨k, q, h3.symm⟩
        · exact absurd h3.symm h0
/-! markers -/
def isL (tx : Nat → Nat) (x : Nat) : Prop := 97 ≤ tx x ∧ tx x ≤ 122
def isC (tx : Nat → Nat) (x : Nat) : Prop := 65 ≤ tx x ∧ tx x ≤ 90
def isD (tx : Nat → Nat) (x : Nat) : Prop := 48 ≤ tx x ∧ tx x ≤ 57
def isS (a tx : Nat → Nat) (x : Nat) : Prop := a 1 ≠ 0 ∧ tx x = a 1
def mkB (a tx : Nat → Nat) (x : Nat) : Bool := (decide (97 ≤ tx x) && decide (tx x ≤ 122)) || (decide (65 ≤ tx x) && decide (tx x ≤ 90)) || (decide (a 1 ≠ 0) && decide (tx x = a 1)) || ((decide (48 ≤ tx x) && decide (tx x ≤ 57)) && (decide (1 ≤ x) && (decide (97 ≤ tx (x - 1)) && decide (tx (x - 1) ≤ 122))))
theorem mkB_iff (a tx : Nat → Nat) (x : Nat) : mkB a tx x = true ↔ isL tx x ∨ isC tx x ∨ isS a tx x ∨ (isD tx x ∧ 1 ≤ x ∧ isL tx (x - 1)) := by
  unfold mkB isL isC isS isD
  simp only [Bool.or_eq_true, Bool.and_eq_true, decide_eq_true_eq]
  constructor
  · rintro (((h | h) | h) | h)
    · exact Or.inl h
    · exact Or.inr (Or.inl h)
    · exact Or.inr (Or.inr (Or.inl h))
    · exact Or.inr (Or.inr (Or.inr ⟨h.1, h.2.1, h.2.2⟩))
  · rintro (h | h | h | h)
    · exact Or.inl (Or.inl (Or.inl h))
    · exact Or.inl (Or.inl (Or.inr h))
    · exact Or.inl (Or.inr h)
    · exact Or.inr ⟨h.1, h.2.1, h.2.2⟩
def cntM (a tx : Nat → Nat) (p : Nat) : Nat := smN (fun x => if mkB a tx x then 1 else 0) p
theorem cntM_1 (a tx : Nat → Nat) (p : Nat) : cntM a tx (p + 1) = cntM a tx p + (if mkB a tx p then 1 else 0) := rfl
theorem cntM_t {a tx : Nat → Nat} {p : Nat} (h : mkB a tx p = true) : cntM a tx (p + 1) = cntM a tx p + 1 := by rw [cntM_1, if_pos h]
theorem cntM_f {a tx : Nat → Nat} {p : Nat} (h : ¬ mkB a tx p = true) : cntM a tx (p + 1) = cntM a tx p := by rw [cntM_1, if_neg h]; rfl
theorem cntM_mono (a tx : Nat → Nat) {p q : Nat} (h : p ≤ q) : cntM a tx p ≤ cntM a tx q := by
  induction q with
  | zero => rw [Nat.le_zero.mp h]; exact Nat.le_refl _
  | succ q ih =>
    rcases Nat.lt_or_ge p (q + 1) with z | z
    · have := ih (by omega)
      rw [cntM_1]; omega
    · rw [show p = q + 1 by omega]; exact Nat.le_refl _
theorem cntM_run {a tx : Nat → Nat} {s : Nat} : ∀ w, (∀ i, i < w → mkB a tx (s + i) = true) → cntM a tx (s + w) = cntM a tx s + w
  | 0, _ => rfl
  | w + 1, h => by
    rw [← Nat.add_assoc, cntM_t (h w (by omega)), cntM_run w (fun i hi => h i (by omega))]
    omega
def occ (a : Nat → Nat) (t : Nat) : Nat := smN (cin t) (a 0)
def mkW (a : Nat → Nat) (t : Nat) : Nat := smN (fun m => cin t m * (wl a m + (if a (20 + m) = 0 then 0 else 1))) (a 0) + (if a 1 = 0 then 0 else occ a t - 1)
theorem smN_at {f g : Nat → Nat} {m k : Nat} : ∀ c, m < c → (∀ o, o < c → o ≠ m → f o = g o) → f m = g m + k → smN f c = smN g c + k
  | 0, h, _, _ => absurd h (Nat.not_lt_zero _)
  | c + 1, h, ho, hm => by
    show smN f c + f c = smN g c + g c + k
    by_cases q : m = c
    · subst q
      rw [hm, smN_congr m (fun o h2 => ho o (by omega) (by omega))]
      omega
    · rw [smN_at c (by omega) (fun o h1 h2 => ho o (by omega) h2) hm, ho c (by omega) (fun z => q z.symm)]
      omega
theorem occ_add {a : Nat → Nat} {t m : Nat} (hm : m < a 0) (h : cin t m < 3) : occ a (t + 4 ^ m) = occ a t + 1 :=
  smN_at (m := m) (a 0) hm (fun o _ h2 => by rw [cin_add h, if_neg h2]; rfl) (by rw [cin_add h, if_pos rfl])
theorem mkW_add {a : Nat → Nat} {t m : Nat} (hm : m < a 0) (h : cin t m < 3) (hz : t = 0 ∨ 1 ≤ occ a t) (ht0 : t = 0 → occ a t = 0) : mkW a (t + 4 ^ m) = mkW a t + (wl a m + (if a (20 + m) = 0 then 0 else 1)) + (if a 1 = 0 then 0 else if t = 0 then 0 else 1) := by
  unfold mkW
  rw [occ_add hm h, smN_at (f := fun o => cin (t + 4 ^ m) o * (wl a o + (if a (20 + o) = 0 then 0 else 1))) (g := fun o => cin t o * (wl a o + (if a (20 + o) = 0 then 0 else 1))) (m := m) (k := wl a m + (if a (20 + m) = 0 then 0 else 1)) (a 0) hm (fun o _ h2 => by rw [cin_add h, if_neg h2]; rfl) (by rw [cin_add h, if_pos rfl, Nat.succ_mul])]
  by_cases q1 : a 1 = 0
  · simp only [if_pos q1]; omega
  · simp only [if_neg q1]
    by_cases q : t = 0
    · simp only [if_pos q, ht0 q]; omega
    · simp only [if_neg q]
      have : 1 ≤ occ a t := by omega
      omega
theorem smN_0 : ∀ c, smN (fun _ => 0) c = 0
  | 0 => rfl
  | c + 1 => by show smN (fun _ => 0) c + 0 = 0; rw [smN_0 c]
theorem occ_0 (a : Nat → Nat) : occ a 0 = 0 := by
  unfold occ
  rw [smN_congr (g := fun _ => 0) (a 0) (fun m _ => cin_0 m)]
  exact smN_0 _
/-- what is true of every beginning -/
def JR (a tx : Nat → Nat) (n t p : Nat) : Prop := cntM a tx p = mkW a t ∧ (∀ x, x < p → isL tx x ∨ isC tx x ∨ isD tx x ∨ isS a tx x) ∧ (∀ x, x + 1 < p → isD tx (x + 1) → ¬ isC tx x) ∧ (∀ x, x + 3 < p → ¬ (isD tx x ∧ isD tx (x + 1) ∧ isD tx (x + 2) ∧ isD tx (x + 3))) ∧ (p = 0 ∨ ¬ isS a tx (p - 1)) ∧ (1 ≤ p → isD tx (p - 1) → p < n → isD tx p → 3 ≤ p ∧ isD tx (p - 2) ∧ isD tx (p - 3)) ∧ (p = 0 ↔ t = 0) ∧ p ≤ n ∧ (t = 0 ∨ 1 ≤ occ a t)
theorem Rc.J {a tx : Nat → Nat} {n t p : Nat} (ha : wfA a) (h : Rc a tx n t p) : JR a tx n t p := by
  refine Rc.ind (P := JR a tx n) ?_ ?_ h
  · refine ⟨?_, fun x hx => absurd hx (by omega), fun x hx => absurd hx (by omega), fun x hx => absurd hx (by omega), Or.inl rfl, fun hx => absurd hx (by omega), Iff.rfl, Nat.zero_le _, Or.inl rfl⟩
    unfold mkW
    rw [occ_0, smN_congr (g := fun _ => 0) (a 0) (fun m _ => by rw [cin_0, Nat.zero_mul]), smN_0]
    show 0 = _
    split <;> rfl
  · intro t p m e _ hJ hm he h0
    obtain ⟨j1, j2, j3, j4, j5, j6, j7, j8, j9⟩ := hJ
    have hmay := may_lt ha hm (nx_may he h0).1
    obtain ⟨s, hs, hw, hv⟩ := nx_spec ha hm he h0
    have w1 := ha.wl1 hm
    have w3 := wl_le a m
    have hsep := ha.2.1
    have hW := mkW_add hm hmay j9 (fun z => by rw [z]; exact occ_0 a)
    have hL : ∀ i, i < wl a m → isL tx (s + i) := fun i hi => (hw i hi).2
    have hocc := occ_add hm hmay
    have hpos : 0 < 4 ^ m := Nat.pow_pos (by decide)
    -- markers up to the word's end
    have hc1 : cntM a tx s = cntM a tx p + (if a 1 = 0 then 0 else if t = 0 then 0 else 1) := by
      rcases hs with ⟨rfl, z⟩ | ⟨rfl, z1, z2, z3, z4⟩
      · split
        · rfl
        · rename_i q; rw [if_pos (by omega)]; rfl
      · rw [if_neg z2, if_neg z1, cntM_t ((mkB_iff a tx p).mpr (Or.inr (Or.inr (Or.inl ⟨z2, z4⟩))))]
    have hc2 : cntM a tx (s + wl a m) = cntM a tx s + wl a m := cntM_run (wl a m) (fun i hi => (mkB_iff a tx (s + i)).mpr (Or.inl (hL i hi)))
    have hsp : p ≤ s ∧ s ≤ p + 1 := by rcases hs with z | z <;> omega
    have hSd : ∀ x, isS a tx x → ¬ isD tx x ∧ ¬ isL tx x ∧ ¬ isC tx x := by
      intro x hx
      have := hx.1
      have e := hx.2
      unfold isD isL isC
      omega
    -- which bytes stand where
    have hlow : ∀ x, x < s + wl a m → (x < p) ∨ (x = p ∧ s = p + 1 ∧ isS a tx x) ∨ (s ≤ x ∧ isL tx x) := by
      intro x hx
      rcases Nat.lt_or_ge x p with q | q
      · exact Or.inl q
      · rcases Nat.lt_or_ge x s with q2 | q2
        · rcases hs with ⟨rfl, z⟩ | ⟨rfl, z1, z2, z3, z4⟩
          · omega
          · right; left
            have : x = p := by omega
            subst this
            exact ⟨rfl, rfl, z2, z4⟩
        · right; right
          have := hL (x - s) (by omega)
          rw [show s + (x - s) = x by omega] at this
          exact ⟨q2, this⟩
    have hnd : ∀ x, p ≤ x → x < s + wl a m → ¬ isD tx x := by
      intro x h1 h2
      rcases hlow x h2 with q | ⟨q, _, q2⟩ | ⟨q, q2⟩
      · omega
      · exact (hSd x q2).1
      · unfold isL at q2; unfold isD; omega
    have k2 : ∀ x, x < s + wl a m → isL tx x ∨ isC tx x ∨ isD tx x ∨ isS a tx x := by
      intro x hx
      rcases hlow x hx with q | ⟨_, _, q2⟩ | ⟨_, q2⟩
      · exact j2 x q
      · exact Or.inr (Or.inr (Or.inr q2))
      · exact Or.inl q2
    have k3 : ∀ x, x + 1 < s + wl a m → isD tx (x + 1) → ¬ isC tx x := by
      intro x hx hd
      rcases Nat.lt_or_ge (x + 1) p with q | q
      · exact j3 x q hd
      · exact absurd hd (hnd (x + 1) q hx)
    have k4 : ∀ x, x + 3 < s + wl a m → ¬ (isD tx x ∧ isD tx (x + 1) ∧ isD tx (x + 2) ∧ isD tx (x + 3)) := by
      intro x hx hd
      rcases Nat.lt_or_ge (x + 3) p with q | q
      · exact j4 x q hd
      · exact absurd hd.2.2.2 (hnd (x + 3) q hx)
    have hwl : isL tx (s + wl a m - 1) := by
      have := hL (wl a m - 1) (by omega)
      rw [show s + (wl a m - 1) = s + wl a m - 1 by omega] at this
      exact this
    have hwn := (hw (wl a m - 1) (by omega)).1
    have hocc2 : t + 4 ^ m = 0 ∨ 1 ≤ occ a (t + 4 ^ m) := Or.inr (by omega)
    have hne : (e = 0 ↔ t + 4 ^ m = 0) := ⟨fun z => absurd z h0, fun z => by omega⟩
    rcases hv with ⟨kd, rfl⟩ | ⟨kd, d, d1, d3, rfl, hd, hend⟩ | ⟨kd, hcap, rfl⟩
    · refine ⟨?_, k2, k3, k4, Or.inr (fun z => (hSd _ z).2.1 hwl), fun _ z => ?_, hne, by omega, hocc2⟩
      · rw [hc2, hc1, hW, j1, if_pos kd]; omega
      · unfold isL at hwl; unfold isD at z; omega
    · have hD : ∀ i, i < d → s + wl a m + i < n ∧ isD tx (s + wl a m + i) := by
        intro i hi
        have := hd i hi
        simp only [dg, Bool.and_eq_true, decide_eq_true_eq] at this
        exact ⟨this.1, this.2⟩
      have hc3 : cntM a tx (s + wl a m + 1) = cntM a tx (s + wl a m) + 1 := cntM_t ((mkB_iff a tx _).mpr (Or.inr (Or.inr (Or.inr ⟨(hD 0 (by omega)).2, by omega, hwl⟩))))
      have hnm : ∀ i, i + 1 < d → ¬ mkB a tx (s + wl a m + (i + 1)) = true := by
        intro i hi hb
        have z1 := (hD (i + 1) hi).2
        have z0 := (hD i (by omega)).2
        rcases (mkB_iff a tx _).mp hb with q | q | q | q
        · unfold isL at q; unfold isD at z1; omega
        · unfold isC at q; unfold isD at z1; omega
        · exact (hSd _ q).1 z1
        · have q2 := q.2.2
          rw [show s + wl a m + (i + 1) - 1 = s + wl a m + i by omega] at q2
          unfold isL at q2; unfold isD at z0; omega
      have hc4 : cntM a tx (s + wl a m + d) = cntM a tx (s + wl a m) + 1 := by
        rcases (show d = 1 ∨ d = 2 ∨ d = 3 by omega) with rfl | rfl | rfl
        · exact hc3
        · rw [show s + wl a m + 2 = s + wl a m + 1 + 1 by omega, cntM_f (by have := hnm 0 (by omega); rw [show s + wl a m + (0 + 1) = s + wl a m + 1 by omega] at this; exact this), hc3]
        · rw [show s + wl a m + 3 = s + wl a m + 2 + 1 by omega, cntM_f (by have := hnm 1 (by omega); rw [show s + wl a m + (1 + 1) = s + wl a m + 2 by omega] at this; exact this), show s + wl a m + 2 = s + wl a m + 1 + 1 by omega, cntM_f (by have := hnm 0 (by omega); rw [show s + wl a m + (0 + 1) = s + wl a m + 1 by omega] at this; exact this), hc3]
      have hloc : ∀ x, s + wl a m ≤ x → x < s + wl a m + d → isD tx x := by
        intro x h1 h2
        have := (hD (x - (s + wl a m)) (by omega)).2
        rw [show s + wl a m + (x - (s + wl a m)) = x by omega] at this
        exact this
      refine ⟨?_, ?_, ?_, ?_, Or.inr (fun z => (hSd _ z).1 (hloc _ (by omega) (by omega))), ?_, hne, ?_, hocc2⟩
      · rw [hc4, hc2, hc1, hW, j1, if_neg (show ¬ a (20 + m) = 0 by omega)]; omega
      · intro x hx
        rcases Nat.lt_or_ge x (s + wl a m) with q | q
        · exact k2 x q
        · exact Or.inr (Or.inr (Or.inl (hloc x q hx)))
      · intro x hx hdx hcx
        rcases Nat.lt_or_ge (x + 1) (s + wl a m) with q | q
        · exact k3 x q hdx hcx
        · rcases Nat.lt_or_ge x (s + wl a m) with q2 | q2
          · have : x = s + wl a m - 1 := by omega
            subst this
            unfold isL at hwl; unfold isC at hcx; omega
          · have := hloc x q2 (by omega)
            unfold isD at this; unfold isC at hcx; omega
      · intro x hx hdx
        rcases Nat.lt_or_ge (x + 3) (s + wl a m) with q | q
        · exact k4 x q hdx
        · rcases Nat.lt_or_ge x (s + wl a m) with q2 | q2
          · have hz : x = s + wl a m - 1 ∨ x + 1 = s + wl a m - 1 ∨ x + 2 = s + wl a m - 1 := by omega
            unfold isL at hwl
            unfold isD at hdx
            rcases hz with z | z | z <;> rw [← z] at hwl <;> omega
          · omega
      · intro _ _ hlt hdd
        rcases hend with rfl | hend
        · refine ⟨by omega, ?_, ?_⟩
          · rw [show s + wl a m + 3 - 2 = s + wl a m + 1 by omega]; exact (hD 1 (by omega)).2
          · rw [show s + wl a m + 3 - 3 = s + wl a m + 0 by omega]; exact (hD 0 (by omega)).2
        · exfalso
          have hb : dg tx n (s + wl a m + d) = true := by
            simp only [dg, Bool.and_eq_true, decide_eq_true_eq]
            exact ⟨hlt, hdd⟩
          rw [hb] at hend; cases hend
      · have := (hD (d - 1) (by omega)).1; omega
    · simp only [cp, Bool.and_eq_true, decide_eq_true_eq] at hcap
      have hC : isC tx (s + wl a m) := hcap.2
      have hc3 : cntM a tx (s + wl a m + 1) = cntM a tx (s + wl a m) + 1 := cntM_t ((mkB_iff a tx _).mpr (Or.inr (Or.inl hC)))
      refine ⟨?_, ?_, ?_, ?_, Or.inr (fun z => (hSd _ z).2.2 hC), ?_, hne, by omega, hocc2⟩
      · rw [hc3, hc2, hc1, hW, j1, if_neg (show ¬ a (20 + m) = 0 by omega)]; omega
      · intro x hx
        rcases Nat.lt_or_ge x (s + wl a m) with q | q
        · exact k2 x q
        · have : x = s + wl a m := by omega
          subst this; exact Or.inr (Or.inl hC)
      · intro x hx hdx
        rcases Nat.lt_or_ge (x + 1) (s + wl a m) with q | q
        · exact k3 x q hdx
        · have : x + 1 = s + wl a m := by omega
          rw [this] at hdx
          unfold isC at hC; unfold isD at hdx; omega
      · intro x hx hdx
        rcases Nat.lt_or_ge (x + 3) (s + wl a m) with q | q
        · exact k4 x q hdx
        · have : x + 3 = s + wl a m := by omega
          have z := hdx.2.2.2
          rw [this] at z
          unfold isC at hC; unfold isD at z; omega
      · intro _ z
        rw [show s + wl a m + 1 - 1 = s + wl a m by omega] at z
        unfold isC at hC; unfold isD at z; omega
/-- all beginnings with one tally end at the same place -/
theorem Rc.uniq_lt {a tx : Nat → Nat} {n t p q : Nat} (ha : wfA a) (h1 : Rc a tx n t p) (h2 : Rc a tx n t q) : ¬ p < q := by
  intro hlt
  obtain ⟨a1, a2, a3, a4, a5, a6, a7, a8, -⟩ := h1.J ha
  obtain ⟨b1, b2, b3, b4, b5, b6, b7, b8, -⟩ := h2.J ha
  have hm : cntM a tx (p + 1) ≤ cntM a tx q := cntM_mono a tx hlt
  have hnm : ¬ mkB a tx p = true := by
    intro hb
    rw [cntM_t hb] at hm
    omega
  have hp : p ≠ 0 := by
    intro hz
    have := a7.mp hz
    have := b7.mpr this
    omega
  have hmk := fun z => hnm ((mkB_iff a tx p).mpr z)
  rcases b2 p hlt with z | z | z | z
  · exact hmk (Or.inl z)
  · exact hmk (Or.inr (Or.inl z))
  · rcases a2 (p - 1) (by omega) with y | y | y | y
    · exact hmk (Or.inr (Or.inr (Or.inr ⟨z, by omega, y⟩)))
    · exact b3 (p - 1) (by omega) (by rw [show p - 1 + 1 = p by omega]; exact z) y
    · obtain ⟨c1, c2, c3⟩ := a6 (by omega) y (by omega) z
      refine b4 (p - 3) (by omega) ⟨c3, ?_, ?_, ?_⟩
      · rw [show p - 3 + 1 = p - 2 by omega]; exact c2
      · rw [show p - 3 + 2 = p - 1 by omega]; exact y
      · rw [show p - 3 + 3 = p by omega]; exact z
    · rcases a5 with w | w
      · exact hp w
      · exact w y
  · exact hmk (Or.inr (Or.inr (Or.inl z)))
theorem Rc.uniq {a tx : Nat → Nat} {n t p q : Nat} (ha : wfA a) (h1 : Rc a tx n t p) (h2 : Rc a tx n t q) : p = q := by
  have := Rc.uniq_lt ha h1 h2
  have := Rc.uniq_lt ha h2 h1
  omega
