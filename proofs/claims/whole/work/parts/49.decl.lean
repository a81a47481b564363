/-! declare -/
def isW (tx : Nat → Nat) (n : Nat) : Prop := 1 ≤ n ∧ n ≤ 3 ∧ ∀ k, k < n → 97 ≤ tx k ∧ tx k ≤ 122
def tN (tx : Nat → Nat) (n k : Nat) : Nat := if k < n then tx k else 0
def wdT (tx : Nat → Nat) (n : Nat) : Nat := tN tx n 0 + 256 * tN tx n 1 + 65536 * tN tx n 2
def wdP (tx : Nat → Nat) (i : Nat) : Nat := (if 0 < i then tx 0 else 0) + 256 * (if 1 < i then tx 1 else 0) + 65536 * (if 2 < i then tx 2 else 0)
theorem cI_in {tx : Nat → Nat} {n i : Nat} (h : i < n) : cI tx n i = nI (tx i) := if_pos h
theorem c_shl8 {v i : Nat} (hv : v < 256) (hi : i < 3) : nI v <<< (((8 : Int32) * nI i) &&& 31) = nI (v * 2 ^ (8 * i)) := by
  rw [c_mul8]
  refine pk_shlN _ (8 * i) (c_sh1 (8 * i) (by omega)) ?_
  have : 2 ^ (8 * i) ≤ 2 ^ 16 := Nat.pow_le_pow_right (by decide) (by omega)
  have : v * 2 ^ (8 * i) ≤ 255 * 2 ^ 16 := Nat.mul_le_mul (by omega) this
  omega
theorem v_asWord {σ : Sg} {tx : Nat → Nat} {n : Nat} (hT : wfT tx n) (hR : repT σ 1 tx n) {post : Int32 → Sg → Prop} (h1 : isW tx n → post (nI (wdT tx n)) σ) (h0 : ¬ isW tx n → post 0 σ) : wpX0_asWord 1 σ post := by
  have hn := hT.1
  unfold wpX0_asWord
  rw [hR.1]
  refine pk_le n 3 (fun c3 => ?_) (fun c3 => h0 (fun w => by have := w.2.1; omega))
  have key : ∀ r i, i + r = n → (∀ k, k < i → 97 ≤ tx k ∧ tx k ≤ 122) → BX0_asWord_14 1 post (r + 1) (nI (wdP tx i)) (nI i) σ := by
    intro r
    induction r with
    | zero =>
      intro i hi hl
      rw [BX0_asWord_14, hR.1]
      refine pk_le n i (fun _ => ?_) (fun c => by omega)
      have e : i = n := by omega
      subst e
      by_cases z : i = 0
      · have h := h0 (fun w => by have := w.1; omega)
        rw [z]; exact h
      · exact h1 ⟨by omega, c3, hl⟩
    | succ r ih =>
      intro i hi hl
      rw [BX0_asWord_14, hR.1]
      refine pk_le n i (fun c => by omega) (fun c => v_at f10 hn hR (by omega) (v_isSmallLetter hT ?_))
      have htl := hT.2 i
      refine bI_n _ (fun e => h0 (fun w => ?_)) (fun e => v_at f10 hn hR (by omega) ?_)
      · have := w.2.2 i c
        unfold ltB at e
        rw [decide_eq_true c, decide_eq_true this.1, decide_eq_true this.2] at e
        cases e
      · unfold ltB at e
        simp only [Bool.and_eq_true, decide_eq_true_eq] at e
        rw [cI_in c, c_shl8 (by omega) (by omega), c_or, nI_1]
        have hor : wdP tx i ||| tx i * 2 ^ (8 * i) = wdP tx (i + 1) := by
          rw [Nat.or_comm, Nat.mul_comm]
          have hlt : wdP tx i < 2 ^ (8 * i) := by
            unfold wdP
            rcases (show i = 0 ∨ i = 1 ∨ i = 2 by omega) with rfl | rfl | rfl
            · simp
            · have := hT.2 0
              simp; omega
            · have := hT.2 0
              have := hT.2 1
              simp; omega
          rw [← Nat.two_pow_add_eq_or_of_lt hlt]
          unfold wdP
          rcases (show i = 0 ∨ i = 1 ∨ i = 2 by omega) with rfl | rfl | rfl
          · simp
          · simp; omega
          · simp; omega
        rw [hor]
        refine ih (i + 1) (by omega) (fun k hk => ?_)
        by_cases z : k = i
        · rw [z]; exact e.2
        · exact hl k (by omega)
  exact ⟨_, key n 0 (by omega) (fun k hk => absurd hk (Nat.not_lt_zero k))⟩
theorem wdT_lt {tx : Nat → Nat} {n : Nat} (hT : wfT tx n) : wdT tx n < 2 ^ 31 := by
  have h0 := hT.2 0; have h1 := hT.2 1; have h2 := hT.2 2
  have e : ∀ k, tN tx n k ≤ tx k := fun k => by unfold tN; split <;> omega
  have := e 0; have := e 1; have := e 2
  unfold wdT; omega
theorem wdT_pos {tx : Nat → Nat} {n : Nat} (h : isW tx n) : 0 < wdT tx n := by
  have := h.2.2 0 h.1
  unfold wdT
  rw [show tN tx n 0 = tx 0 from if_pos h.1]; omega
def eqW (a tx : Nat → Nat) (n m : Nat) : Prop := wl a m = n ∧ ∀ k, k < n → tx k = a (2 + 3 * m + k)
theorem eqW_iff {a tx : Nat → Nat} {n m : Nat} (ha : wfA a) (hm : m < a 0) (hw : isW tx n) : wdN a m = wdT tx n ↔ eqW a tx n m := by
  obtain ⟨l1, l2, _⟩ := ha.2.2.2 m hm
  obtain ⟨n1, n3, ht⟩ := hw
  have e0 : 2 + 3 * m + 0 = 2 + 3 * m := rfl
  have e1 : 2 + 3 * m + 1 = 3 + 3 * m := by omega
  have e2 : 2 + 3 * m + 2 = 4 + 3 * m := by omega
  unfold eqW wdN wdT tN wl
  rcases (show n = 1 ∨ n = 2 ∨ n = 3 by omega) with rfl | rfl | rfl
  · have t0 := ht 0 (by decide)
    rw [if_pos (by decide), if_neg (by decide), if_neg (by decide), if_neg (show ¬ a (2 + 3 * m) = 0 by omega)]
    constructor
    · intro h
      refine ⟨by rw [if_pos (show a (3 + 3 * m) = 0 by omega)], fun k hk => ?_⟩
      rw [show k = 0 by omega, e0]; omega
    · rintro ⟨h, hk⟩
      have k0 := hk 0 (by decide)
      rw [e0] at k0
      have : a (3 + 3 * m) = 0 := by
        refine Classical.byContradiction (fun z => ?_)
        rw [if_neg z] at h
        split at h <;> omega
      omega
  · have t0 := ht 0 (by decide); have t1 := ht 1 (by decide)
    rw [if_pos (by decide), if_pos (by decide), if_neg (by decide), if_neg (show ¬ a (2 + 3 * m) = 0 by omega)]
    constructor
    · intro h
      refine ⟨by rw [if_neg (show ¬ a (3 + 3 * m) = 0 by omega), if_pos (show a (4 + 3 * m) = 0 by omega)], fun k hk => ?_⟩
      rcases (show k = 0 ∨ k = 1 by omega) with rfl | rfl
      · rw [e0]; omega
      · rw [e1]; omega
    · rintro ⟨h, hk⟩
      have k0 := hk 0 (by decide); have k1 := hk 1 (by decide)
      rw [e0] at k0; rw [e1] at k1
      have : a (4 + 3 * m) = 0 := by
        refine Classical.byContradiction (fun z => ?_)
        rw [if_neg (show ¬ a (3 + 3 * m) = 0 by omega), if_neg z] at h
        omega
      omega
  · have t0 := ht 0 (by decide); have t1 := ht 1 (by decide); have t2 := ht 2 (by decide)
    rw [if_pos (by decide), if_pos (by decide), if_pos (by decide), if_neg (show ¬ a (2 + 3 * m) = 0 by omega)]
    constructor
    · intro h
      refine ⟨by rw [if_neg (show ¬ a (3 + 3 * m) = 0 by omega), if_neg (show ¬ a (4 + 3 * m) = 0 by omega)], fun k hk => ?_⟩
      rcases (show k = 0 ∨ k = 1 ∨ k = 2 by omega) with rfl | rfl | rfl
      · rw [e0]; omega
      · rw [e1]; omega
      · rw [e2]; omega
    · rintro ⟨h, hk⟩
      have k0 := hk 0 (by decide); have k1 := hk 1 (by decide); have k2 := hk 2 (by decide)
      rw [e0] at k0; rw [e1] at k1; rw [e2] at k2
      omega
theorem m_isWord {σ : Sg} {tx : Nat → Nat} {n : Nat} (hT : wfT tx n) (hL : σ.1 117 6 = nI n) (hX : ∀ j, j < n → σ.1 121 j = nI (tx j)) {post : Int32 → Sg → Prop} (h1 : isW tx n → post 1 σ) (h0 : ¬ isW tx n → post 0 σ) : wpX7_isWord σ post := by
  have hn := hT.1
  unfold wpX7_isWord
  rw [hL]
  refine m_isInx (nI n) (lo := 1) (hi := 3) (by decide) (by decide) (fun v hv1 hv3 ev => ?_) (fun hno => ⟨1, ?_⟩)
  · have e := (nI_eq (by omega) (by omega)).mp ev
    subst e
    have key : ∀ r k (b : Bool), k + r = n → (b = true ↔ ∀ j, j < k → 97 ≤ tx j ∧ tx j ≤ 122) → BX7_isWord_12 post (r + 1) (bI b) (nI k) σ := by
      intro r
      induction r with
      | zero =>
        intro k b hk hb
        rw [BX7_isWord_12, hL]
        refine pk_le n k (fun _ => ⟨nar_b b, ?_⟩) (fun c => by omega)
        rw [show k = n by omega] at hb
        cases b with
        | true => exact h1 ⟨hv1, hv3, hb.mp rfl⟩
        | false => exact h0 (fun w => by have := hb.mpr w.2.2; cases this)
      | succ r ih =>
        intro k b hk hb
        rw [BX7_isWord_12, hL]
        refine pk_le n k (fun c => by omega) (fun c => bI_0 b (fun e => ?_) (fun e => ⟨pk_in k 60 (by omega), ?_⟩))
        · subst e
          refine ⟨nar_b false, h0 (fun w => ?_)⟩
          have := hb.mpr (fun j hj => w.2.2 j (by omega))
          cases this
        · have htl := hT.2 k
          rw [nI_clamp (by omega), hX k c, nI_1]
          refine m_isIn (lo := 97) (hi := 122) (by omega) (by decide) (by decide) (ih (k + 1) _ (by omega) ?_)
          rw [Bool.and_eq_true, decide_eq_true_eq, decide_eq_true_eq]
          constructor
          · intro w j hj
            by_cases z : j = k
            · rw [z]; exact w
            · exact hb.mp e j (by omega)
          · intro w; exact w k (by omega)
    exact ⟨_, key n 0 true (by omega) ⟨fun _ j hj => absurd hj (Nat.not_lt_zero j), fun _ => rfl⟩⟩
  · have hno2 : ¬ isW tx n := fun w => hno n w.1 w.2.1 rfl
    rw [BX7_isWord_12, hL]
    exact pk_le n 0 (fun _ => ⟨nar_b false, h0 hno2⟩) (fun c => ⟨fun _ => ⟨nar_b false, h0 hno2⟩, fun w => absurd rfl w⟩)
theorem m_isWordOf {σ : Sg} {a tx : Nat → Nat} {n m : Nat} (hc : ctxM σ a tx n) (hm : m < a 0) {post : Int32 → Sg → Prop} (h1 : eqW a tx n m → post 1 σ) (h0 : ¬ eqW a tx n m → post 0 σ) : wpX7_isWordOf (nI m) σ post := by
  obtain ⟨ha, hT, hW, hL, hX⟩ := hc
  have h6 := ha.1
  have hn := hT.1
  have w3 := wl_le a m
  unfold wpX7_isWordOf
  refine m_wordLength ha (by omega) hW ?_
  rw [hL]
  refine ⟨fun w => ⟨1, ?_⟩, fun w => ?_⟩
  · have hno : ¬ eqW a tx n m := fun q => w (by rw [q.1])
    rw [BX7_isWordOf_20, hL]
    exact pk_le n 0 (fun _ => ⟨nar_b false, h0 hno⟩) (fun c => ⟨fun _ => ⟨nar_b false, h0 hno⟩, fun w => absurd rfl w⟩)
  · have e := (nI_eq (by omega) (by omega)).mp w
    have key : ∀ r k (b : Bool), k + r = n → (b = true ↔ ∀ j, j < k → tx j = a (2 + 3 * m + j)) → BX7_isWordOf_20 (nI m) post (r + 1) (bI b) (nI k) σ := by
      intro r
      induction r with
      | zero =>
        intro k b hk hb
        rw [BX7_isWordOf_20, hL]
        refine pk_le n k (fun _ => ⟨nar_b b, ?_⟩) (fun c => by omega)
        rw [show k = n by omega] at hb
        cases b with
        | true => exact h1 ⟨e, hb.mp rfl⟩
        | false => exact h0 (fun w => by have := hb.mpr w.2; cases this)
      | succ r ih =>
        intro k b hk hb
        rw [BX7_isWordOf_20, hL]
        refine pk_le n k (fun c => by omega) (fun c => bI_0 b (fun e => ?_) (fun e2 => ⟨pk_in k 60 (by omega), m_letter (by omega) (by omega) hW ?_⟩))
        · subst e
          refine ⟨nar_b false, h0 (fun w => ?_)⟩
          have := hb.mpr (fun j hj => w.2 j (by omega))
          cases this
        · have htl := hT.2 k
          have hal := a_lt ha (2 + 3 * m + k)
          rw [nI_clamp (by omega), hX k c, nI_1]
          refine ⟨fun w => ih (k + 1) false (by omega) ⟨fun w => (by cases w), fun q => absurd (by rw [q k (by omega)]) w⟩, fun w => ih (k + 1) true (by omega) ⟨fun _ j hj => ?_, fun _ => rfl⟩⟩
          by_cases z : j = k
          · rw [z]; exact (nI_eq (by omega) (by omega)).mp w
          · exact hb.mp e2 j (by omega)
    exact ⟨_, key n 0 true (by omega) ⟨fun _ j hj => absurd hj (Nat.not_lt_zero j), fun _ => rfl⟩⟩
theorem m_isNewWord {σ : Sg} {a tx : Nat → Nat} {n : Nat} (hc : ctxM σ a tx n) {post : Int32 → Sg → Prop} (h1 : isW tx n → (∀ m, m < a 0 → ¬ eqW a tx n m) → post 1 σ) (h0 : ¬ (isW tx n ∧ ∀ m, m < a 0 → ¬ eqW a tx n m) → post 0 σ) : wpX7_isNewWord σ post := by
  have hc0 := hc
  obtain ⟨ha, hT, hW, hL, hX⟩ := hc
  have h6 := ha.1
  unfold wpX7_isNewWord
  refine m_isWord hT hL hX (fun hw => ?_) (fun hw => ⟨1, ?_⟩)
  · have key : ∀ r k (b : Bool), k + r = a 0 → (b = true ↔ ∀ j, j < k → ¬ eqW a tx n j) → BX7_isNewWord_7 post (r + 1) (bI b) (nI k) σ := by
      intro r
      induction r with
      | zero =>
        intro k b hk hb
        rw [BX7_isNewWord_7, z0, hW 0 (by decide)]
        refine ⟨in0_50, pk_le (a 0) k (fun _ => ⟨nar_b b, ?_⟩) (fun c => by omega)⟩
        rw [show k = a 0 by omega] at hb
        cases b with
        | true => exact h1 hw (hb.mp rfl)
        | false => exact h0 (fun w => by have := hb.mpr w.2; cases this)
      | succ r ih =>
        intro k b hk hb
        rw [BX7_isNewWord_7, z0, hW 0 (by decide)]
        refine ⟨in0_50, pk_le (a 0) k (fun c => by omega) (fun c => bI_0 b (fun e => ?_) (fun e => m_isWordOf hc0 c (fun q => ?_) (fun q => ?_)))⟩
        · subst e
          refine ⟨nar_b false, h0 (fun w => ?_)⟩
          have := hb.mpr (fun j hj => w.2 j (by omega))
          cases this
        · refine ⟨fun _ => ?_, fun w => absurd w (by decide)⟩
          rw [nI_1]
          exact ih (k + 1) false (by omega) ⟨fun w => (by cases w), fun w => absurd q (w k (by omega))⟩
        · refine ⟨fun w => absurd rfl w, fun _ => ?_⟩
          rw [nI_1]
          refine ih (k + 1) true (by omega) ⟨fun _ j hj => ?_, fun _ => rfl⟩
          by_cases z : j = k
          · rw [z]; exact q
          · exact hb.mp e j (by omega)
    exact ⟨_, key (a 0) 0 true (by omega) ⟨fun _ j hj => absurd hj (Nat.not_lt_zero j), fun _ => rfl⟩⟩
  · have hno : ¬ (isW tx n ∧ ∀ m, m < a 0 → ¬ eqW a tx n m) := fun w => hw w.1
    rw [BX7_isNewWord_7, z0, hW 0 (by decide)]
    exact ⟨in0_50, pk_le (a 0) 0 (fun _ => ⟨nar_b false, h0 hno⟩) (fun c => ⟨fun _ => ⟨nar_b false, h0 hno⟩, fun w => absurd rfl w⟩)⟩
