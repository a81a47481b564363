/-! the class's small methods: what they answer, in numbers -/
def cI (tx : Nat → Nat) (n i : Nat) : Int32 := if i < n then nI (tx i) else -9
def bI (b : Bool) : Int32 := if b then 1 else 0
def repT (σ : Sg) (b : Nat) (tx : Nat → Nat) (n : Nat) : Prop := σ.1 b 1 = nI n ∧ ∀ j, j < n → σ.1 (b + 1) j = nI (tx j)
def wdN (a : Nat → Nat) (m : Nat) : Nat := a (2 + 3 * m) + 256 * a (3 + 3 * m) + 65536 * a (4 + 3 * m)
def repMb (σ : Sg) (q : Nat) (a : Nat → Nat) (m : Nat) : Prop := σ.1 q 0 = nI (wdN a m) ∧ σ.1 q 1 = nI (a (20 + m)) ∧ σ.1 q 2 = nI (a (26 + m)) ∧ σ.1 q 3 = nI (a (32 + m)) ∧ σ.1 q 4 = nI (a (38 + m)) ∧ σ.1 q 5 = nI (a (44 + m))
def repD (σ : Sg) (d : Nat) (a : Nat → Nat) : Prop := σ.1 d 2 = nI (a 0) ∧ σ.1 d 3 = nI (a 1) ∧ ∀ m, m < a 0 → repMb σ (σ.2.2 (d + 1) m) a m
theorem bI_0 (b : Bool) {A B : Prop} (f : b = false → A) (g : b = true → B) : (bI b = 0 → A) ∧ (¬ bI b = 0 → B) := by
  cases b
  · exact ⟨fun _ => f rfl, fun h => absurd rfl h⟩
  · exact ⟨fun h => absurd h (by decide), fun _ => g rfl⟩
theorem bI_n (b : Bool) {A B : Prop} (f : b = false → A) (g : b = true → B) : (¬ bI b = 0 → B) ∧ (bI b = 0 → A) := ⟨(bI_0 b f g).2, (bI_0 b f g).1⟩
theorem v_isDigit {tx : Nat → Nat} {n i : Nat} (hT : wfT tx n) {σ : Sg} {post : Int32 → Sg → Prop} (h : post (bI (dg tx n i)) σ) : wpX6_isDigit (cI tx n i) σ post := by
  have h1 := hT.2 i
  unfold wpX6_isDigit cI
  unfold dg at h
  by_cases hi : i < n
  · rw [if_pos hi]
    refine pk_lt (tx i) 48 (fun c => ?_) (fun c => ?_)
    · rw [show decide (48 ≤ tx i) = false from decide_eq_false (by omega)] at h; simpa [bI] using h
    · refine pk_lt 57 (tx i) (fun c2 => ?_) (fun c2 => ?_)
      · rw [show decide (tx i ≤ 57) = false from decide_eq_false (by omega)] at h; simpa [bI] using h
      · rw [decide_eq_true hi, decide_eq_true c, decide_eq_true c2] at h; exact h
  · rw [if_neg hi]
    rw [decide_eq_false hi] at h
    exact ⟨fun _ => h, fun c => absurd (by decide) c⟩
theorem v_isCapital {tx : Nat → Nat} {n i : Nat} (hT : wfT tx n) {σ : Sg} {post : Int32 → Sg → Prop} (h : post (bI (cp tx n i)) σ) : wpX6_isCapital (cI tx n i) σ post := by
  have h1 := hT.2 i
  unfold wpX6_isCapital cI
  unfold cp at h
  by_cases hi : i < n
  · rw [if_pos hi]
    refine pk_lt (tx i) 65 (fun c => ?_) (fun c => ?_)
    · rw [show decide (65 ≤ tx i) = false from decide_eq_false (by omega)] at h; simpa [bI] using h
    · refine pk_lt 90 (tx i) (fun c2 => ?_) (fun c2 => ?_)
      · rw [show decide (tx i ≤ 90) = false from decide_eq_false (by omega)] at h; simpa [bI] using h
      · rw [decide_eq_true hi, decide_eq_true c, decide_eq_true c2] at h; exact h
  · rw [if_neg hi]
    rw [decide_eq_false hi] at h
    exact ⟨fun _ => h, fun c => absurd (by decide) c⟩
def ltB (tx : Nat → Nat) (n i : Nat) : Bool := decide (i < n) && (decide (97 ≤ tx i) && decide (tx i ≤ 122))
theorem v_isSmallLetter {tx : Nat → Nat} {n i : Nat} (hT : wfT tx n) {σ : Sg} {post : Int32 → Sg → Prop} (h : post (bI (ltB tx n i)) σ) : wpX6_isSmallLetter (cI tx n i) σ post := by
  have h1 := hT.2 i
  unfold wpX6_isSmallLetter cI
  unfold ltB at h
  by_cases hi : i < n
  · rw [if_pos hi]
    refine pk_lt (tx i) 97 (fun c => ?_) (fun c => ?_)
    · rw [show decide (97 ≤ tx i) = false from decide_eq_false (by omega)] at h; simpa [bI] using h
    · refine pk_lt 122 (tx i) (fun c2 => ?_) (fun c2 => ?_)
      · rw [show decide (tx i ≤ 122) = false from decide_eq_false (by omega)] at h; simpa [bI] using h
      · rw [decide_eq_true hi, decide_eq_true c, decide_eq_true c2] at h; exact h
  · rw [if_neg hi]
    rw [decide_eq_false hi] at h
    exact ⟨fun _ => h, fun c => absurd (by decide) c⟩
theorem v_at {b : Nat} (hb : s_fin b 0 = b + 1) {tx : Nat → Nat} {n i : Nat} {σ : Sg} (hn : n ≤ 60) (hR : repT σ b tx n) (hi : i < 2 ^ 31) {post : Int32 → Sg → Prop} (h : post (cI tx n i) σ) : wpX0_at b (nI i) σ post := by
  unfold wpX0_at
  rw [hR.1, hb]
  unfold cI at h
  refine ⟨fun c => absurd c (nI_pos hi), fun _ => pk_le n i (fun c => ?_) (fun c => ?_)⟩
  · rw [if_neg (by omega)] at h; exact h
  · refine pk_le 60 i (fun c2 => by omega) (fun c2 => ⟨pk_in i 60 c2, ?_⟩)
    rw [if_pos c] at h
    rw [nI_clamp hi, hR.2 i c]
    exact h
theorem v_wordLength {a : Nat → Nat} (ha : wfA a) {m q : Nat} (hm : m < a 0) {σ : Sg} (hq : σ.1 q 0 = nI (wdN a m)) {post : Int32 → Sg → Prop} (h : post (nI (wl a m)) σ) : wpX3_wordLength q σ post := by
  unfold wpX3_wordLength
  rw [hq]
  have h0 := ha.2.2.2 m hm
  unfold wdN at *
  unfold wl at h
  generalize a (2 + 3 * m) = l0 at *
  obtain ⟨h1, h2, -⟩ := h0
  have hl0 : ¬ l0 = 0 := by omega
  rcases h2 with ⟨h2, h3⟩ | ⟨h2, h3 | h3⟩
  · rw [h2, h3] at h ⊢
    refine pk_le (l0 + 256 * 0 + 65536 * 0) 65535 (fun c => pk_le (l0 + 256 * 0 + 65536 * 0) 255 (fun c => ?_) (fun c => by omega)) (fun c => by omega)
    refine pk_le (l0 + 256 * 0 + 65536 * 0) 0 (fun c => by omega) (fun c => ?_)
    rw [if_neg hl0, if_pos rfl] at h
    exact h
  · rw [h3] at h ⊢
    generalize a (3 + 3 * m) = l1 at *
    refine pk_le (l0 + 256 * l1 + 65536 * 0) 65535 (fun c => pk_le (l0 + 256 * l1 + 65536 * 0) 255 (fun c => by omega) (fun c => ?_)) (fun c => by omega)
    rw [if_neg (by omega), if_neg (by omega), if_pos rfl] at h
    exact h
  · generalize a (3 + 3 * m) = l1 at *
    generalize a (4 + 3 * m) = l2 at *
    refine pk_le (l0 + 256 * l1 + 65536 * l2) 65535 (fun c => by omega) (fun c => ?_)
    rw [if_neg (by omega), if_neg (by omega), if_neg (by omega)] at h
    exact h
theorem wd_let {a : Nat → Nat} (ha : wfA a) {m k : Nat} (hm : m < a 0) (hk : k < 3) : wdN a m / 2 ^ (8 * k) % 256 = a (2 + 3 * m + k) := by
  have h0 := ha.2.2.2 m hm
  obtain ⟨h1, h2, -⟩ := h0
  have l1 : a (3 + 3 * m) < 256 := by omega
  have l2 : a (4 + 3 * m) < 256 := by omega
  unfold wdN
  rcases (show k = 0 ∨ k = 1 ∨ k = 2 by omega) with rfl | rfl | rfl
  · rw [show 2 ^ (8 * 0) = 1 from rfl, show 2 + 3 * m + 0 = 2 + 3 * m by omega]; omega
  · rw [show 2 ^ (8 * 1) = 256 from rfl, show 2 + 3 * m + 1 = 3 + 3 * m by omega]; omega
  · rw [show 2 ^ (8 * 2) = 65536 from rfl, show 2 + 3 * m + 2 = 4 + 3 * m by omega]; omega
theorem wd_lt {a : Nat → Nat} (ha : wfA a) {m : Nat} (hm : m < a 0) : wdN a m < 16777216 := by
  obtain ⟨h1, h2, -⟩ := ha.2.2.2 m hm
  unfold wdN; omega
theorem v_letter {a : Nat → Nat} (ha : wfA a) {m q k : Nat} (hm : m < a 0) (hk : k < 3) {σ : Sg} (hq : σ.1 q 0 = nI (wdN a m)) {post : Int32 → Sg → Prop} (h : post (eI (a (2 + 3 * m + k))) σ) : wpX3_letter q (nI k) σ post := by
  unfold wpX3_letter
  have hw := wd_lt ha hm
  have hlt : a (2 + 3 * m + k) < 256 := by rw [← wd_let ha hm hk]; exact Nat.mod_lt _ (by decide)
  rw [hq, c_mul8, c_shr (by omega) (by omega), c_and255 (Nat.lt_of_le_of_lt (Nat.div_le_self _ _) (by omega)), wd_let ha hm hk]
  unfold eI at h
  refine ⟨fun c => absurd c (nI_pos (by omega)), fun _ => pk_le 3 k (fun c => by omega) (fun c => ?_)⟩
  by_cases h0 : a (2 + 3 * m + k) = 0
  · rw [if_pos h0] at h
    rw [h0]
    exact ⟨fun c => absurd rfl c, fun _ => h⟩
  · rw [if_neg h0] at h
    exact ⟨fun _ => h, fun c => absurd c (nI_ne0 (by omega) (by omega))⟩
theorem wl_let {a : Nat → Nat} (ha : wfA a) {m k : Nat} (hm : m < a 0) (hk : k < wl a m) : 97 ≤ a (2 + 3 * m + k) ∧ a (2 + 3 * m + k) ≤ 122 := by
  obtain ⟨h1, h2, -⟩ := ha.2.2.2 m hm
  have h3 := wl_le a m
  have h4 : k = 0 ∨ k = 1 ∨ k = 2 := by omega
  unfold wl at hk
  rcases h4 with rfl | rfl | rfl
  · exact h1
  · rw [show 2 + 3 * m + 1 = 3 + 3 * m by omega]
    by_cases q : a (3 + 3 * m) = 0
    · rw [if_neg (by omega), if_pos q] at hk; omega
    · omega
  · rw [show 2 + 3 * m + 2 = 4 + 3 * m by omega]
    by_cases q : a (3 + 3 * m) = 0
    · rw [if_neg (by omega), if_pos q] at hk; omega
    · by_cases q2 : a (4 + 3 * m) = 0
      · rw [if_neg (by omega), if_neg q, if_pos q2] at hk; omega
      · omega
theorem cI_let {tx : Nat → Nat} {n i l : Nat} (hT : wfT tx n) (hl : 97 ≤ l ∧ l ≤ 122) {A B : Prop} (f : (decide (i < n) && decide (tx i = l)) = true → A) (g : (decide (i < n) && decide (tx i = l)) = false → B) : (¬ cI tx n i = eI l → B) ∧ (cI tx n i = eI l → A) := by
  have h1 := hT.2 i
  unfold cI eI
  rw [if_neg (show ¬ l = 0 by omega)]
  by_cases hi : i < n
  · rw [if_pos hi]
    by_cases he : tx i = l
    · subst he
      exact ⟨fun c => absurd rfl c, fun _ => f (by simp [hi])⟩
    · exact ⟨fun _ => g (by simp [he]), fun c => absurd ((nI_eq (by omega) (by omega)).mp c) he⟩
  · rw [if_neg hi]
    refine ⟨fun _ => g (by simp [hi]), fun c => ?_⟩
    exact absurd c (fun c => (nI_m9 (by omega)).mp c)
theorem v_lettersMatched {b : Nat} (hb : s_fin b 0 = b + 1) {a tx : Nat → Nat} (ha : wfA a) {n m p q : Nat} (hT : wfT tx n) (hm : m < a 0) {σ : Sg} (hR : repT σ b tx n) (hq : σ.1 q 0 = nI (wdN a m)) (hp : p < 2 ^ 30) {post : Int32 → Sg → Prop} (h : post (nI (mch a tx n m p)) σ) : wpX0_lettersMatched b q (nI p) σ post := by
  have h3 := wl_le a m
  have key : ∀ r k, k + r = wl a m → post (nI (mt (fun k => decide (p + k < n) && decide (tx (p + k) = a (2 + 3 * m + k))) r k)) σ → BX0_lettersMatched_2 b q (nI p) post (r + 1) (nI k) σ := by
    intro r
    induction r with
    | zero =>
      intro k hk h
      refine v_wordLength ha hm hq ?_
      exact pk_le (wl a m) k (fun _ => h) (fun c => by omega)
    | succ r ih =>
      intro k hk h
      refine v_wordLength ha hm hq ?_
      refine pk_le (wl a m) k (fun c => by omega) (fun c => ?_)
      rw [nI_add]
      refine v_at hb hT.1 hR (by omega) ?_
      refine v_letter ha hm (by omega) hq ?_
      unfold mt at h
      refine cI_let hT (wl_let ha hm (by omega)) (fun c => ?_) (fun c => ?_)
      · rw [if_pos c] at h
        rw [nI_1]
        exact ih (k + 1) (by omega) h
      · rw [if_neg (by rw [c]; decide)] at h
        exact h
  exact ⟨wl a m + 1, key (wl a m) 0 (by omega) h⟩
theorem v_digitsFrom {b : Nat} (hb : s_fin b 0 = b + 1) {tx : Nat → Nat} {n p : Nat} (hT : wfT tx n) {σ : Sg} (hR : repT σ b tx n) (hp : p < 2 ^ 30) {post : Int32 → Sg → Prop} (h : post (nI (dct tx n p)) σ) : wpX0_digitsFrom b (nI p) σ post := by
  have key : ∀ r k, k + r = 3 → post (nI (mt (fun k => dg tx n (p + k)) r k)) σ → BX0_digitsFrom_2 b (nI p) post (r + 1) (nI k) σ := by
    intro r
    induction r with
    | zero =>
      intro k hk h
      exact pk_le 3 k (fun _ => h) (fun c => by omega)
    | succ r ih =>
      intro k hk h
      refine pk_le 3 k (fun c => by omega) (fun c => ?_)
      rw [nI_add]
      refine v_at hb hT.1 hR (by omega) ?_
      refine v_isDigit hT ?_
      unfold mt at h
      refine bI_0 _ (fun c => ?_) (fun c => ?_)
      · rw [if_neg (by rw [c]; decide)] at h
        exact h
      · rw [if_pos c] at h
        rw [nI_1]
        exact ih (k + 1) (by omega) h
  exact ⟨4, key 3 0 (by omega) h⟩
theorem v_endOf {b : Nat} (hb : s_fin b 0 = b + 1) {a tx : Nat → Nat} (ha : wfA a) {n m p q : Nat} (hT : wfT tx n) (hm : m < a 0) {σ : Sg} (hR : repT σ b tx n) (hq : repMb σ q a m) (hp : p < 2 ^ 29) {post : Int32 → Sg → Prop} (h : post (eI (enP a tx n m p)) σ) : wpX0_endOf b q (nI p) σ post := by
  have h3 := wl_le a m
  have h4 := mch_le a tx n m p
  have h5 := dct_le tx n (p + wl a m)
  have hkind := (ha.2.2.2 m hm).2.2.1
  unfold wpX0_endOf
  refine v_wordLength ha hm hq.1 ?_
  refine v_lettersMatched hb ha hT hm hR hq.1 (by omega) ?_
  refine v_wordLength ha hm hq.1 ?_
  unfold enP at h
  rw [hq.2.1, nI_add]
  refine pk_le (wl a m) (mch a tx n m p) (fun c => ?_) (fun c => ?_)
  · rw [if_neg (by omega)] at h
    rcases (show a (20 + m) = 0 ∨ a (20 + m) = 1 ∨ a (20 + m) = 2 by omega) with k | k | k
    · rw [k] at h ⊢
      rw [if_neg (by decide), if_neg (by decide)] at h
      refine ⟨fun _ => ⟨fun _ => ?_, fun c => absurd c (by decide)⟩, fun c => absurd c (by decide)⟩
      rw [eI, if_neg (by have := ha.wl1 hm; omega)] at h
      exact h
    · rw [k] at h ⊢
      rw [if_pos rfl] at h
      refine ⟨fun c => absurd rfl c, fun _ => ?_⟩
      refine v_digitsFrom hb hT hR (by omega) ?_
      refine pk_le (dct tx n (p + wl a m)) 0 (fun c => ?_) (fun c => ?_)
      · rw [if_pos (by omega)] at h; exact h
      · rw [if_neg (by omega), eI, if_neg (by omega)] at h
        rw [nI_add]; exact h
    · rw [k] at h ⊢
      rw [if_neg (by decide), if_pos rfl] at h
      refine ⟨fun _ => ⟨fun c => absurd rfl c, fun _ => ?_⟩, fun c => absurd c (by decide)⟩
      refine v_at hb hT.1 hR (by omega) ?_
      refine v_isCapital hT ?_
      refine bI_0 _ (fun c => ?_) (fun c => ?_)
      · rw [if_neg (by rw [c]; decide)] at h; exact h
      · rw [if_pos c, eI, if_neg (by omega)] at h
        rw [nI_1]
        exact h
  · rw [if_pos (by omega)] at h
    exact h
theorem v_numberIn {b : Nat} (hb : s_fin b 0 = b + 1) {a tx : Nat → Nat} (ha : wfA a) {n m p q : Nat} (hT : wfT tx n) (hm : m < a 0) {σ : Sg} (hR : repT σ b tx n) (hq : repMb σ q a m) (hp : p < 2 ^ 29) (he : enP a tx n m p ≠ 0) {post : Int32 → Sg → Prop} (h : post (nI (vlP a tx n m p)) σ) : wpX0_numberIn b q (nI p) (nI (enP a tx n m p)) σ post := by
  have h3 := wl_le a m
  have h5 := dct_le tx n (p + wl a m)
  have hkind := (ha.2.2.2 m hm).2.2.1
  have hin := enP_in ha hm he
  have hn60 : n ≤ 60 := hT.1
  unfold wpX0_numberIn
  refine v_wordLength ha hm hq.1 ?_
  unfold vlP at h
  rw [hq.2.1, nI_add]
  have hE : enP a tx n m p = enP a tx n m p := rfl
  rcases (show a (20 + m) = 0 ∨ a (20 + m) = 1 ∨ a (20 + m) = 2 by omega) with k | k | k
  · rw [k] at h ⊢
    rw [if_neg (by decide), if_neg (by decide)] at h
    exact ⟨fun _ => ⟨fun _ => h, fun c => absurd c (by decide)⟩, fun c => absurd c (by decide)⟩
  · have he2 : enP a tx n m p = p + wl a m + dct tx n (p + wl a m) := by
      unfold enP at he ⊢
      rw [k] at he ⊢
      rw [if_pos rfl] at he ⊢
      split
      · rename_i z; rw [if_pos z] at he; exact absurd rfl he
      · rename_i z; rw [if_neg z] at he
        split
        · rename_i z2; rw [if_pos z2] at he; exact absurd rfl he
        · rfl
    rw [k] at h ⊢
    rw [if_pos rfl] at h
    refine ⟨fun c => absurd rfl c, fun _ => ?_⟩
    have hdig : ∀ i, i < dct tx n (p + wl a m) → dg tx n (p + wl a m + i) = true := fun i hi => mt_all (fun k => dg tx n (p + wl a m + k)) 3 0 i (Nat.zero_le _) hi
    have hnv : ∀ d, d ≤ dct tx n (p + wl a m) → nv tx (p + wl a m) d < 1000 := by
      have hb1 : ∀ d, d ≤ dct tx n (p + wl a m) → nv tx (p + wl a m) d < 10 ^ d := by
        intro d
        induction d with
        | zero => intro _; exact Nat.one_pos
        | succ d ih =>
          intro hd
          have g := hdig d (by omega)
          simp only [dg, Bool.and_eq_true, decide_eq_true_eq] at g
          have g2 := ih (by omega)
          have e1 : nv tx (p + wl a m) (d + 1) = 10 * nv tx (p + wl a m) d + (tx (p + wl a m + d) - 48) := rfl
          rw [e1, Nat.pow_succ]
          omega
      intro d hd
      have g := hb1 d hd
      have g2 : 10 ^ d ≤ 10 ^ 3 := Nat.pow_le_pow_right (by decide) (by omega)
      omega
    have key : ∀ r d, d + r = dct tx n (p + wl a m) → post (nI (nv tx (p + wl a m) (d + r))) σ → BX0_numberIn_23 b q (nI p) (nI (enP a tx n m p)) post (r + 1) (nI (nv tx (p + wl a m) d)) (nI (p + wl a m + d)) σ := by
      intro r
      induction r with
      | zero =>
        intro d hd h
        exact pk_le (enP a tx n m p) (p + wl a m + d) (fun _ => h) (fun c => by omega)
      | succ r ih =>
        intro d hd h
        refine pk_le (enP a tx n m p) (p + wl a m + d) (fun c => by omega) (fun c => ?_)
        rw [hR.1]
        refine pk_le n (p + wl a m + d) (fun c => by omega) (fun c2 => ?_)
        refine v_at hb hT.1 hR (by omega) ?_
        have g := hdig d (by omega)
        simp only [dg, Bool.and_eq_true, decide_eq_true_eq] at g
        have g2 := hnv d (by omega)
        rw [cI, if_pos c2, show (10 : Int32) * nI (nv tx (p + wl a m) d) = nI (10 * nv tx (p + wl a m) d) from pk_mul 10 _, nI_add, show nI (10 * nv tx (p + wl a m) d + tx (p + wl a m + d)) - (48 : Int32) = nI (10 * nv tx (p + wl a m) d + tx (p + wl a m + d) - 48) from pk_sub (b := 48) (by omega), nI_1, show 10 * nv tx (p + wl a m) d + tx (p + wl a m + d) - 48 = nv tx (p + wl a m) (d + 1) from (by show _ = 10 * nv tx (p + wl a m) d + (tx (p + wl a m + d) - 48); omega)]
        exact ih (d + 1) (by omega) (by rw [show d + 1 + r = d + (r + 1) by omega]; exact h)
    exact ⟨_, key (dct tx n (p + wl a m)) 0 (by omega) (by rw [Nat.zero_add]; exact h)⟩
  · have hc : cp tx n (p + wl a m) = true := by
      unfold enP at he
      rw [k] at he
      split at he
      · exact absurd rfl he
      · rw [if_neg (by decide), if_pos rfl] at he
        split at he
        · assumption
        · exact absurd rfl he
    simp only [cp, Bool.and_eq_true, decide_eq_true_eq] at hc
    rw [k] at h ⊢
    rw [if_neg (by decide), if_pos rfl] at h
    refine ⟨fun _ => ⟨fun c => absurd rfl c, fun _ => ?_⟩, fun c => absurd c (by decide)⟩
    refine v_at hb hT.1 hR (by omega) ?_
    rw [cI, if_pos hc.1, show nI (tx (p + wl a m)) - (65 : Int32) = nI (tx (p + wl a m) - 65) from pk_sub (b := 65) hc.2.1]
    exact h
