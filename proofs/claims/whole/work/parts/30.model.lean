/-! the reference's small methods -/
def repW (σ : Sg) (a : Nat → Nat) : Prop := ∀ k, k < 50 → σ.1 118 k = nI (a k)
def ctxM (σ : Sg) (a tx : Nat → Nat) (n : Nat) : Prop := wfA a ∧ wfT tx n ∧ repW σ a ∧ σ.1 117 6 = nI n ∧ ∀ j, j < n → σ.1 121 j = nI (tx j)
theorem ctxM.fr {σ σ' : Sg} {a tx : Nat → Nat} {n lo hi : Nat} (h : ctxM σ a tx n) (hf : frR lo hi σ σ') (hlo : 122 ≤ lo) : ctxM σ' a tx n := by
  obtain ⟨h1, h2, h3, h4, h5⟩ := h
  refine ⟨h1, h2, ?_, ?_, ?_⟩
  · unfold repW; rw [(hf 118 (by omega)).1]; exact h3
  · rw [(hf 117 (by omega)).1]; exact h4
  · rw [(hf 121 (by omega)).1]; exact h5
theorem z0 : ((0 : Int32)).toNatClampNeg = 0 := by decide
theorem z1 : ((1 : Int32)).toNatClampNeg = 1 := by decide
theorem in0_50 : vp_in ((0 : Int32)) 50 := pk_in 0 50 (by decide)
theorem in1_50 : vp_in ((1 : Int32)) 50 := pk_in 1 50 (by decide)
theorem a_lt {a : Nat → Nat} (ha : wfA a) (k : Nat) : a k < 1000 := by have := ha.2.2.1 k; omega
theorem m_isIn {x lo hi : Nat} (hx : x < 2 ^ 31) (hlo : lo < 2 ^ 31) (hhi : hi < 2 ^ 31) {σ : Sg} {post : Int32 → Sg → Prop} (h : post (bI (decide (lo ≤ x) && decide (x ≤ hi))) σ) : wpX7_isIn (nI x) (nI lo) (nI hi) σ post := by
  unfold wpX7_isIn
  refine pk_lt x lo (fun c => ?_) (fun c => pk_lt hi x (fun c2 => ?_) (fun c2 => ?_))
  · rw [decide_eq_false (by omega)] at h; exact h
  · rw [decide_eq_false (show ¬ x ≤ hi by omega), Bool.and_false] at h; exact h
  · rw [decide_eq_true c, decide_eq_true c2] at h; exact h
theorem m_letter {a : Nat → Nat} {m k : Nat} (hm : m < 6) (hk : k < 3) {σ : Sg} (hW : repW σ a) {post : Int32 → Sg → Prop} (h : post (nI (a (2 + 3 * m + k))) σ) : wpX7_letter (nI m) (nI k) σ post := by
  unfold wpX7_letter
  rw [show (3 : Int32) * nI m = nI (3 * m) from pk_mul 3 m, show (2 : Int32) + nI (3 * m) = nI (2 + 3 * m) from nI_add 2 _, nI_add]
  refine ⟨pk_in (2 + 3 * m + k) 50 (by omega), ?_⟩
  rw [nI_clamp (by omega), hW _ (by omega)]; exact h
theorem wl_mt (a : Nat → Nat) (m : Nat) : wl a m = mt (fun k => decide (a (2 + 3 * m + k) ≠ 0)) 3 0 := by
  unfold wl
  have e0 : 2 + 3 * m + 0 = 2 + 3 * m := rfl
  have e1 : 2 + 3 * m + (0 + 1) = 3 + 3 * m := by omega
  have e2 : 2 + 3 * m + (0 + 1 + 1) = 4 + 3 * m := by omega
  simp only [mt, e0, e1, e2]
  by_cases h0 : a (2 + 3 * m) = 0
  · simp [h0]
  · by_cases h1 : a (3 + 3 * m) = 0
    · simp [h0, h1]
    · by_cases h2 : a (4 + 3 * m) = 0
      · simp [h0, h1, h2]
      · simp [h0, h1, h2]
theorem m_wordLength {a : Nat → Nat} (ha : wfA a) {m : Nat} (hm : m < 6) {σ : Sg} (hW : repW σ a) {post : Int32 → Sg → Prop} (h : post (nI (wl a m)) σ) : wpX7_wordLength (nI m) σ post := by
  rw [wl_mt] at h
  have key : ∀ r k, k + r = 3 → post (nI (mt (fun k => decide (a (2 + 3 * m + k) ≠ 0)) r k)) σ → BX7_wordLength_2 (nI m) post (r + 1) (nI k) σ := by
    intro r
    induction r with
    | zero =>
      intro k hk h
      exact pk_le 3 k (fun _ => h) (fun c => by omega)
    | succ r ih =>
      intro k hk h
      refine pk_le 3 k (fun c => by omega) (fun c => m_letter hm (by omega) hW ?_)
      unfold mt at h
      have hl := a_lt ha (2 + 3 * m + k)
      refine ⟨fun e => ?_, fun e => ?_⟩
      · have e2 := (nI_eq (by omega) (by omega)).mp (e.trans nI_0.symm)
        rw [if_neg (by simp [e2])] at h
        exact h
      · have e2 : a (2 + 3 * m + k) ≠ 0 := fun z => e (by rw [z]; rfl)
        rw [if_pos (by simp [e2])] at h
        rw [nI_1]; exact ih (k + 1) (by omega) h
  exact ⟨4, key 3 0 (by omega) h⟩
theorem m_matched {σ : Sg} {a tx : Nat → Nat} {n m p : Nat} (hc : ctxM σ a tx n) (hm : m < a 0) (hp : p < 2 ^ 29) {post : Int32 → Sg → Prop} (h : post (nI (mch a tx n m p)) σ) : wpX7_matched (nI m) (nI p) σ post := by
  obtain ⟨ha, hT, hW, hL, hX⟩ := hc
  have h6 := ha.1
  have hn := hT.1
  have h3 := wl_le a m
  have key : ∀ r k, k + r = wl a m → post (nI (mt (fun k => decide (p + k < n) && decide (tx (p + k) = a (2 + 3 * m + k))) r k)) σ → BX7_matched_2 (nI m) (nI p) post (r + 1) (nI k) σ := by
    intro r
    induction r with
    | zero =>
      intro k hk h
      rw [BX7_matched_2]
      exact m_wordLength ha (by omega) hW (pk_le (wl a m) k (fun _ => h) (fun c => by omega))
    | succ r ih =>
      intro k hk h
      rw [BX7_matched_2]
      refine m_wordLength ha (by omega) hW (pk_le (wl a m) k (fun c => by omega) (fun c => ?_))
      rw [hL, nI_add]
      unfold mt at h
      refine pk_le n (p + k) (fun c2 => ?_) (fun c2 => ⟨pk_in (p + k) 60 (by omega), m_letter (by omega) (by omega) hW ?_⟩)
      · rw [if_neg (by simp; omega)] at h; exact h
      · rw [nI_clamp (by omega), hX _ c2]
        have ht := hT.2 (p + k)
        have hl := a_lt ha (2 + 3 * m + k)
        refine ⟨fun e => ?_, fun e => ?_⟩
        · have e2 : tx (p + k) ≠ a (2 + 3 * m + k) := fun z => e (by rw [z])
          rw [if_neg (by simp [e2])] at h; exact h
        · have e2 := (nI_eq (by omega) (by omega)).mp e
          rw [if_pos (by simp [e2, c2])] at h
          rw [nI_1]; exact ih (k + 1) (by omega) h
  exact ⟨_, key (wl a m) 0 (by omega) h⟩
theorem m_isDigitAt {σ : Sg} {a tx : Nat → Nat} {n p : Nat} (hc : ctxM σ a tx n) (hp : p < 2 ^ 30) {post : Int32 → Sg → Prop} (h : post (bI (dg tx n p)) σ) : wpX7_isDigitAt (nI p) σ post := by
  obtain ⟨ha, hT, hW, hL, hX⟩ := hc
  have hn := hT.1
  have ht := hT.2 p
  unfold wpX7_isDigitAt
  rw [hL]
  unfold dg at h
  refine pk_le n p (fun c => ?_) (fun c => ⟨pk_in p 60 (by omega), ?_⟩)
  · rw [decide_eq_false (by omega), Bool.false_and] at h; exact h
  · rw [nI_clamp (by omega), hX _ c]
    rw [decide_eq_true c, Bool.true_and] at h
    refine m_isIn (lo := 48) (hi := 57) (by omega) (by decide) (by decide) ?_
    refine bI_0 _ (fun e => ?_) (fun e => ?_)
    · rw [e] at h; exact h
    · rw [e] at h; exact h
theorem m_endOf {σ : Sg} {a tx : Nat → Nat} {n m p : Nat} (hc : ctxM σ a tx n) (hm : m < a 0) (hp : p < 2 ^ 28) {post : Int32 → Sg → Prop} (h : post (eI (enP a tx n m p)) σ) : wpX7_endOf (nI m) (nI p) σ post := by
  have hc0 := hc
  obtain ⟨ha, hT, hW, hL, hX⟩ := hc
  have h6 := ha.1
  have hn := hT.1
  have h3 := wl_le a m
  have h4 := mch_le a tx n m p
  have h1 := ha.wl1 hm
  have hkind := (ha.2.2.2 m hm).2.2.1
  unfold wpX7_endOf
  refine m_wordLength ha (by omega) hW (m_matched hc0 hm (by omega) (m_wordLength ha (by omega) hW ?_))
  refine pk_le (wl a m) (mch a tx n m p) (fun c => ?_) (fun c => ?_)
  · have hm1 : ¬ mch a tx n m p < wl a m := by omega
    rw [show (20 : Int32) + nI m = nI (20 + m) from nI_add 20 m]
    refine ⟨pk_in (20 + m) 50 (by omega), ?_⟩
    rw [nI_clamp (by omega), hW _ (by omega), nI_add]
    rcases (show a (20 + m) = 0 ∨ a (20 + m) = 1 ∨ a (20 + m) = 2 by omega) with k | k | k
    · rw [k]
      have hE : enP a tx n m p = p + wl a m := by
        unfold enP; rw [if_neg hm1, if_neg (show ¬ a (20 + m) = 1 by omega), if_neg (show ¬ a (20 + m) = 2 by omega)]
      rw [hE, eI, if_neg (by omega)] at h
      exact ⟨fun w => absurd rfl w.1, fun _ => h, fun w => absurd w (by decide)⟩
    · rw [k]
      refine ⟨fun w => absurd rfl w.2, fun w => absurd w (by decide), fun _ => ?_⟩
      have hfin : ∀ k, k = dct tx n (p + wl a m) → ((¬ nI (p + wl a m + k) = nI (p + wl a m) → post (nI (p + wl a m + k)) σ) ∧ (nI (p + wl a m + k) = nI (p + wl a m) → post (-9) σ)) := by
        intro k' hk
        have hd := dct_le tx n (p + wl a m)
        refine ⟨fun w => ?_, fun w => ?_⟩
        · have hd : ¬ dct tx n (p + wl a m) = 0 := fun z => w (by rw [hk, z]; rfl)
          have hE : enP a tx n m p = p + wl a m + dct tx n (p + wl a m) := by
            unfold enP; rw [if_neg hm1, if_pos k, if_neg hd]
          rw [hE, eI, if_neg (by omega)] at h
          rw [hk]; exact h
        · have e := (nI_eq (by omega) (by omega)).mp w
          have hE : enP a tx n m p = 0 := by
            unfold enP; rw [if_neg hm1, if_pos k, if_pos (by omega)]
          rw [hE] at h
          exact h
      have key : ∀ r k, k + r = 3 → mt (fun k => dg tx n (p + wl a m + k)) r k = dct tx n (p + wl a m) → BX7_endOf_65 (nI m) (nI p) post (r + 1) (nI (p + wl a m)) (nI (p + wl a m + k)) σ := by
        intro r
        induction r with
        | zero =>
          intro k hk hmt
          rw [BX7_endOf_65, show nI (p + wl a m) + (3 : Int32) = nI (p + wl a m + 3) from nI_add _ 3]
          exact pk_le (p + wl a m + 3) (p + wl a m + k) (fun _ => hfin k hmt) (fun c => by omega)
        | succ r ih =>
          intro k hk hmt
          rw [BX7_endOf_65, show nI (p + wl a m) + (3 : Int32) = nI (p + wl a m + 3) from nI_add _ 3]
          refine pk_le (p + wl a m + 3) (p + wl a m + k) (fun c => by omega) (fun c => m_isDigitAt hc0 (by omega) ?_)
          unfold mt at hmt
          refine bI_0 _ (fun e => ?_) (fun e => ?_)
          · rw [if_neg (by rw [e]; decide)] at hmt
            exact hfin k hmt
          · rw [if_pos e] at hmt
            rw [nI_1]
            exact ih (k + 1) (by omega) hmt
      exact ⟨_, key 3 0 (by omega) rfl⟩
    · rw [k]
      refine ⟨fun _ => ?_, fun w => absurd w (by decide), fun w => absurd w (by decide)⟩
      rw [hL]
      refine pk_le n (p + wl a m) (fun c2 => ?_) (fun c2 => ⟨pk_in (p + wl a m) 60 (by omega), ?_⟩)
      · have hE : enP a tx n m p = 0 := by
          unfold enP; rw [if_neg hm1, if_neg (show ¬ a (20 + m) = 1 by omega), if_pos k, if_neg]
          unfold cp; rw [decide_eq_false (by omega), Bool.false_and]; decide
        rw [hE] at h; exact h
      · have ht := hT.2 (p + wl a m)
        rw [nI_clamp (by omega), hX _ c2]
        refine m_isIn (lo := 65) (hi := 90) (by omega) (by decide) (by decide) ?_
        have hE : enP a tx n m p = if (decide (65 ≤ tx (p + wl a m)) && decide (tx (p + wl a m) ≤ 90)) = true then p + wl a m + 1 else 0 := by
          unfold enP; rw [if_neg hm1, if_neg (show ¬ a (20 + m) = 1 by omega), if_pos k]
          unfold cp; rw [decide_eq_true c2, Bool.true_and]
        refine bI_0 _ (fun e => ?_) (fun e => ?_)
        · rw [hE, if_neg (by rw [e]; decide)] at h; exact h
        · rw [hE, if_pos e, eI, if_neg (by omega)] at h
          rw [nI_1]; exact h
  · have hE : enP a tx n m p = 0 := by unfold enP; rw [if_pos (by omega)]
    rw [hE] at h; exact h
theorem m_countIn {t m : Nat} (ht : t < 2 ^ 31) (hm : m < 15) {σ : Sg} {post : Int32 → Sg → Prop} (h : post (nI (cin t m)) σ) : wpX7_countIn (nI t) (nI m) σ post := by
  unfold wpX7_countIn
  rw [c_cin ht hm]; exact h
theorem m_with {t m : Nat} (hm : m < 15) {σ : Sg} {post : Int32 → Sg → Prop} (h : post (nI (t + 4 ^ m)) σ) : wpX7_with (nI t) (nI m) σ post := by
  unfold wpX7_with
  rw [c_with hm]; exact h
theorem m_has {n m : Nat} (hn : n < 2 ^ 31) (hm : m < 30) {σ : Sg} {post : Int32 → Sg → Prop} (h : post (bI (n.testBit m)) σ) : wpX7_has (nI n) (nI m) σ post := by
  unfold wpX7_has
  rw [c_bit hn hm]
  by_cases z : n.testBit m = true
  · rw [z] at h
    rw [if_pos z]
    exact ⟨fun w => absurd rfl w, fun _ => h⟩
  · rw [Bool.eq_false_iff.mpr z] at h
    rw [if_neg z]
    exact ⟨fun _ => h, fun w => absurd w (by decide)⟩
theorem mayB_1 (a : Nat → Nat) (t m k : Nat) : (List.range (k + 1)).all (fun b => !((a (44 + m)).testBit b) || decide (cin t b = 0)) = ((List.range k).all (fun b => !((a (44 + m)).testBit b) || decide (cin t b = 0)) && (!((a (44 + m)).testBit k) || decide (cin t k = 0))) := by
  rw [List.range_succ, List.all_append]; simp
theorem m_may {σ : Sg} {a : Nat → Nat} {t m : Nat} (ha : wfA a) (hW : repW σ a) (ht : t < 2 ^ 31) (hm : m < a 0) {post : Int32 → Sg → Prop} (h : post (bI (mayB a t m)) σ) : wpX7_may (nI t) (nI m) σ post := by
  have h6 := ha.1
  unfold wpX7_may
  refine m_countIn ht (by omega) ?_
  rw [show (32 : Int32) + nI m = nI (32 + m) from nI_add 32 m]
  refine ⟨pk_in (32 + m) 50 (by omega), ?_⟩
  rw [nI_clamp (by omega), hW _ (by omega)]
  have hl := a_lt ha (32 + m)
  have hl2 := a_lt ha (44 + m)
  have hcn := cin_lt t m
  unfold mayB at h
  refine pk_lt (cin t m) (a (32 + m)) (fun c => ?_) (fun c => ?_)
  · rw [decide_eq_true c, Bool.true_and] at h
    have key : ∀ r k, k + r = a 0 → (List.range k).all (fun b => !((a (44 + m)).testBit b) || decide (cin t b = 0)) = true → BX7_may_21 (nI t) (nI m) post (r + 1) (nI k) σ := by
      intro r
      induction r with
      | zero =>
        intro k hk hall
        rw [BX7_may_21, z0, hW 0 (by decide)]
        refine ⟨in0_50, pk_le (a 0) k (fun _ => ?_) (fun c => by omega)⟩
        rw [show k = a 0 by omega] at hall
        rw [hall] at h; exact h
      | succ r ih =>
        intro k hk hall
        rw [BX7_may_21, z0, hW 0 (by decide)]
        refine ⟨in0_50, pk_le (a 0) k (fun c => by omega) (fun c2 => ?_)⟩
        rw [show (44 : Int32) + nI m = nI (44 + m) from nI_add 44 m]
        refine ⟨pk_in (44 + m) 50 (by omega), ?_⟩
        rw [nI_clamp (by omega), hW _ (by omega)]
        have hck := cin_lt t k
        refine m_has (by omega) (by omega) (bI_0 _ (fun e => ?_) (fun e => m_countIn ht (by omega) ?_))
        · rw [nI_1]
          exact ih (k + 1) (by omega) (by rw [mayB_1, hall, e]; rfl)
        · refine pk_le (cin t k) 0 (fun c3 => ?_) (fun c3 => ?_)
          · rw [nI_1]
            exact ih (k + 1) (by omega) (by rw [mayB_1, hall, decide_eq_true (show cin t k = 0 by omega)]; simp)
          · have hf : (List.range (a 0)).all (fun b => !((a (44 + m)).testBit b) || decide (cin t b = 0)) = false := by
              rw [Bool.eq_false_iff]
              intro hA
              have := List.all_eq_true.mp hA k (List.mem_range.mpr c2)
              rw [e, decide_eq_false (by omega)] at this
              cases this
            rw [hf] at h; exact h
    exact ⟨_, key (a 0) 0 (by omega) rfl⟩
  · rw [decide_eq_false (by omega), Bool.false_and] at h; exact h
theorem m_isWhole {σ : Sg} {a : Nat → Nat} {t : Nat} (ha : wfA a) (hW : repW σ a) (ht : t < 2 ^ 31) {post : Int32 → Sg → Prop} (h : post (bI (enB a t)) σ) : wpX7_isWhole (nI t) σ post := by
  have h6 := ha.1
  have key : ∀ r k, k + r = a 0 → (List.range k).all (fun m => decide (a (26 + m) ≤ cin t m)) = true → BX7_isWhole_2 (nI t) post (r + 1) (nI k) σ := by
    intro r
    induction r with
    | zero =>
      intro k hk hall
      rw [BX7_isWhole_2, z0, hW 0 (by decide)]
      refine ⟨in0_50, pk_le (a 0) k (fun _ => ?_) (fun c => by omega)⟩
      rw [show k = a 0 by omega] at hall
      rw [enB, hall] at h; exact h
    | succ r ih =>
      intro k hk hall
      rw [BX7_isWhole_2, z0, hW 0 (by decide)]
      refine ⟨in0_50, pk_le (a 0) k (fun c => by omega) (fun c => m_countIn ht (by omega) ?_)⟩
      rw [show (26 : Int32) + nI k = nI (26 + k) from nI_add 26 k]
      refine ⟨pk_in (26 + k) 50 (by omega), ?_⟩
      rw [nI_clamp (by omega), hW _ (by omega)]
      have hl := a_lt ha (26 + k)
      have hc := cin_lt t k
      refine pk_le (a (26 + k)) (cin t k) (fun c2 => ?_) (fun c2 => ?_)
      · rw [nI_1]
        exact ih (k + 1) (by omega) (by rw [enB_1, hall, decide_eq_true c2]; rfl)
      · have hf : enB a t = false := by
          rw [Bool.eq_false_iff]
          intro hE
          have := List.all_eq_true.mp hE k (List.mem_range.mpr c)
          rw [decide_eq_true_eq] at this
          omega
        rw [hf] at h; exact h
  exact ⟨_, key (a 0) 0 (by omega) rfl⟩
theorem m_startOf {σ : Sg} {a tx : Nat → Nat} {n t p : Nat} (hc : ctxM σ a tx n) (ht : t < 2 ^ 31) (hp : p ≤ n) {post : Int32 → Sg → Prop} (h : post (oI (stP a tx n t p)) σ) : wpX7_startOf (nI p) (nI t) σ post := by
  obtain ⟨ha, hT, hW, hL, hX⟩ := hc
  have hn := hT.1
  have hsep := ha.2.1
  unfold wpX7_startOf
  rw [z1, hW 1 (by decide), hL]
  unfold stP at h
  refine pk_eq t 0 (fun c => ?_) (fun c => ⟨in1_50, ?_⟩)
  · rw [if_pos (Or.inl c)] at h; exact h
  · refine ⟨fun c2 => ?_, fun c2 => ?_⟩
    · have c3 : a 1 ≠ 0 := fun z => by rw [z] at c2; exact c2 rfl
      rw [if_neg (by omega)] at h
      refine pk_le n p (fun c4 => ?_) (fun c4 => ⟨pk_in p 60 (by omega), in1_50, ?_⟩)
      · rw [if_neg (fun z => by omega)] at h; exact h
      · have htp := hT.2 p
        rw [nI_clamp (by omega), hX _ c4]
        by_cases q2 : tx p = a 1
        · rw [if_pos ⟨c4, q2⟩] at h
          rw [q2]
          exact ⟨fun z => absurd rfl z, fun _ => by rw [show nI p + (1 : Int32) = nI (p + 1) from nI_1 p]; exact h⟩
        · rw [if_neg (fun z => q2 z.2)] at h
          exact ⟨fun _ => h, fun z => absurd ((nI_eq (by omega) (by omega)).mp z) q2⟩
    · have c3 : a 1 = 0 := (nI_eq (by omega) (by omega)).mp (c2.trans nI_0.symm)
      rw [if_pos (Or.inr c3)] at h
      exact h
theorem m_furthest {σ : Sg} {a tx : Nat → Nat} {n t p : Nat} (hc : ctxM σ a tx n) (ht : t < 2 ^ 31) (hp : p ≤ n) {post : Int32 → Sg → Prop} (h : post (nI (fB a tx n t p)) σ) : wpX7_furthest (nI p) (nI t) σ post := by
  have hc0 := hc
  obtain ⟨ha, hT, hW, hL, hX⟩ := hc
  have h6 := ha.1
  have hn := hT.1
  unfold wpX7_furthest
  refine m_startOf hc0 ht hp ?_
  unfold fB at h
  by_cases q : stP a tx n t p = 0
  · rw [if_pos q] at h
    rw [q]
    exact ⟨fun w => absurd rfl w, fun _ => h⟩
  · rw [if_neg q] at h
    have hs2 := (stP_ge q).2 hp
    rw [show oI (stP a tx n t p) = nI (stP a tx n t p - 1) from by unfold oI; rw [if_neg q]]
    generalize hS : stP a tx n t p - 1 = s at *
    refine ⟨fun _ => ?_, fun w => absurd w.symm (fun w => (nI_m9 (by omega)).mp w)⟩
    have key : ∀ r k acc, k + r = a 0 → acc = (if p < mxN (fun m => if mayB a t m = true then s + mch a tx n m s else 0) k then mxN (fun m => if mayB a t m = true then s + mch a tx n m s else 0) k else p) → BX7_furthest_22 (nI p) (nI t) post (r + 1) (nI s) (nI acc) (nI k) σ := by
      intro r
      induction r with
      | zero =>
        intro k acc hk hacc
        rw [BX7_furthest_22, z0, hW 0 (by decide)]
        refine ⟨in0_50, pk_le (a 0) k (fun _ => ?_) (fun c => by omega)⟩
        rw [show k = a 0 by omega] at hacc
        rw [hacc]; exact h
      | succ r ih =>
        intro k acc hk hacc
        rw [BX7_furthest_22, z0, hW 0 (by decide)]
        refine ⟨in0_50, pk_le (a 0) k (fun c => by omega) (fun c => m_may ha hW ht c ?_)⟩
        have hmx : mxN (fun m => if mayB a t m = true then s + mch a tx n m s else 0) (k + 1) = (if mxN (fun m => if mayB a t m = true then s + mch a tx n m s else 0) k < (if mayB a t k = true then s + mch a tx n k s else 0) then (if mayB a t k = true then s + mch a tx n k s else 0) else mxN (fun m => if mayB a t m = true then s + mch a tx n m s else 0) k) := rfl
        refine bI_0 _ (fun e => ?_) (fun e => m_matched hc0 c (by omega) ?_)
        · rw [if_neg (show ¬ mayB a t k = true by rw [e]; decide), if_neg (Nat.not_lt_zero _)] at hmx
          rw [nI_1]
          exact ih (k + 1) acc (by omega) (by rw [hmx]; exact hacc)
        · rw [if_pos e] at hmx
          have m1 := mch_le a tx n k s
          have m2 := wl_le a k
          have m3 := mxN_le (f := fun m => if mayB a t m = true then s + mch a tx n m s else 0) (B := s + 3) k (fun m hm => by
            have h1 := mch_le a tx n m s
            have h2 := wl_le a m
            try dsimp only
            split <;> omega)
          have haccl : acc ≤ s + 3 ∨ acc = p := by rw [hacc]; split <;> omega
          rw [nI_add]
          refine pk_le (s + mch a tx n k s) acc (fun c2 => ?_) (fun c2 => ?_)
          · rw [nI_1]
            refine ih (k + 1) acc (by omega) ?_
            rw [hmx, hacc] at *
            split at c2 <;> split <;> (try split) <;> (try split) <;> omega
          · rw [nI_1]
            refine ih (k + 1) _ (by omega) ?_
            rw [hmx]
            rw [hacc] at c2
            split at c2 <;> split <;> (try split) <;> (try split) <;> omega
    exact ⟨_, key (a 0) 0 p (by omega) (by show p = if p < 0 then 0 else p; rw [if_neg (by omega)])⟩
theorem m_valueAt {σ : Sg} {a tx : Nat → Nat} {n m p : Nat} (hc : ctxM σ a tx n) (hm : m < a 0) (hp : p < 2 ^ 28) (he : enP a tx n m p ≠ 0) {post : Int32 → Sg → Prop} (h : post (nI (vlP a tx n m p)) σ) : wpX7_valueAt (nI m) (nI p) σ post := by
  have hc0 := hc
  obtain ⟨ha, hT, hW, hL, hX⟩ := hc
  have h6 := ha.1
  have hn := hT.1
  have h3 := wl_le a m
  have hkind := (ha.2.2.2 m hm).2.2.1
  have hm1 : ¬ mch a tx n m p < wl a m := fun q => he (by unfold enP; rw [if_pos q])
  unfold wpX7_valueAt
  refine m_wordLength ha (by omega) hW ?_
  rw [show (20 : Int32) + nI m = nI (20 + m) from nI_add 20 m]
  refine ⟨pk_in (20 + m) 50 (by omega), ?_⟩
  rw [nI_clamp (by omega), hW _ (by omega), nI_add]
  unfold vlP at h
  rcases (show a (20 + m) = 0 ∨ a (20 + m) = 1 ∨ a (20 + m) = 2 by omega) with k | k | k
  · rw [if_neg (show ¬ a (20 + m) = 1 by omega), if_neg (show ¬ a (20 + m) = 2 by omega)] at h
    rw [k]
    exact ⟨fun w => absurd rfl w, fun _ => h⟩
  · rw [if_pos k] at h
    rw [k]
    refine ⟨fun _ => ⟨pk_in (20 + m) 50 (by omega), fun _ => ?_, fun w => absurd w (by decide)⟩, fun w => absurd w (by decide)⟩
    have hdig : ∀ i, i < dct tx n (p + wl a m) → dg tx n (p + wl a m + i) = true := fun i hi => mt_all (fun k => dg tx n (p + wl a m + k)) 3 0 i (Nat.zero_le _) hi
    have hd3 := dct_le tx n (p + wl a m)
    have hnv : ∀ d, d ≤ dct tx n (p + wl a m) → nv tx (p + wl a m) d < 1000 := by
      intro d hd
      have g := nv_lt (tx := tx) (s := p + wl a m) (n := n) d (fun i hi => hdig i (by omega))
      have g2 : 10 ^ d ≤ 10 ^ 3 := Nat.pow_le_pow_right (by decide) (by omega)
      omega
    have key : ∀ r k, k + r = 3 → k ≤ dct tx n (p + wl a m) → mt (fun k => dg tx n (p + wl a m + k)) r k = dct tx n (p + wl a m) → BX7_valueAt_51 (nI m) (nI p) post (r + 1) (nI (p + wl a m)) (nI (nv tx (p + wl a m) k)) (nI (p + wl a m + k)) σ := by
      intro r
      induction r with
      | zero =>
        intro k hk hkd hmt
        rw [BX7_valueAt_51, show nI (p + wl a m) + (3 : Int32) = nI (p + wl a m + 3) from nI_add _ 3]
        refine pk_le (p + wl a m + 3) (p + wl a m + k) (fun _ => ?_) (fun c => by omega)
        rw [show k = dct tx n (p + wl a m) from hmt]; exact h
      | succ r ih =>
        intro k hk hkd hmt
        rw [BX7_valueAt_51, show nI (p + wl a m) + (3 : Int32) = nI (p + wl a m + 3) from nI_add _ 3]
        refine pk_le (p + wl a m + 3) (p + wl a m + k) (fun c => by omega) (fun c => m_isDigitAt hc0 (by omega) ?_)
        unfold mt at hmt
        refine bI_0 _ (fun e => ?_) (fun e => ?_)
        · rw [if_neg (by rw [e]; decide)] at hmt
          rw [hmt]; exact h
        · rw [if_pos e] at hmt
          have g := e
          simp only [dg, Bool.and_eq_true, decide_eq_true_eq] at g
          have hk1 : k + 1 ≤ dct tx n (p + wl a m) := by rw [← hmt]; exact mt_ge _ _ _
          have g2 := hnv k (by omega)
          refine ⟨pk_in (p + wl a m + k) 60 (by omega), ?_⟩
          rw [nI_clamp (by omega), hX _ g.1, show (10 : Int32) * nI (nv tx (p + wl a m) k) = nI (10 * nv tx (p + wl a m) k) from pk_mul 10 _, nI_add, show nI (10 * nv tx (p + wl a m) k + tx (p + wl a m + k)) - (48 : Int32) = nI (10 * nv tx (p + wl a m) k + tx (p + wl a m + k) - 48) from pk_sub (b := 48) (by omega), nI_1, show 10 * nv tx (p + wl a m) k + tx (p + wl a m + k) - 48 = nv tx (p + wl a m) (k + 1) from (by show _ = 10 * nv tx (p + wl a m) k + (tx (p + wl a m + k) - 48); omega)]
          exact ih (k + 1) (by omega) hk1 hmt
    exact ⟨_, key 3 0 (by omega) (Nat.zero_le _) rfl⟩
  · rw [if_neg (show ¬ a (20 + m) = 1 by omega), if_pos k] at h
    rw [k]
    have hcp : cp tx n (p + wl a m) = true := by
      refine Classical.byContradiction (fun z => he ?_)
      unfold enP; rw [if_neg hm1, if_neg (show ¬ a (20 + m) = 1 by omega), if_pos k, if_neg z]
    simp only [cp, Bool.and_eq_true, decide_eq_true_eq] at hcp
    refine ⟨fun _ => ⟨pk_in (20 + m) 50 (by omega), fun w => absurd rfl w, fun _ => ⟨pk_in (p + wl a m) 60 (by omega), ?_⟩⟩, fun w => absurd w (by decide)⟩
    rw [nI_clamp (by omega), hX _ hcp.1, show nI (tx (p + wl a m)) - (65 : Int32) = nI (tx (p + wl a m) - 65) from pk_sub (b := 65) hcp.2.1]
    exact h
theorem m_mayFollow {σ : Sg} {a : Nat → Nat} {t : Nat} (ha : wfA a) (hW : repW σ a) (ht : t < 2 ^ 31) {post : Int32 → Sg → Prop} (h : post (nI (sN (mayB a t) (a 0))) σ) : wpX7_mayFollow (nI t) σ post := by
  have h6 := ha.1
  have key : ∀ r k, k + r = a 0 → BX7_mayFollow_4 (nI t) post (r + 1) (nI (sN (mayB a t) k)) (nI k) σ := by
    intro r
    induction r with
    | zero =>
      intro k hk
      rw [BX7_mayFollow_4, z0, hW 0 (by decide)]
      refine ⟨in0_50, pk_le (a 0) k (fun _ => ?_) (fun c => by omega)⟩
      rw [show k = a 0 by omega]; exact h
    | succ r ih =>
      intro k hk
      rw [BX7_mayFollow_4, z0, hW 0 (by decide)]
      refine ⟨in0_50, pk_le (a 0) k (fun c => by omega) (fun c => m_may ha hW ht c ?_)⟩
      have h2 := ih (k + 1) (by omega)
      rw [sN_1] at h2
      refine bI_0 _ (fun e => ?_) (fun e => ?_)
      · rw [if_neg (by rw [e]; decide), Nat.add_zero] at h2
        rw [nI_1, show nI (sN (mayB a t) k) ||| (0 : Int32) = nI (sN (mayB a t) k) from by rw [show (0 : Int32) = nI 0 from rfl, c_or, Nat.or_zero]]
        exact h2
      · rw [if_pos e] at h2
        rw [nI_1, sN_set (by omega)]
        exact h2
  exact ⟨_, key (a 0) 0 (by omega)⟩
theorem m_sizeOf {σ : Sg} {t : Nat} (ht : t < 2 ^ 31) {post : Int32 → Sg → Prop} (h : post (nI (smN (cin t) 6)) σ) : wpX7_sizeOf (nI t) σ post := by
  have key : ∀ r k, k + r = 6 → BX7_sizeOf_4 (nI t) post (r + 1) (nI (smN (cin t) k)) (nI k) σ := by
    intro r
    induction r with
    | zero =>
      intro k hk
      rw [BX7_sizeOf_4]
      refine pk_le 6 k (fun _ => ?_) (fun c => by omega)
      rw [show k = 6 by omega]; exact h
    | succ r ih =>
      intro k hk
      rw [BX7_sizeOf_4]
      refine pk_le 6 k (fun c => by omega) (fun c => m_countIn ht (by omega) ?_)
      rw [nI_add, nI_1]
      exact ih (k + 1) (by omega)
  exact ⟨_, key 6 0 (by omega)⟩
/-- a tally within the greatest numbers of times -/
def isB (a : Nat → Nat) (t : Nat) : Bool := (List.range 6).all (fun m => decide (cin t m ≤ if m < a 0 then a (32 + m) else 0))
theorem isB_1 (a : Nat → Nat) (t k : Nat) : (List.range (k + 1)).all (fun m => decide (cin t m ≤ if m < a 0 then a (32 + m) else 0)) = ((List.range k).all (fun m => decide (cin t m ≤ if m < a 0 then a (32 + m) else 0)) && decide (cin t k ≤ if k < a 0 then a (32 + k) else 0)) := by
  rw [List.range_succ, List.all_append]; simp
theorem m_isState {σ : Sg} {a : Nat → Nat} {t : Nat} (ha : wfA a) (hW : repW σ a) (ht : t < 2 ^ 31) {post : Int32 → Sg → Prop} (h : post (bI (isB a t)) σ) : wpX7_isState (nI t) σ post := by
  have h6 := ha.1
  have hbad : ∀ k, k < 6 → ¬ cin t k ≤ (if k < a 0 then a (32 + k) else 0) → post 0 σ := by
    intro k hk hn
    have hf : isB a t = false := by
      rw [Bool.eq_false_iff]
      intro hE
      have := List.all_eq_true.mp hE k (List.mem_range.mpr hk)
      rw [decide_eq_true_eq] at this
      exact hn this
    rw [hf] at h; exact h
  have key : ∀ r k, k + r = 6 → (List.range k).all (fun m => decide (cin t m ≤ if m < a 0 then a (32 + m) else 0)) = true → BX7_isState_2 (nI t) post (r + 1) (nI k) σ := by
    intro r
    induction r with
    | zero =>
      intro k hk hall
      rw [BX7_isState_2]
      refine pk_le 6 k (fun _ => ?_) (fun c => by omega)
      rw [show k = 6 by omega] at hall
      rw [isB, hall] at h; exact h
    | succ r ih =>
      intro k hk hall
      rw [BX7_isState_2]
      refine pk_le 6 k (fun c => by omega) (fun c => m_countIn ht (by omega) ⟨in0_50, ?_⟩)
      rw [z0, hW 0 (by decide)]
      have hcn := cin_lt t k
      refine pk_le (a 0) k (fun c2 => ?_) (fun c2 => ?_)
      · refine pk_le (cin t k) 0 (fun c3 => ?_) (fun c3 => ?_)
        · rw [nI_1]
          exact ih (k + 1) (by omega) (by rw [isB_1, hall, decide_eq_true (by rw [if_neg (by omega)]; exact c3)]; rfl)
        · exact hbad k c (by rw [if_neg (by omega)]; omega)
      · rw [show (32 : Int32) + nI k = nI (32 + k) from nI_add 32 k]
        refine ⟨pk_in (32 + k) 50 (by omega), ?_⟩
        have hl := a_lt ha (32 + k)
        rw [nI_clamp (by omega), hW _ (by omega)]
        refine pk_le (cin t k) (a (32 + k)) (fun c3 => ?_) (fun c3 => ?_)
        · rw [nI_1]
          exact ih (k + 1) (by omega) (by rw [isB_1, hall, decide_eq_true (by rw [if_pos c2]; exact c3)]; rfl)
        · exact hbad k c (by rw [if_pos c2]; omega)
  exact ⟨_, key 6 0 (by omega) rfl⟩
