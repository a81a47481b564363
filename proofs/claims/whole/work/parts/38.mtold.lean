/-! what the reference tells of declarations -/
theorem nar_b (b : Bool) : narrow .boolean (.int (bI b)) = .int (bI b) := by cases b <;> rfl
theorem m_isMember {σ : Sg} {a : Nat → Nat} (ha : wfA a) (hW : repW σ a) (x : Int32) {post : Int32 → Sg → Prop} (h1 : ∀ m, m < a 0 → x = nI m → post 1 σ) (h0 : (∀ m, m < a 0 → x ≠ nI m) → post 0 σ) : wpX7_isMember x σ post := by
  have h6 := ha.1
  unfold wpX7_isMember wpX7_isIn
  rw [z0, hW 0 (by decide)]
  refine ⟨in0_50, fun c => ⟨nar_b false, h0 (fun m hm e => ?_)⟩, fun c => ?_⟩
  · subst e; exact absurd c (nI_pos (by omega))
  · obtain ⟨j, hj, rfl⟩ := nI_of c
    have hno : a 0 ≤ j → post 0 σ := fun q => h0 (fun m hm e => by
      have := (nI_eq hj (by omega)).mp e
      omega)
    rcases Nat.eq_zero_or_pos (a 0) with z | z
    · rw [z]
      refine ⟨fun _ => ⟨nar_b false, hno (by omega)⟩, fun w => absurd ?_ w⟩
      rw [Int32.lt_iff_toInt_lt, nI_toInt hj, show (nI 0 - 1 : Int32).toInt = -1 from by decide]
      omega
    · rw [show nI (a 0) - (1 : Int32) = nI (a 0 - 1) from pk_sub (b := 1) z]
      exact pk_lt (a 0 - 1) j (fun c => ⟨nar_b false, hno (by omega)⟩) (fun c => ⟨nar_b true, h1 j (by omega) rfl⟩)
def bgB (a : Nat → Nat) (m o : Nat) : Bool := decide (m ≠ o) && (decide (wl a m ≤ wl a o) && (List.range (wl a m)).all (fun k => decide (a (2 + 3 * m + k) = a (2 + 3 * o + k))))
theorem bg_1 (a : Nat → Nat) (m o k : Nat) : (List.range (k + 1)).all (fun k => decide (a (2 + 3 * m + k) = a (2 + 3 * o + k))) = ((List.range k).all (fun k => decide (a (2 + 3 * m + k) = a (2 + 3 * o + k))) && decide (a (2 + 3 * m + k) = a (2 + 3 * o + k))) := by
  rw [List.range_succ, List.all_append]; simp
theorem m_begins {σ : Sg} {a : Nat → Nat} (ha : wfA a) (hW : repW σ a) {m o : Nat} (hm : m < a 0) (ho : o < a 0) {post : Int32 → Sg → Prop} (h : post (bI (bgB a m o)) σ) : wpX7_begins (nI m) (nI o) σ post := by
  have h6 := ha.1
  have w1 := wl_le a m
  have w2 := wl_le a o
  have w3 := ha.wl1 hm
  have hbad : bgB a m o = false → ∃ nf, BX7_begins_27 (nI m) (nI o) post nf ((0 : Int32)) ((0 : Int32)) σ := by
    intro e
    rw [e] at h
    refine ⟨1, ?_⟩
    rw [BX7_begins_27]
    exact m_wordLength ha (by omega) hW (pk_le (wl a m) 0 (fun c => by omega) (fun c => ⟨fun _ => ⟨nar_b false, h⟩, fun w => absurd rfl w⟩))
  have key : m ≠ o → wl a m ≤ wl a o → ∀ r k (b : Bool), k + r = wl a m → b = (List.range k).all (fun k => decide (a (2 + 3 * m + k) = a (2 + 3 * o + k))) → BX7_begins_27 (nI m) (nI o) post (r + 1) (bI b) (nI k) σ := by
    intro hne hle r
    induction r with
    | zero =>
      intro k b hk hb
      rw [BX7_begins_27]
      refine m_wordLength ha (by omega) hW (pk_le (wl a m) k (fun _ => ⟨nar_b b, ?_⟩) (fun c => by omega))
      unfold bgB at h
      rw [decide_eq_true hne, decide_eq_true hle, Bool.true_and, Bool.true_and, ← show k = wl a m by omega, ← hb] at h
      exact h
    | succ r ih =>
      intro k b hk hb
      rw [BX7_begins_27]
      refine m_wordLength ha (by omega) hW (pk_le (wl a m) k (fun c => by omega) (fun c => bI_0 b (fun e => ?_) (fun e => ?_)))
      · have hf : bgB a m o = false := by
          rw [Bool.eq_false_iff]
          intro hE
          unfold bgB at hE
          rw [Bool.and_eq_true, Bool.and_eq_true, List.all_eq_true] at hE
          rw [e] at hb
          have := hb.symm
          rw [Bool.eq_false_iff] at this
          exact this (List.all_eq_true.mpr (fun x hx => hE.2.2 x (List.mem_range.mpr (by have := List.mem_range.mp hx; omega))))
        rw [hf] at h
        rw [e]
        exact ⟨nar_b false, h⟩
      · refine m_letter (by omega) (by omega) hW (m_letter (by omega) (by omega) hW ?_)
        have l1 := a_lt ha (2 + 3 * m + k)
        have l2 := a_lt ha (2 + 3 * o + k)
        rw [nI_1]
        refine ⟨fun w => ?_, fun w => ?_⟩
        · exact ih (k + 1) false (by omega) (by rw [bg_1, ← hb, e, decide_eq_false (fun z => w (by rw [z]))]; rfl)
        · exact ih (k + 1) true (by omega) (by rw [bg_1, ← hb, e, decide_eq_true ((nI_eq (by omega) (by omega)).mp w)]; rfl)
  unfold wpX7_begins
  refine ⟨fun w => hbad ?_, fun w => m_wordLength ha (by omega) hW (m_wordLength ha (by omega) hW (pk_lt (wl a o) (wl a m) (fun c => hbad ?_) (fun c => ?_)))⟩
  · have := (nI_eq (by omega) (by omega)).mp w
    unfold bgB; rw [decide_eq_false (fun z => z this), Bool.false_and]
  · unfold bgB; rw [decide_eq_false (show ¬ wl a m ≤ wl a o by omega), Bool.false_and, Bool.and_false]
  · exact ⟨_, key (fun z => w (by rw [z])) (by omega) (wl a m) 0 true (by omega) rfl⟩
theorem m_clashing {σ : Sg} {a : Nat → Nat} (ha : wfA a) (hW : repW σ a) {m : Nat} (hm : m < a 0) {post : Int32 → Sg → Prop} (h : post (nI (sN (fun o => bgB a m o || bgB a o m) (a 0))) σ) : wpX7_clashing (nI m) σ post := by
  have h6 := ha.1
  have key : ∀ r k, k + r = a 0 → BX7_clashing_4 (nI m) post (r + 1) (nI (sN (fun o => bgB a m o || bgB a o m) k)) (nI k) σ := by
    intro r
    induction r with
    | zero =>
      intro k hk
      rw [BX7_clashing_4, z0, hW 0 (by decide)]
      refine ⟨in0_50, pk_le (a 0) k (fun _ => ?_) (fun c => by omega)⟩
      rw [show k = a 0 by omega]; exact h
    | succ r ih =>
      intro k hk
      rw [BX7_clashing_4, z0, hW 0 (by decide)]
      refine ⟨in0_50, pk_le (a 0) k (fun c => by omega) (fun c => m_begins ha hW hm c ?_)⟩
      have h2 := ih (k + 1) (by omega)
      rw [sN_1] at h2
      refine bI_n _ (fun e => m_begins ha hW c hm (bI_0 _ (fun e2 => ?_) (fun e2 => ?_))) (fun e => ?_)
      · rw [if_neg (by rw [e, e2]; decide), Nat.add_zero] at h2
        rw [nI_1, show nI (sN (fun o => bgB a m o || bgB a o m) k) ||| (0 : Int32) = nI (sN (fun o => bgB a m o || bgB a o m) k) from by rw [show (0 : Int32) = nI 0 from rfl, c_or, Nat.or_zero]]
        exact h2
      · rw [if_pos (by rw [e2]; simp)] at h2
        rw [nI_1, sN_set (by omega)]
        exact h2
      · rw [if_pos (by rw [e]; rfl)] at h2
        rw [nI_1, sN_set (by omega)]
        exact h2
  exact ⟨_, key (a 0) 0 (by omega)⟩
theorem cl_bg {a : Nat → Nat} (ha : wfA a) {m o : Nat} (hm : m < a 0) (ho : o < a 0) : (decide (o ≠ m) && clB a m o) = (bgB a m o || bgB a o m) := by
  have w1 := wl_le a m
  have w2 := wl_le a o
  have v1 := ha.wl1 hm
  have v2 := ha.wl1 ho
  have b : ∀ q, q < a 0 → ∀ k, k < 3 → a (2 + 3 * q + k) < 256 := fun q hq k hk => by rw [← wd_let ha hq hk]; exact Nat.mod_lt _ (by decide)
  have hm0 := b m hm 0 (by decide); have hm1 := b m hm 1 (by decide); have hm2 := b m hm 2 (by decide)
  have ho0 := b o ho 0 (by decide); have ho1 := b o ho 1 (by decide); have ho2 := b o ho 2 (by decide)
  have eqs : ∀ q, 2 + 3 * q + 0 = 2 + 3 * q ∧ 2 + 3 * q + 1 = 3 + 3 * q ∧ 2 + 3 * q + 2 = 4 + 3 * q := fun q => by omega
  rw [(eqs m).1] at hm0; rw [(eqs m).2.1] at hm1; rw [(eqs m).2.2] at hm2
  rw [(eqs o).1] at ho0; rw [(eqs o).2.1] at ho1; rw [(eqs o).2.2] at ho2
  have hall : ∀ x y c, (List.range c).all (fun k => decide (a (2 + 3 * x + k) = a (2 + 3 * y + k))) = true ↔ ∀ k, k < c → a (2 + 3 * x + k) = a (2 + 3 * y + k) := by
    intro x y c
    rw [List.all_eq_true]
    exact ⟨fun h k hk => of_decide_eq_true (h k (List.mem_range.mpr hk)), fun h k hk => decide_eq_true (h k (List.mem_range.mp hk))⟩
  have hcl : ∀ c, 1 ≤ c → c ≤ 3 → (wdN a m % 2 ^ (8 * c) = wdN a o % 2 ^ (8 * c) ↔ ∀ k, k < c → a (2 + 3 * m + k) = a (2 + 3 * o + k)) := by
    intro c h1 h3
    unfold wdN
    rcases (show c = 1 ∨ c = 2 ∨ c = 3 by omega) with rfl | rfl | rfl
    · constructor
      · intro h k hk
        rw [show k = 0 by omega, (eqs m).1, (eqs o).1]; omega
      · intro h
        have h0 := h 0 (by decide)
        rw [(eqs m).1, (eqs o).1] at h0; omega
    · constructor
      · intro h k hk
        rcases (show k = 0 ∨ k = 1 by omega) with rfl | rfl
        · rw [(eqs m).1, (eqs o).1]; omega
        · rw [(eqs m).2.1, (eqs o).2.1]; omega
      · intro h
        have h0 := h 0 (by decide); have h1 := h 1 (by decide)
        rw [(eqs m).1, (eqs o).1] at h0; rw [(eqs m).2.1, (eqs o).2.1] at h1; omega
    · constructor
      · intro h k hk
        rcases (show k = 0 ∨ k = 1 ∨ k = 2 by omega) with rfl | rfl | rfl
        · rw [(eqs m).1, (eqs o).1]; omega
        · rw [(eqs m).2.1, (eqs o).2.1]; omega
        · rw [(eqs m).2.2, (eqs o).2.2]; omega
      · intro h
        have h0 := h 0 (by decide); have h1 := h 1 (by decide); have h2 := h 2 (by decide)
        rw [(eqs m).1, (eqs o).1] at h0; rw [(eqs m).2.1, (eqs o).2.1] at h1; rw [(eqs m).2.2, (eqs o).2.2] at h2; omega
  rw [Bool.eq_iff_iff]
  unfold clB bgB
  simp only [Bool.and_eq_true, Bool.or_eq_true, decide_eq_true_eq, hall]
  rw [hcl (mnL a m o) (by unfold mnL; split <;> omega) (by unfold mnL; split <;> omega)]
  constructor
  · rintro ⟨h1, h2⟩
    unfold mnL at h2
    by_cases c : wl a o < wl a m
    · rw [if_pos c] at h2
      exact Or.inr ⟨h1, by omega, fun k hk => (h2 k hk).symm⟩
    · rw [if_neg c] at h2
      exact Or.inl ⟨fun z => h1 z.symm, by omega, h2⟩
  · rintro (⟨h1, h2, h3⟩ | ⟨h1, h2, h3⟩)
    · refine ⟨fun z => h1 z.symm, fun k hk => h3 k ?_⟩
      unfold mnL at hk; split at hk <;> omega
    · refine ⟨h1, fun k hk => (h3 k ?_).symm⟩
      unfold mnL at hk; split at hk <;> omega
theorem cl_set {a : Nat → Nat} (ha : wfA a) {m : Nat} (hm : m < a 0) : sN (fun o => bgB a m o || bgB a o m) (a 0) = sN (fun o => decide (o ≠ m) && clB a m o) (a 0) := by
  unfold sN
  refine smN_congr (a 0) (fun o ho => ?_)
  have e := cl_bg ha hm ho
  by_cases z : (bgB a m o || bgB a o m) = true
  · rw [if_pos z, if_pos (e.trans z)]
  · rw [if_neg z, if_neg (fun w => z (e.symm.trans w))]
theorem m_size {n : Nat} (hn : n < 2 ^ 31) {σ : Sg} {post : Int32 → Sg → Prop} (h : post (nI (popN n)) σ) : wpX7_size (nI n) σ post := by
  have key : ∀ r k, k + r = 6 → BX7_size_4 (nI n) post (r + 1) (nI (smN (fun i => if n.testBit i then 1 else 0) k)) (nI k) σ := by
    intro r
    induction r with
    | zero =>
      intro k hk
      rw [BX7_size_4]
      refine pk_le 6 k (fun _ => ?_) (fun c => by omega)
      rw [show k = 6 by omega]; exact h
    | succ r ih =>
      intro k hk
      rw [BX7_size_4]
      refine pk_le 6 k (fun c => by omega) (fun c => ?_)
      rw [c_bit hn (by omega), nI_add, nI_1]
      exact ih (k + 1) (by omega)
  exact ⟨_, key 6 0 (by omega)⟩
theorem m_rules {σ : Sg} {a : Nat → Nat} (ha : wfA a) (hW : repW σ a) {post : Int32 → Sg → Prop} (h : post (nI (smN (fun m => popN (a (44 + m))) (a 0))) σ) : wpX7_rules σ post := by
  have h6 := ha.1
  have key : ∀ r k, k + r = a 0 → BX7_rules_4 post (r + 1) (nI (smN (fun m => popN (a (44 + m))) k)) (nI k) σ := by
    intro r
    induction r with
    | zero =>
      intro k hk
      rw [BX7_rules_4, z0, hW 0 (by decide)]
      refine ⟨in0_50, pk_le (a 0) k (fun _ => ?_) (fun c => by omega)⟩
      rw [show k = a 0 by omega]; exact h
    | succ r ih =>
      intro k hk
      rw [BX7_rules_4, z0, hW 0 (by decide)]
      refine ⟨in0_50, pk_le (a 0) k (fun c => by omega) (fun c => ?_)⟩
      have hl := a_lt ha (44 + k)
      rw [show (44 : Int32) + nI k = nI (44 + k) from nI_add 44 k]
      refine ⟨pk_in (44 + k) 50 (by omega), ?_⟩
      rw [nI_clamp (by omega), hW _ (by omega)]
      refine m_size (by omega) ?_
      rw [nI_add, nI_1]
      exact ih (k + 1) (by omega)
  exact ⟨_, key (a 0) 0 (by omega)⟩
theorem m_clashes {σ : Sg} {a : Nat → Nat} (ha : wfA a) (hW : repW σ a) {post : Int32 → Sg → Prop} (h : post (nI (smN (fun m => popN (sN (fun o => decide (o ≠ m) && clB a m o) (a 0))) (a 0) / 2)) σ) : wpX7_clashes σ post := by
  have h6 := ha.1
  have hp6 := pow_le6 h6
  have key : ∀ r k, k + r = a 0 → BX7_clashes_4 post (r + 1) (nI (smN (fun m => popN (sN (fun o => decide (o ≠ m) && clB a m o) (a 0))) k)) (nI k) σ := by
    intro r
    induction r with
    | zero =>
      intro k hk
      rw [BX7_clashes_4, z0, hW 0 (by decide)]
      refine ⟨in0_50, pk_le (a 0) k (fun _ => ?_) (fun c => by omega)⟩
      have hb := smN_le (f := fun m => popN (sN (fun o => decide (o ≠ m) && clB a m o) (a 0))) (B := 6) k (fun m _ => popN_le _)
      rw [show nI (smN (fun m => popN (sN (fun o => decide (o ≠ m) && clB a m o) (a 0))) k) / (2 : Int32) = nI (smN (fun m => popN (sN (fun o => decide (o ≠ m) && clB a m o) (a 0))) k / 2) from pk_div (d := 2) (by omega) (by decide) (by decide), show k = a 0 by omega]
      exact h
    | succ r ih =>
      intro k hk
      rw [BX7_clashes_4, z0, hW 0 (by decide)]
      refine ⟨in0_50, pk_le (a 0) k (fun c => by omega) (fun c => m_clashing ha hW c ?_)⟩
      have hl := sN_lt (fun o => decide (o ≠ k) && clB a k o) (a 0)
      rw [cl_set ha c]
      refine m_size (by omega) ?_
      rw [nI_add, nI_1]
      exact ih (k + 1) (by omega)
  exact ⟨_, key (a 0) 0 (by omega)⟩
theorem m_sumOf {σ : Sg} {a : Nat → Nat} (ha : wfA a) (hW : repW σ a) {p : Nat} (hp : p ≤ 44) {post : Int32 → Sg → Prop} (h : post (nI (smN (fun m => a (p + m)) (a 0))) σ) : wpX7_sumOf (nI p) σ post := by
  have h6 := ha.1
  have key : ∀ r k, k + r = a 0 → BX7_sumOf_4 (nI p) post (r + 1) (nI (smN (fun m => a (p + m)) k)) (nI k) σ := by
    intro r
    induction r with
    | zero =>
      intro k hk
      rw [BX7_sumOf_4, z0, hW 0 (by decide)]
      refine ⟨in0_50, pk_le (a 0) k (fun _ => ?_) (fun c => by omega)⟩
      rw [show k = a 0 by omega]; exact h
    | succ r ih =>
      intro k hk
      rw [BX7_sumOf_4, z0, hW 0 (by decide)]
      refine ⟨in0_50, pk_le (a 0) k (fun c => by omega) (fun c => ?_)⟩
      rw [nI_add]
      refine ⟨pk_in (p + k) 50 (by omega), ?_⟩
      rw [nI_clamp (by omega), hW _ (by omega), nI_add, nI_1]
      exact ih (k + 1) (by omega)
  exact ⟨_, key (a 0) 0 (by omega)⟩
