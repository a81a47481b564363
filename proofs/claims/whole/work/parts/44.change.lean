/-! changes -/
def frH (σ σ' : Sg) : Prop := σ'.2 = σ.2 ∧ (∀ k, k ≠ 117 → k ≠ 119 → σ'.1 k = σ.1 k) ∧ ∀ j, j ≠ 2 → j ≠ 10 → σ'.1 117 j = σ.1 117 j
theorem frH.rf {σ : Sg} : frH σ σ := ⟨rfl, fun _ _ _ => rfl, fun _ _ _ => rfl⟩
theorem frH.i9 {σ σ1 : Sg} (h : frH σ σ1) (j : Nat) (v : Int32) : frH σ (setI σ1 119 j v) := ⟨h.1, fun k h1 h2 => by rw [upd_row h2]; exact h.2.1 k h1 h2, fun j h1 h2 => by rw [upd_row (by decide)]; exact h.2.2 j h1 h2⟩
theorem frH.i7 {σ σ1 : Sg} (h : frH σ σ1) (j : Nat) (v : Int32) (hj : j = 2 ∨ j = 10) : frH σ (setI σ1 117 j v) := ⟨h.1, fun k h1 h2 => by rw [upd_row h1]; exact h.2.1 k h1 h2, fun i h1 h2 => by rw [setI_1, if_neg (fun w => by omega)]; exact h.2.2 i h1 h2⟩
theorem m_remember {σ : Sg} {a : Nat → Nat} {hn : Nat} {pa : Nat → Nat → Nat} (hW : repW σ a) (hH : RHm σ hn pa) (h8 : hn ≤ 8) {post : Sg → Prop} (hp : ∀ σ', frH σ σ' → RHm σ' (hnN hn) (paN hn pa a) → σ'.1 117 10 = 0 → post σ') : wpX7_remember σ post := by
  have h51 : ∀ σ1 n0 (pb : Nat → Nat → Nat), n0 < 8 → frH σ σ1 → RHm σ1 n0 pb → (∀ σ', frH σ σ' → RHm σ' (n0 + 1) (fun j => if j = n0 then a else pb j) → σ'.1 117 10 = 0 → post σ') → ∃ nf, BX7_remember_51 post nf ((0 : Int32)) σ1 := by
    intro σ1 n0 pb h0 f1 hc hp1
    have key : ∀ r k σ2, k + r = 50 → frH σ σ2 → σ2.1 117 2 = nI n0 → (∀ j, j < k → σ2.1 119 (50 * n0 + j) = nI (a j)) → (∀ j, j < 50 * n0 → σ2.1 119 j = σ1.1 119 j) → BX7_remember_51 post (r + 1) (nI k) σ2 := by
      intro r
      induction r with
      | zero =>
        intro k σ2 hk f2 e2 hA hB
        rw [BX7_remember_51]
        refine pk_le 50 k (fun _ => fun σ3 e3 σ4 e4 => ?_) (fun c => by omega)
        rw [e2] at e3
        refine hp1 σ4 (by rw [e4, e3]; exact (f2.i7 _ _ (Or.inl rfl)).i7 _ _ (Or.inr rfl)) ⟨?_, fun j hj x hx => ?_⟩ (by rw [e4, setI_1, if_pos ⟨rfl, rfl⟩])
        · rw [e4, setI_1, if_neg (by decide), e3, setI_1, if_pos ⟨rfl, rfl⟩]; exact nI_1 n0
        · rw [e4, upd_row (by decide), e3, upd_row (by decide)]
          by_cases z : j = n0
          · simp only [z, if_pos]
            exact hA x (by omega)
          · simp only [if_neg z]
            rw [hB _ (by omega)]
            exact hc.2 j (by omega) x hx
      | succ r ih =>
        intro k σ2 hk f2 e2 hA hB
        rw [BX7_remember_51]
        refine pk_le 50 k (fun c => by omega) (fun c => ⟨pk_in k 50 c, ?_⟩)
        rw [e2, show (50 : Int32) * nI n0 = nI (50 * n0) from pk_mul 50 n0, nI_add]
        refine ⟨pk_in (50 * n0 + k) 400 (by omega), fun σ3 e3 => ?_⟩
        rw [nI_clamp (by omega), nI_clamp (by omega), f2.2.1 118 (by decide) (by decide), hW k c] at e3
        rw [nI_1]
        refine ih (k + 1) σ3 (by omega) (by rw [e3]; exact f2.i9 _ _) (by rw [e3, upd_row (by decide)]; exact e2) (fun j hj => ?_) (fun j hj => ?_)
        · rw [e3, setI_1]
          by_cases z : j = k
          · rw [if_pos ⟨rfl, by rw [z]⟩, z]
          · rw [if_neg (fun w => by omega)]; exact hA j (by omega)
        · rw [e3, setI_1, if_neg (fun w => by omega)]; exact hB j hj
    exact ⟨_, key 50 0 σ1 rfl f1 hc.1 (fun j hj => absurd hj (Nat.not_lt_zero j)) (fun j _ => rfl)⟩
  unfold wpX7_remember
  rw [hH.1]
  unfold hnN paN at hp
  refine ⟨fun w => ?_, fun w => ?_⟩
  · have c : hn < 8 := by
      rcases Nat.lt_or_ge hn 8 with q | q
      · exact q
      · exact absurd (by rw [show hn = 8 by omega]; rfl) w
    refine h51 σ hn pa c frH.rf hH (fun σ' f' h' => hp σ' f' ?_)
    rw [if_pos c]
    simp only [if_pos c]
    exact h'
  · have c : hn = 8 := (nI_eq (b := 8) (by omega) (by decide)).mp w
    subst c
    have key : ∀ r k σ2, k + r = 350 → frH σ σ2 → σ2.1 117 2 = nI 8 → (∀ j, j < k → σ2.1 119 j = σ.1 119 (j + 50)) → (∀ j, k ≤ j → σ2.1 119 j = σ.1 119 j) → BX7_remember_11 (fun x1_ σ_ => ∃ nf, BX7_remember_51 post nf x1_ σ_) post (r + 1) (nI k) σ2 := by
      intro r
      induction r with
      | zero =>
        intro k σ2 hk f2 e2 hA hB
        rw [BX7_remember_11]
        refine pk_le 350 k (fun _ => fun σ3 e3 => ?_) (fun c => by omega)
        rw [e2, show nI 8 - (1 : Int32) = nI 7 by decide] at e3
        refine h51 σ3 7 (fun j => pa (j + 1)) (by decide) (by rw [e3]; exact f2.i7 _ _ (Or.inl rfl)) ⟨by rw [e3, setI_1, if_pos ⟨rfl, rfl⟩], fun j hj x hx => ?_⟩ (fun σ' f' h' => hp σ' f' ?_)
        · rw [e3, upd_row (by decide), hA _ (by omega)]
          have := hH.2 (j + 1) (by omega) x hx
          rw [show 50 * j + x + 50 = 50 * (j + 1) + x by omega]; exact this
        · rw [if_neg (show ¬ 8 < 8 by decide)]
          simp only [if_neg (show ¬ 8 < 8 by decide)]
          exact h'
      | succ r ih =>
        intro k σ2 hk f2 e2 hA hB
        rw [BX7_remember_11]
        refine pk_le 350 k (fun c => by omega) (fun c => ?_)
        rw [show nI k + (50 : Int32) = nI (k + 50) from nI_add k 50]
        refine ⟨pk_in (k + 50) 400 (by omega), pk_in k 400 (by omega), fun σ3 e3 => ?_⟩
        rw [nI_clamp (by omega), nI_clamp (by omega), hB (k + 50) (by omega)] at e3
        rw [nI_1]
        refine ih (k + 1) σ3 (by omega) (by rw [e3]; exact f2.i9 _ _) (by rw [e3, upd_row (by decide)]; exact e2) (fun j hj => ?_) (fun j hj => ?_)
        · rw [e3, setI_1]
          by_cases z : j = k
          · rw [if_pos ⟨rfl, z⟩, z]
          · rw [if_neg (fun w => z w.2)]; exact hA j (by omega)
        · rw [e3, setI_1, if_neg (fun w => by omega)]; exact hB j (by omega)
    exact ⟨_, key 350 0 σ rfl frH.rf hH.1 (fun j hj => absurd hj (Nat.not_lt_zero j)) (fun j _ => rfl)⟩
theorem RA.mr {σ : Sg} {a tx : Nat → Nat} {n : Nat} (h : RA σ a tx n) : MR σ 5 := ⟨h.1.2.2.2.2, h.2.1⟩
theorem RHc.fr {σ σ' : Sg} {hn : Nat} {pa : Nat → Nat → Nat} (h : RHc σ hn pa) (e : ∀ k, 14 ≤ k → k ≤ 87 → σ'.1 k = σ.1 k ∧ σ'.2.2 k = σ.2.2 k) : RHc σ' hn pa := by
  obtain ⟨h1, h2, h3, h4, h5, h6⟩ := h
  have e15 := (e 15 (by omega) (by omega)).2
  refine ⟨h1, by rw [(e 14 (by omega) (by omega)).1]; exact h2, by rw [e15]; exact h3, by rw [e15]; exact h4, fun i m hi hm => by rw [(e (17 + 9 * i) (by omega) (by omega)).2]; exact h5 i m hi hm, fun j hj => ?_⟩
  obtain ⟨i, hi, ei⟩ := h3 j (by omega)
  have hw := h6 j hj
  refine ⟨hw.1, ?_⟩
  rw [e15, ei]
  rw [ei] at hw
  exact hw.2.fr (mr_st hi h5) hw.1 (fun k _ _ => (e k (by omega) (by omega)).1) (e _ (by omega) (by omega)).2
theorem mr_im {σ : Sg} {ke : Nat → Bool} {im : Nat → Nat → Nat} (h : RI σ ke im) {i : Nat} (hi : i < 2) : MR σ (99 + 9 * i) := by
  have e : ∀ m, m < 6 → σ.2.2 (99 + 9 * i + 1) m = 102 + 9 * i + m := fun m hm => by rw [show 99 + 9 * i + 1 = 100 + 9 * i by omega]; exact h.2.2.1 i m hi hm
  refine ⟨fun m hm => by rw [e m hm]; omega, fun x y hx hy w => ?_⟩
  rw [e x hx, e y hy] at w; omega
theorem RI.fr2 {σ σ' : Sg} {ke : Nat → Bool} {im : Nat → Nat → Nat} (h : RI σ ke im) (e : ∀ k, (k = 88 ∨ k = 89 ∨ (99 ≤ k ∧ k ≤ 116)) → σ'.1 k = σ.1 k ∧ σ'.2.2 k = σ.2.2 k) (e1 : σ'.1 120 = σ.1 120) (e2 : σ'.1 117 4 = σ.1 117 4) : RI σ' ke im := by
  have hmr := fun i hi => mr_im (i := i) h hi
  obtain ⟨h1, h2, h3, h4, h5, h6⟩ := h
  refine ⟨by rw [(e 88 (by omega)).2]; exact h1, by rw [(e 88 (by omega)).2]; exact h2, fun i m hi hm => by rw [(e (100 + 9 * i) (by omega)).2]; exact h3 i m hi hm, by rw [(e 89 (by omega)).1]; exact h4, by rw [e2]; exact h5, fun i hi hk => ?_⟩
  obtain ⟨w1, w2, w3⟩ := h6 i hi hk
  exact ⟨w1, w2.fr (hmr i hi) w1 (fun k _ _ => (e k (by omega)).1) (e _ (by omega)).2, fun k hk => by rw [e1]; exact w3 k hk⟩
/-- what the class's part of a change gives -/
def stC (σ σ2 : Sg) (hn' : Nat) (pa' : Nat → Nat → Nat) (a' : Nat → Nat) : Prop := (∀ k, (k < 5 ∨ k = 88 ∨ k = 89 ∨ 98 < k) → σ2.1 k = σ.1 k ∧ σ2.2.2 k = σ.2.2 k) ∧ RHc σ2 hn' pa' ∧ σ2.1 90 7 = 0 ∧ σ2.1 97 1 = -2 ∧ repD σ2 5 a' ∧ MR σ2 5 ∧ wfA a'
def stM (σ2 σ4 : Sg) (hn' : Nat) (pa' : Nat → Nat → Nat) (a' : Nat → Nat) : Prop := (∀ k, k < 117 → σ4.1 k = σ2.1 k ∧ σ4.2.2 k = σ2.2.2 k) ∧ (∀ k, (k = 120 ∨ k = 121) → σ4.1 k = σ2.1 k) ∧ (∀ j, j ≠ 2 → j ≠ 10 → σ4.1 117 j = σ2.1 117 j) ∧ RHm σ4 hn' pa' ∧ σ4.1 117 10 = 0 ∧ repW σ4 a'
theorem kl_ne2 {L : Nat} (hL : L ≤ 19) : (-2 : Int32) ≠ kl L := (by decide +kernel : ∀ L, L < 20 → (-2 : Int32) ≠ kl L) L (by omega)
section
variable {σ : Sg} {a tx : Nat → Nat} {n hn : Nat} {pa : Nat → Nat → Nat} {ke : Nat → Bool} {im : Nat → Nat → Nat}
theorem Rs.fin (h : Rs σ a tx n hn pa ke im) {σ2 σ4 : Sg} {hn' : Nat} {pa' : Nat → Nat → Nat} {a' : Nat → Nat} (hc : stC σ σ2 hn' pa' a') (hm : stM σ2 σ4 hn' pa' a') : Rs σ4 a' tx n hn' pa' ke im := by
  obtain ⟨c1, c2, c3, c4, c5, c6, c7⟩ := hc
  obtain ⟨m1, m2, m3, m4, m5, m6⟩ := hm
  obtain ⟨⟨⟨a1, a2, a3, a4, a5⟩, b, d1, d2, d3, d4, d5⟩, _, _, hI⟩ := h
  have e : ∀ k, (k < 5 ∨ k = 88 ∨ k = 89 ∨ (98 < k ∧ k < 117)) → σ4.1 k = σ.1 k ∧ σ4.2.2 k = σ.2.2 k := fun k hk => ⟨by rw [(m1 k (by omega)).1, (c1 k (by omega)).1], by rw [(m1 k (by omega)).2, (c1 k (by omega)).2]⟩
  have hD4 : repD σ4 5 a' := c5.fr c6 c7 (fun k _ _ => (m1 k (by omega)).1) (m1 6 (by omega)).2
  have hM4 : MR σ4 5 := c6.row (m1 6 (by omega)).2
  refine ⟨⟨⟨c7, a2, hD4, ⟨?_, fun j hj => ?_⟩, hM4.1⟩, hM4.2, c7, a2, m6, ?_, fun j hj => ?_⟩, ⟨fun z => ?_, fun L hL z => ?_, fun z => absurd m5 z⟩, RH.mk (c2.fr (fun k _ _ => m1 k (by omega))) m4, ?_⟩
  · rw [(e 1 (by omega)).1]; exact a4.1
  · rw [(e 2 (by omega)).1]; exact a4.2 j hj
  · rw [m3 6 (by decide) (by decide), (c1 117 (by omega)).1]; exact d4
  · rw [m2 121 (by omega), (c1 121 (by omega)).1]; exact d5 j hj
  · rw [(m1 90 (by omega)).1] at z; exact absurd c3 z
  · rw [(m1 97 (by omega)).1, c4] at z; exact absurd z (kl_ne2 hL)
  · exact hI.fr2 (fun k hk => e k (by omega)) (by rw [m2 120 (by omega), (c1 120 (by omega)).1]) (by rw [m3 4 (by decide) (by decide), (c1 117 (by omega)).1])
theorem Rs.text (h : Rs σ a tx n hn pa ke im) {σ' : Sg} {tx' : Nat → Nat} {n' : Nat} (e : ∀ k, k < 117 → k ≠ 1 → k ≠ 2 → k ≠ 90 → σ'.1 k = σ.1 k) (e2 : σ'.2 = σ.2) (e3 : ∀ k, (k = 118 ∨ k = 119 ∨ k = 120) → σ'.1 k = σ.1 k) (e4 : ∀ j, j ≠ 6 → j ≠ 10 → σ'.1 117 j = σ.1 117 j) (e5 : σ'.1 90 7 = 0) (e6 : σ'.1 117 10 = 0) (hT : wfT tx' n') (hR : repT σ' 1 tx' n') (e7 : σ'.1 117 6 = nI n') (e8 : ∀ j, j < n' → σ'.1 121 j = nI (tx' j)) : Rs σ' a tx' n' hn pa ke im := by
  have hmr := h.1.mr
  obtain ⟨⟨⟨a1, a2, a3, a4, a5⟩, b, d1, d2, d3, d4, d5⟩, t, hH, hI⟩ := h
  refine ⟨⟨⟨a1, hT, a3.fr hmr a1 (fun k _ _ => e k (by omega) (by omega) (by omega) (by omega)) (by rw [e2]), hR, by rw [e2]; exact a5⟩, by rw [e2]; exact b, a1, hT, ?_, e7, e8⟩, ⟨fun z => absurd e5 z, fun L hL z => ?_, fun z => absurd e6 z⟩, RH.mk (hH.c.fr (fun k _ _ => ⟨e k (by omega) (by omega) (by omega) (by omega), by rw [e2]⟩)) ⟨?_, fun j hj k hk => ?_⟩, hI.fr2 (fun k hk => ⟨e k (by omega) (by omega) (by omega) (by omega), by rw [e2]⟩) (e3 120 (by omega)) (e4 4 (by decide) (by decide))⟩
  · unfold repW; rw [e3 118 (by omega)]; exact d3
  · have := t.2.1 L hL (by rw [← e 97 (by omega) (by omega) (by omega) (by omega)]; exact z)
    unfold tabO; rw [e2]; exact this
  · rw [e4 2 (by decide) (by decide)]; exact hH.m.1
  · rw [e3 119 (by omega)]; exact hH.m.2 j hj k hk
end
