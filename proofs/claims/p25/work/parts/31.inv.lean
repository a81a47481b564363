/-! what is true of a reader between calls: its numbers -/
theorem RHc.fr {σ σ' : Sg} {hn : Nat} {pa : Nat → Nat → Nat} (h : RHc σ hn pa) (e : ∀ k, 14 ≤ k → k ≤ 87 → σ'.1 k = σ.1 k ∧ σ'.2.2 k = σ.2.2 k) : RHc σ' hn pa := by
  obtain ⟨h1, h2, h3, h4, h5, h6⟩ := h
  have e15 := (e 15 (by omega) (by omega)).2
  refine ⟨h1, by rw [(e 14 (by omega) (by omega)).1]; exact h2, by rw [e15]; exact h3, by rw [e15]; exact h4, fun i m hi hm => by rw [(e (17 + 9 * i) (by omega) (by omega)).2]; exact h5 i m hi hm, fun j hj => ?_⟩
  obtain ⟨i, hi, ei⟩ := h3 j (by omega)
  have hw := h6 j hj
  refine ⟨hw.1, ?_⟩
  rw [e15, ei]
  rw [ei] at hw
  exact hw.2.fr (mr_st hi h5) hw.1 (fun k _ _ => (e k (by omega) (by omega)).1) (e _ (by omega) (by omega)).2
def RIc (σ : Sg) (ke : Nat → Bool) (im : Nat → Nat → Nat) : Prop := σ.2.2 88 0 = 99 ∧ σ.2.2 88 1 = 108 ∧ (∀ i m, i < 2 → m < 6 → σ.2.2 (100 + 9 * i) m = 102 + 9 * i + m) ∧ (∀ i, i < 2 → σ.1 89 i = bI (ke i)) ∧ ∀ i, i < 2 → ke i = true → wfA (im i) ∧ repD σ (99 + 9 * i) (im i)
theorem mr_im {σ : Sg} {ke : Nat → Bool} {im : Nat → Nat → Nat} (h : RIc σ ke im) {i : Nat} (hi : i < 2) : MR σ (99 + 9 * i) := by
  have e : ∀ m, m < 6 → σ.2.2 (99 + 9 * i + 1) m = 102 + 9 * i + m := fun m hm => by rw [show 99 + 9 * i + 1 = 100 + 9 * i by omega]; exact h.2.2.1 i m hi hm
  refine ⟨fun m hm => by rw [e m hm]; omega, fun x y hx hy w => ?_⟩
  rw [e x hx, e y hy] at w; omega
theorem RIc.fr {σ σ' : Sg} {ke : Nat → Bool} {im : Nat → Nat → Nat} (h : RIc σ ke im) (e : ∀ k, (k = 88 ∨ k = 89 ∨ (99 ≤ k ∧ k ≤ 116)) → σ'.1 k = σ.1 k ∧ σ'.2.2 k = σ.2.2 k) : RIc σ' ke im := by
  have hmr := fun i hi => mr_im (i := i) h hi
  obtain ⟨h1, h2, h3, h4, h6⟩ := h
  refine ⟨by rw [(e 88 (by omega)).2]; exact h1, by rw [(e 88 (by omega)).2]; exact h2, fun i m hi hm => by rw [(e (100 + 9 * i) (by omega)).2]; exact h3 i m hi hm, by rw [(e 89 (by omega)).1]; exact h4, fun i hi hk => ?_⟩
  obtain ⟨w1, w2⟩ := h6 i hi hk
  exact ⟨w1, w2.fr (hmr i hi) w1 (fun k _ _ => (e k (by omega)).1) (e _ (by omega)).2⟩
/-- a reader: its declarations a, its text tx of n bytes, its history pa of hn states, what its images keep -/
def Cx (σ : Sg) (a tx : Nat → Nat) (n hn : Nat) (pa : Nat → Nat → Nat) (ke : Nat → Bool) (im : Nat → Nat → Nat) : Prop := ctxN σ a tx n ∧ MR σ 5 ∧ (¬ σ.1 90 7 = 0 → tabC σ a tx n) ∧ (∀ L, L ≤ 19 → σ.1 97 1 = kl L → tabO σ a L) ∧ RHc σ hn pa ∧ RIc σ ke im
abbrev Pm : Type := ((Nat → Nat) × (Nat → Nat) × Nat) × (Nat × (Nat → Nat → Nat)) × ((Nat → Bool) × (Nat → Nat → Nat))
def Cs (σ : Sg) (P : Pm) : Prop := Cx σ P.1.1 P.1.2.1 P.1.2.2 P.2.1.1 P.2.1.2 P.2.2.1 P.2.2.2
/-- from every reader with the numbers P: the answer is r, the numbers are P' then -/
def Dt {α : Type} (w : Sg → (α → Sg → Prop) → Prop) (P : Pm) (r : α) (P' : Pm) : Prop := ∀ σ, Cs σ P → ∀ post : α → Sg → Prop, (∀ σ1, Cs σ1 P' → post r σ1) → w σ post
section
variable {σ : Sg} {a tx : Nat → Nat} {n hn : Nat} {pa : Nat → Nat → Nat} {ke : Nat → Bool} {im : Nat → Nat → Nat}
theorem Cx.keep (h : Cx σ a tx n hn pa ke im) {σ' : Sg} (e : ∀ k, k < 117 → k ≠ 3 → k ≠ 4 → (k < 90 ∨ 98 < k) → σ'.1 k = σ.1 k ∧ σ'.2.2 k = σ.2.2 k) : ctxN σ' a tx n ∧ MR σ' 5 ∧ RHc σ' hn pa ∧ RIc σ' ke im := by
  obtain ⟨⟨a1, a2, a3, a4, a5⟩, b, _, _, hH, hI⟩ := h
  have e6 : σ'.2.2 6 = σ.2.2 6 := (e 6 (by omega) (by omega) (by omega) (by omega)).2
  refine ⟨⟨a1, a2, a3.fr b a1 (fun k _ _ => (e k (by omega) (by omega) (by omega) (by omega)).1) e6, ⟨?_, fun j hj => ?_⟩, by rw [e6]; exact a5⟩, b.row e6, hH.fr (fun k _ _ => e k (by omega) (by omega) (by omega) (by omega)), hI.fr (fun k _ => e k (by omega) (by omega) (by omega) (by omega))⟩
  · rw [(e 1 (by omega) (by omega) (by omega) (by omega)).1]; exact a4.1
  · rw [(e 2 (by omega) (by omega) (by omega) (by omega)).1]; exact a4.2 j hj
theorem q_learn (h : Cx σ a tx n hn pa ke im) {post : Sg → Prop} (hp : ∀ σ1, Cx σ1 a tx n hn pa ke im → tabC σ1 a tx n → post σ1) : wpX5_learn σ post := by
  refine v_learn h.1 h.2.2.1 (fun σ1 f1 _ t1 => hp σ1 ?_ t1)
  obtain ⟨k1, k2, k3, k4⟩ := h.keep (σ' := σ1) (fun k _ _ _ _ => ⟨(f1 k (by omega)).1, (f1 k (by omega)).2.2⟩)
  refine ⟨k1, k2, fun _ => t1, fun L hL z => ?_, k3, k4⟩
  have := h.2.2.2.1 L hL (by rw [← (f1 97 (by omega)).1]; exact z)
  unfold tabO; rw [(f1 98 (by omega)).2.1]; exact this
theorem q_oLearn (h : Cx σ a tx n hn pa ke im) {L : Nat} (hL : L ≤ 19) {post : Sg → Prop} (hp : ∀ σ1, frR 97 98 σ σ1 → Cx σ1 a tx n hn pa ke im → tabO σ1 a L → post σ1) : wpX4_learn (kl L) σ post := by
  refine v_oLearn h.1.o hL (h.2.2.2.1 L hL) (fun σ1 f1 e1 t1 => hp σ1 f1 ?_ t1)
  obtain ⟨k1, k2, k3, k4⟩ := h.keep (σ' := σ1) (fun k _ _ _ _ => ⟨(f1 k (by omega)).1, (f1 k (by omega)).2.2⟩)
  refine ⟨k1, k2, fun z => ?_, fun M hM z => ?_, k3, k4⟩
  · exact (h.2.2.1 (by rw [← (f1 90 (by omega)).1]; exact z)).row (fun k _ _ => ⟨(f1 k (by omega)).1, (f1 k (by omega)).2.1⟩)
  · rw [e1] at z
    rw [← kl_inj (by omega) (by omega) z]; exact t1
theorem Cx.form {σ' : Sg} (h : Cx σ a tx n hn pa ke im) (f : frR 3 4 σ σ') : Cx σ' a tx n hn pa ke im := by
  obtain ⟨k1, k2, k3, k4⟩ := h.keep (σ' := σ') (fun k _ _ _ _ => ⟨(f k (by omega)).1, (f k (by omega)).2.2⟩)
  refine ⟨k1, k2, fun z => ?_, fun L hL z => ?_, k3, k4⟩
  · exact (h.2.2.1 (by rw [← (f 90 (by omega)).1]; exact z)).row (fun k _ _ => ⟨(f k (by omega)).1, (f k (by omega)).2.1⟩)
  · have := h.2.2.2.1 L hL (by rw [← (f 97 (by omega)).1]; exact z)
    unfold tabO; rw [(f 98 (by omega)).2.1]; exact this
/-- what the class's part of a change gives -/
def stC (σ σ2 : Sg) (hn' : Nat) (pa' : Nat → Nat → Nat) (a' : Nat → Nat) : Prop := (∀ k, (k < 5 ∨ k = 88 ∨ k = 89 ∨ 98 < k) → σ2.1 k = σ.1 k ∧ σ2.2.2 k = σ.2.2 k) ∧ RHc σ2 hn' pa' ∧ σ2.1 90 7 = 0 ∧ σ2.1 97 1 = -2 ∧ repD σ2 5 a' ∧ MR σ2 5 ∧ wfA a'
theorem kl_ne2 {L : Nat} (hL : L ≤ 19) : (-2 : Int32) ≠ kl L := (by decide +kernel : ∀ L, L < 20 → (-2 : Int32) ≠ kl L) L (by omega)
theorem Cx.fin (h : Cx σ a tx n hn pa ke im) {σ2 : Sg} {hn' : Nat} {pa' : Nat → Nat → Nat} {a' : Nat → Nat} (hc : stC σ σ2 hn' pa' a') : Cx σ2 a' tx n hn' pa' ke im := by
  obtain ⟨c1, c2, c3, c4, c5, c6, c7⟩ := hc
  obtain ⟨⟨a1, a2, a3, a4, a5⟩, _, _, _, _, hI⟩ := h
  refine ⟨⟨c7, a2, c5, ⟨?_, fun j hj => ?_⟩, c6.1⟩, c6, fun z => absurd c3 z, fun L hL z => ?_, c2, hI.fr (fun k hk => c1 k (by omega))⟩
  · rw [(c1 1 (by omega)).1]; exact a4.1
  · rw [(c1 2 (by omega)).1]; exact a4.2 j hj
  · rw [c4] at z; exact absurd z (kl_ne2 hL)
theorem Cx.text (h : Cx σ a tx n hn pa ke im) {σ' : Sg} {tx' : Nat → Nat} {n' : Nat} (e : ∀ k, k < 117 → k ≠ 1 → k ≠ 2 → k ≠ 90 → σ'.1 k = σ.1 k) (e2 : σ'.2 = σ.2) (e5 : σ'.1 90 7 = 0) (hT : wfT tx' n') (hR : repT σ' 1 tx' n') : Cx σ' a tx' n' hn pa ke im := by
  obtain ⟨⟨a1, a2, a3, a4, a5⟩, b, _, t, hH, hI⟩ := h
  refine ⟨⟨a1, hT, a3.fr b a1 (fun k _ _ => e k (by omega) (by omega) (by omega) (by omega)) (by rw [e2]), hR, by rw [e2]; exact a5⟩, b.row (by rw [e2]), fun z => absurd e5 z, fun L hL z => ?_, hH.fr (fun k _ _ => ⟨e k (by omega) (by omega) (by omega) (by omega), by rw [e2]⟩), hI.fr (fun k hk => ⟨e k (by omega) (by omega) (by omega) (by omega), by rw [e2]⟩)⟩
  have := t L hL (by rw [← e 97 (by omega) (by omega) (by omega) (by omega)]; exact z)
  unfold tabO; rw [e2]; exact this
/-- the beginning of a change -/
theorem q_begin (h : Cx σ a tx n hn pa ke im) {post : Sg → Prop} (hp : ∀ σ1, (∀ k, (k < 14 ∨ k = 88 ∨ k = 89 ∨ 98 < k) → σ1.1 k = σ.1 k ∧ σ1.2.2 k = σ.2.2 k) → stC σ σ1 (hnN hn) (paN hn pa a) a → post σ1) : wpX6_beginChange σ post := by
  have hmr := h.2.1
  have ha := h.1.1
  refine v_beginChange ha h.1.2.2.1 hmr h.2.2.2.2.1 (fun σ1 f1 h1 e1 e2 => hp σ1 f1 ⟨fun k hk => f1 k (by omega), h1, e1, e2, ?_, hmr.row (f1 6 (by omega)).2, ha⟩)
  exact h.1.2.2.1.fr hmr ha (fun k _ _ => (f1 k (by omega)).1) (f1 6 (by omega)).2
end
