/-! what is true of the two objects between calls -/
def RA (σ : Sg) (a tx : Nat → Nat) (n : Nat) : Prop := ctxN σ a tx n ∧ (∀ i j, i < 6 → j < 6 → σ.2.2 6 i = σ.2.2 6 j → i = j) ∧ ctxM σ a tx n
def RT (σ : Sg) (a tx : Nat → Nat) (n : Nat) : Prop := (¬ σ.1 90 7 = 0 → tabC σ a tx n) ∧ (∀ L, L ≤ 19 → σ.1 97 1 = kl L → tabO σ a L) ∧ (¬ σ.1 117 10 = 0 → tabM σ a tx n)
def RH (σ : Sg) (hn : Nat) (pa : Nat → Nat → Nat) : Prop := hn ≤ 8 ∧ σ.1 14 1 = nI hn ∧ σ.1 117 2 = nI hn ∧ (∀ j, j < 8 → ∃ i, i < 8 ∧ σ.2.2 15 j = 16 + 9 * i) ∧ (∀ i j, i < 8 → j < 8 → σ.2.2 15 i = σ.2.2 15 j → i = j) ∧ (∀ i m, i < 8 → m < 6 → σ.2.2 (17 + 9 * i) m = 19 + 9 * i + m) ∧ ∀ j, j < hn → wfA (pa j) ∧ repD σ (σ.2.2 15 j) (pa j) ∧ ∀ k, k < 50 → σ.1 119 (50 * j + k) = nI (pa j k)
def RI (σ : Sg) (ke : Nat → Bool) (im : Nat → Nat → Nat) : Prop := σ.2.2 88 0 = 99 ∧ σ.2.2 88 1 = 108 ∧ (∀ i m, i < 2 → m < 6 → σ.2.2 (100 + 9 * i) m = 102 + 9 * i + m) ∧ (∀ i, i < 2 → σ.1 89 i = bI (ke i)) ∧ σ.1 117 4 = nI (sN ke 2) ∧ ∀ i, i < 2 → ke i = true → wfA (im i) ∧ repD σ (99 + 9 * i) (im i) ∧ ∀ k, k < 50 → σ.1 120 (50 * i + k) = nI (im i k)
def Rs (σ : Sg) (a tx : Nat → Nat) (n hn : Nat) (pa : Nat → Nat → Nat) (ke : Nat → Bool) (im : Nat → Nat → Nat) : Prop := RA σ a tx n ∧ RT σ a tx n ∧ RH σ hn pa ∧ RI σ ke im
def R (σ : Sg) : Prop := ∃ a tx n hn pa ke im, Rs σ a tx n hn pa ke im
/-- rows that a question leaves as they are -/
def frQ (σ σ' : Sg) : Prop := (∀ k, k < 117 → k ≠ 3 → k ≠ 4 → (k < 90 ∨ 98 < k) → σ'.1 k = σ.1 k ∧ σ'.2.2 k = σ.2.2 k) ∧ (∀ k, 117 < k → k < 122 → σ'.1 k = σ.1 k) ∧ ∀ j, j ≠ 10 → σ'.1 117 j = σ.1 117 j
theorem repD.row {σ σ' : Sg} {d : Nat} {a : Nat → Nat} (h : repD σ d a) (e1 : σ'.1 d = σ.1 d) (e2 : σ'.2.2 (d + 1) = σ.2.2 (d + 1)) (e3 : ∀ m, m < a 0 → σ'.1 (σ.2.2 (d + 1) m) = σ.1 (σ.2.2 (d + 1) m)) : repD σ' d a := by
  obtain ⟨h1, h2, h3⟩ := h
  refine ⟨by rw [e1]; exact h1, by rw [e1]; exact h2, fun m hm => ?_⟩
  unfold repMb
  rw [e2, e3 m hm]
  exact h3 m hm
theorem RA.fr {σ σ' : Sg} {a tx : Nat → Nat} {n : Nat} (h : RA σ a tx n) (f : frQ σ σ') : RA σ' a tx n := by
  obtain ⟨⟨a1, a2, a3, a4, a5⟩, b, c1, c2, c3, c4, c5⟩ := h
  have h6 := a1.1
  have e6 : σ'.2.2 6 = σ.2.2 6 := (f.1 6 (by omega) (by omega) (by omega) (by omega)).2
  refine ⟨⟨a1, a2, a3.row (f.1 5 (by omega) (by omega) (by omega) (by omega)).1 e6 (fun m hm => ?_), ⟨?_, fun j hj => ?_⟩, by rw [e6]; exact a5⟩, by rw [e6]; exact b, c1, c2, ?_, ?_, fun j hj => ?_⟩
  · have := a5 m (by omega)
    exact (f.1 (σ.2.2 6 m) (by omega) (by omega) (by omega) (by omega)).1
  · rw [(f.1 1 (by omega) (by omega) (by omega) (by omega)).1]; exact a4.1
  · rw [(f.1 2 (by omega) (by omega) (by omega) (by omega)).1]; exact a4.2 j hj
  · unfold repW; rw [f.2.1 118 (by omega) (by omega)]; exact c3
  · rw [f.2.2 6 (by omega)]; exact c4
  · rw [f.2.1 121 (by omega) (by omega)]; exact c5 j hj
theorem RH.fr {σ σ' : Sg} {hn : Nat} {pa : Nat → Nat → Nat} (h : RH σ hn pa) (f : frQ σ σ') : RH σ' hn pa := by
  obtain ⟨h1, h2, h3, h4, h5, h6, h7⟩ := h
  have e15 : σ'.2.2 15 = σ.2.2 15 := (f.1 15 (by omega) (by omega) (by omega) (by omega)).2
  refine ⟨h1, by rw [(f.1 14 (by omega) (by omega) (by omega) (by omega)).1]; exact h2, by rw [f.2.2 2 (by omega)]; exact h3, by rw [e15]; exact h4, by rw [e15]; exact h5, fun i m hi hm => ?_, fun j hj => ?_⟩
  · rw [(f.1 (17 + 9 * i) (by omega) (by omega) (by omega) (by omega)).2]; exact h6 i m hi hm
  · obtain ⟨w1, w2, w3⟩ := h7 j hj
    obtain ⟨i, hi, e⟩ := h4 j (by omega)
    refine ⟨w1, ?_, fun k hk => by rw [f.2.1 119 (by omega) (by omega)]; exact w3 k hk⟩
    rw [e15]
    rw [e] at w2 ⊢
    refine w2.row (f.1 _ (by omega) (by omega) (by omega) (by omega)).1 (f.1 _ (by omega) (by omega) (by omega) (by omega)).2 (fun m hm => ?_)
    have := w1.1
    have e3 := h6 i m hi (by omega)
    rw [show 17 + 9 * i = 16 + 9 * i + 1 by omega] at e3
    rw [e3]
    exact (f.1 _ (by omega) (by omega) (by omega) (by omega)).1
theorem RI.fr {σ σ' : Sg} {ke : Nat → Bool} {im : Nat → Nat → Nat} (h : RI σ ke im) (f : frQ σ σ') : RI σ' ke im := by
  obtain ⟨h1, h2, h3, h4, h5, h6⟩ := h
  have e88 : σ'.2.2 88 = σ.2.2 88 := (f.1 88 (by omega) (by omega) (by omega) (by omega)).2
  refine ⟨by rw [e88]; exact h1, by rw [e88]; exact h2, fun i m hi hm => ?_, by rw [(f.1 89 (by omega) (by omega) (by omega) (by omega)).1]; exact h4, by rw [f.2.2 4 (by omega)]; exact h5, fun i hi hk => ?_⟩
  · rw [(f.1 (100 + 9 * i) (by omega) (by omega) (by omega) (by omega)).2]; exact h3 i m hi hm
  · obtain ⟨w1, w2, w3⟩ := h6 i hi hk
    refine ⟨w1, w2.row (f.1 _ (by omega) (by omega) (by omega) (by omega)).1 (f.1 _ (by omega) (by omega) (by omega) (by omega)).2 (fun m hm => ?_), fun k hk => by rw [f.2.1 120 (by omega) (by omega)]; exact w3 k hk⟩
    have := w1.1
    have e3 := h3 i m hi (by omega)
    rw [show 100 + 9 * i = 99 + 9 * i + 1 by omega] at e3
    rw [e3]
    exact (f.1 _ (by omega) (by omega) (by omega) (by omega)).1
theorem frQ.of {σ σ' : Sg} {lo hi : Nat} (h : frR lo hi σ σ') (h1 : (lo = 3 ∧ hi = 4) ∨ (90 ≤ lo ∧ hi ≤ 98)) : frQ σ σ' := ⟨fun k _ _ _ _ => ⟨(h k (by omega)).1, (h k (by omega)).2.2⟩, fun k _ _ => (h k (by omega)).1, fun j _ => by rw [(h 117 (by omega)).1]⟩
theorem frQ.mod {σ σ' : Sg} (h : frM σ σ') : frQ σ σ' := ⟨fun k _ _ _ _ => ⟨(h.1 k (by omega)).1, (h.1 k (by omega)).2.2⟩, h.2.2, h.2.1⟩
theorem tabC.row {σ σ' : Sg} {a tx : Nat → Nat} {n : Nat} (h : tabC σ a tx n) (e : ∀ k, 90 ≤ k → k ≤ 96 → σ'.1 k = σ.1 k ∧ σ'.2.1 k = σ.2.1 k) : tabC σ' a tx n := by
  obtain ⟨h1, h2, h3, h4, h5⟩ := h
  refine ⟨by rw [(e 91 (by omega) (by omega)).1]; exact h1, by rw [(e 92 (by omega) (by omega)).1]; exact h2, by rw [(e 93 (by omega) (by omega)).2]; exact h3, by rw [(e 90 (by omega) (by omega)).1]; exact h4, fun k hk => ?_⟩
  unfold rdRow
  rw [(e 94 (by omega) (by omega)).1, (e 95 (by omega) (by omega)).1, (e 96 (by omega) (by omega)).1]
  exact h5 k hk
theorem tabM.row {σ σ' : Sg} {a tx : Nat → Nat} {n : Nat} (h : tabM σ a tx n) (e1 : σ'.1 123 = σ.1 123) (e2 : σ'.1 124 = σ.1 124) : tabM σ' a tx n := ⟨h.1.row e1, fun q t a b => by rw [e2]; exact h.2 q t a b⟩
section
variable {σ : Sg} {a tx : Nat → Nat} {n hn : Nat} {pa : Nat → Nat → Nat} {ke : Nat → Bool} {im : Nat → Nat → Nat}
theorem Rs.mst (h : Rs σ a tx n hn pa ke im) : mSt σ a tx n := ⟨h.1.2.2, h.2.1.2.2⟩
theorem Rs.mod {σ' : Sg} (h : Rs σ a tx n hn pa ke im) (f : frM σ σ') (s : mSt σ' a tx n) : Rs σ' a tx n hn pa ke im := by
  have q := frQ.mod f
  have hr : ∀ k, k < 117 → σ'.1 k = σ.1 k ∧ σ'.2.1 k = σ.2.1 k := fun k hk => ⟨(f.1 k (Or.inl hk)).1, (f.1 k (Or.inl hk)).2.1⟩
  refine ⟨h.1.fr q, ⟨fun z => ?_, fun L hL z => ?_, s.2⟩, h.2.2.1.fr q, h.2.2.2.fr q⟩
  · exact (h.2.1.1 (by rw [← (hr 90 (by omega)).1]; exact z)).row (fun k _ _ => hr k (by omega))
  · have := h.2.1.2.1 L hL (by rw [← (hr 97 (by omega)).1]; exact z)
    unfold tabO; rw [(hr 98 (by omega)).2]; exact this
theorem q_learn (h : Rs σ a tx n hn pa ke im) {post : Sg → Prop} (hp : ∀ σ1, frR 90 96 σ σ1 → Rs σ1 a tx n hn pa ke im → tabC σ1 a tx n → post σ1) : wpX5_learn σ post := by
  refine v_learn h.1.1 h.2.1.1 (fun σ1 f1 _ t1 => hp σ1 f1 ?_ t1)
  have q := frQ.of f1 (Or.inr ⟨by omega, by omega⟩)
  refine ⟨h.1.fr q, ⟨fun _ => t1, fun L hL z => ?_, fun z => ?_⟩, h.2.2.1.fr q, h.2.2.2.fr q⟩
  · have := h.2.1.2.1 L hL (by rw [← (f1 97 (by omega)).1]; exact z)
    unfold tabO; rw [(f1 98 (by omega)).2.1]; exact this
  · exact (h.2.1.2.2 (by rw [← (f1 117 (by omega)).1]; exact z)).row (f1 123 (by omega)).1 (f1 124 (by omega)).1
theorem q_oLearn (h : Rs σ a tx n hn pa ke im) {L : Nat} (hL : L ≤ 19) {post : Sg → Prop} (hp : ∀ σ1, frR 97 98 σ σ1 → Rs σ1 a tx n hn pa ke im → tabO σ1 a L → post σ1) : wpX4_learn (kl L) σ post := by
  refine v_oLearn h.1.1.o hL (h.2.1.2.1 L hL) (fun σ1 f1 e1 t1 => hp σ1 f1 ?_ t1)
  have q := frQ.of f1 (Or.inr ⟨by omega, by omega⟩)
  refine ⟨h.1.fr q, ⟨fun z => ?_, fun M hM z => ?_, fun z => ?_⟩, h.2.2.1.fr q, h.2.2.2.fr q⟩
  · exact (h.2.1.1 (by rw [← (f1 90 (by omega)).1]; exact z)).row (fun k _ _ => ⟨(f1 k (by omega)).1, (f1 k (by omega)).2.1⟩)
  · rw [e1] at z
    rw [← kl_inj (by omega) (by omega) z]; exact t1
  · exact (h.2.1.2.2 (by rw [← (f1 117 (by omega)).1]; exact z)).row (f1 123 (by omega)).1 (f1 124 (by omega)).1
theorem Rs.form {σ' : Sg} (h : Rs σ a tx n hn pa ke im) (f : frR 3 4 σ σ') : Rs σ' a tx n hn pa ke im := by
  have q := frQ.of f (Or.inl ⟨rfl, rfl⟩)
  refine ⟨h.1.fr q, ⟨fun z => ?_, fun L hL z => ?_, fun z => ?_⟩, h.2.2.1.fr q, h.2.2.2.fr q⟩
  · exact (h.2.1.1 (by rw [← (f 90 (by omega)).1]; exact z)).row (fun k _ _ => ⟨(f k (by omega)).1, (f k (by omega)).2.1⟩)
  · have := h.2.1.2.1 L hL (by rw [← (f 97 (by omega)).1]; exact z)
    unfold tabO; rw [(f 98 (by omega)).2.1]; exact this
  · exact (h.2.1.2.2 (by rw [← (f 117 (by omega)).1]; exact z)).row (f 123 (by omega)).1 (f 124 (by omega)).1
theorem Rs.r (h : Rs σ a tx n hn pa ke im) : R σ := ⟨a, tx, n, hn, pa, ke, im, h⟩
end
