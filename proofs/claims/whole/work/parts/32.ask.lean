/-! the reference's answers about the text -/
def mSt (σ : Sg) (a tx : Nat → Nat) (n : Nat) : Prop := ctxM σ a tx n ∧ (¬ σ.1 117 10 = 0 → tabM σ a tx n)
def frM (σ σ' : Sg) : Prop := frR 117 130 σ σ' ∧ (∀ j, j ≠ 10 → σ'.1 117 j = σ.1 117 j) ∧ ∀ k, 117 < k → k < 122 → σ'.1 k = σ.1 k
theorem frM.tr {σ σ1 σ2 : Sg} (h1 : frM σ σ1) (h2 : frM σ1 σ2) : frM σ σ2 := ⟨h1.1.tr h2.1, fun j hj => (h2.2.1 j hj).trans (h1.2.1 j hj), fun k a b => (h2.2.2 k a b).trans (h1.2.2 k a b)⟩
theorem frM.of {σ σ' : Sg} {lo hi : Nat} (h : frR lo hi σ σ') (h1 : 122 ≤ lo) (h2 : hi ≤ 130) : frM σ σ' := ⟨h.wk (by omega) h2, fun j _ => by rw [(h 117 (by omega)).1], fun k _ _ => (h k (by omega)).1⟩
theorem frM.i {σ σ1 : Sg} (h : frM σ σ1) {k : Nat} (j : Nat) (v : Int32) (hk : 122 ≤ k ∧ k ≤ 130) : frM σ (setI σ1 k j v) := h.tr (frM.of (lo := k) (hi := k) (frR.rf.i _ _ ⟨Nat.le_refl _, Nat.le_refl _⟩) hk.1 hk.2)
theorem mSt.fr {σ σ' : Sg} {a tx : Nat → Nat} {n lo hi : Nat} (h : mSt σ a tx n) (hf : frR lo hi σ σ') (h1 : 125 ≤ lo) : mSt σ' a tx n := by
  refine ⟨h.1.fr hf (by omega), fun z => ?_⟩
  have t := h.2 (by rw [← (hf 117 (by omega)).1]; exact z)
  exact ⟨t.1.row (hf 123 (by omega)).1, fun q t' a b => by rw [(hf 124 (by omega)).1]; exact t.2 q t' a b⟩
theorem m_lay {σ : Sg} {a tx : Nat → Nat} {n : Nat} (hs : mSt σ a tx n) {post : Sg → Prop} (h : ∀ σ', frM σ σ' → mSt σ' a tx n → tabM σ' a tx n → post σ') : wpX7_layWays σ post :=
  m_layWays hs.1 hs.2 (fun σ' f c e1 e2 _ t => h σ' ⟨f.wk (by omega) (by omega), e1, e2⟩ ⟨c, fun _ => t⟩ t)
theorem wT_0 {a tx : Nat → Nat} {n : Nat} (ha : wfA a) : wT a tx n 0 = wy a tx n 0 0 := by unfold wT; rw [eT_zero ha, if_neg (by decide), Nat.sub_self]
theorem wT_of {a tx : Nat → Nat} {n t p : Nat} (ha : wfA a) (h : Rc a tx n t p) : wT a tx n t = wy a tx n t p := by unfold wT; rw [eT_of ha h, if_neg (by omega), Nat.add_sub_cancel]
theorem capN_0 {x : Nat} : capN x = 0 ↔ x = 0 := by unfold capN; split <;> omega
theorem in0_w : vp_in ((0 : Int32)) 249856 := pk_in 0 249856 (by decide)
theorem ways0 {σ : Sg} {a tx : Nat → Nat} {n : Nat} (ha : wfA a) (hT : tabM σ a tx n) : σ.1 124 0 = nI (capN (wT a tx n 0)) := by
  rw [wT_0 ha]; exact hT.2 0 0 trivial Rc.zero
theorem m_readings {σ : Sg} {a tx : Nat → Nat} {n : Nat} (hs : mSt σ a tx n) {post : Int32 → Sg → Prop} (h : ∀ σ', frM σ σ' → mSt σ' a tx n → post (nI (capN (wT a tx n 0))) σ') : wpX7_readings σ post := by
  unfold wpX7_readings
  refine m_lay hs (fun σ1 f1 s1 t1 => ⟨in0_w, ?_⟩)
  rw [z0, ways0 hs.1.1 t1]
  exact h σ1 f1 s1
def farA (a tx : Nat → Nat) (n u v M : Nat) : Prop := (∀ t p, Rc a tx n t p → (p < u ∨ (p = u ∧ t < v)) → fB a tx n t p ≤ M) ∧ (M = 0 ∨ ∃ t p, Rc a tx n t p ∧ fB a tx n t p = M)
theorem farA.le {a tx : Nat → Nat} {n u v M : Nat} (ha : wfA a) (h : farA a tx n u v M) : M ≤ n + 3 := by
  rcases h.2 with z | ⟨t, p, h1, h2⟩
  · omega
  · rw [← h2]; exact fB_le ha (h1.J ha).2.2.2.2.2.2.2.1
theorem m_fault {σ : Sg} {a tx : Nat → Nat} {n : Nat} (hs : mSt σ a tx n) {post : Int32 → Sg → Prop} (h1 : 0 < wT a tx n 0 → ∀ σ', frM σ σ' → mSt σ' a tx n → post (-9) σ') (h0 : wT a tx n 0 = 0 → ∀ M, farI a tx n M → M < 2 ^ 31 → ∀ σ', frM σ σ' → mSt σ' a tx n → post (nI M) σ') : wpX7_fault σ post := by
  unfold wpX7_fault
  have ha := hs.1.1
  have hn := hs.1.2.1.1
  refine m_lay hs (fun σ1 f1 s1 t1 => ⟨in0_w, ?_⟩)
  rw [z0, ways0 ha t1]
  have hcl := capN_le (wT a tx n 0)
  have l30 : ∀ (K : Int32 → Int32 → Sg → Prop) u, u ≤ n → (∀ M, farA a tx n (u + 1) 0 M → K (nI M) (nI (u + 1)) σ1) → ∀ r v M, v + r = 4096 → farA a tx n u v M → BX7_fault_30 K post (r + 1) (nI M) (nI u) (nI v) σ1 := by
    intro K u hu hK r
    induction r with
    | zero =>
      intro v M hv hM
      rw [BX7_fault_30]
      refine pk_le 4096 v (fun _ => ?_) (fun c => by omega)
      rw [nI_1]
      refine hK M ⟨fun t p hr hp => hM.1 t p hr ?_, hM.2⟩
      have := hr.lt ha
      have := pow4_le ha.1
      omega
    | succ r ih =>
      intro v M hv hM
      rw [BX7_fault_30]
      refine pk_le 4096 v (fun c => by omega) (fun c => ?_)
      rw [mI, nI_add]
      refine ⟨pk_in (4096 * u + v) 249856 (by omega), ?_⟩
      rw [nI_clamp (by omega), nI_1]
      have hMl := hM.le ha
      by_cases y : Rc a tx n v u
      · rw [(t1.1 u v (by omega) c).1 y]
        refine ⟨fun w => absurd w (by decide), fun _ => m_furthest s1.1 (by omega) hu ?_⟩
        have hfl := fB_le (tx := tx) (n := n) (t := v) (p := u) ha hu
        refine pk_le (fB a tx n v u) M (fun c2 => ?_) (fun c2 => ?_)
        · refine ih (v + 1) M (by omega) ⟨fun t p hr hp => ?_, hM.2⟩
          by_cases e : p = u ∧ t = v
          · rw [e.1, e.2]; exact c2
          · exact hM.1 t p hr (by omega)
        · refine ih (v + 1) _ (by omega) ⟨fun t p hr hp => ?_, Or.inr ⟨v, u, y, rfl⟩⟩
          by_cases e : p = u ∧ t = v
          · rw [e.1, e.2]; exact Nat.le_refl _
          · exact Nat.le_trans (hM.1 t p hr (by omega)) (by omega)
      · rw [(t1.1 u v (by omega) c).2 y]
        refine ⟨fun _ => ?_, fun w => absurd rfl w⟩
        refine ih (v + 1) M (by omega) ⟨fun t p hr hp => ?_, hM.2⟩
        by_cases e : p = u ∧ t = v
        · rw [e.1, e.2] at hr; exact absurd hr y
        · exact hM.1 t p hr (by omega)
  have l20 : wT a tx n 0 = 0 → ∀ r u M, u + r = n + 1 → farA a tx n u 0 M → BX7_fault_20 post (r + 1) (nI M) (nI u) σ1 := by
    intro hw r
    induction r with
    | zero =>
      intro u M hu hM
      rw [BX7_fault_20, s1.1.2.2.2.1]
      refine pk_lt n u (fun _ => ?_) (fun c => by omega)
      have := hM.le ha
      refine h0 hw M ⟨fun t p hr => hM.1 t p hr (Or.inl ?_), hM.2⟩ (by omega) σ1 f1 s1
      have := (hr.J ha).2.2.2.2.2.2.2.1
      omega
    | succ r ih =>
      intro u M hu hM
      rw [BX7_fault_20, s1.1.2.2.2.1]
      refine pk_lt n u (fun c => by omega) (fun c => ⟨_, l30 _ u (by omega) (fun M' hM' => ih (u + 1) M' (by omega) hM') 4096 0 M (by omega) hM⟩)
  refine pk_le (capN (wT a tx n 0)) 0 (fun c => ?_) (fun c => ?_)
  · have hw : wT a tx n 0 = 0 := capN_0.mp (by omega)
    exact ⟨_, l20 hw (n + 1) 0 0 (by omega) ⟨fun t p hr hp => by omega, Or.inl rfl⟩⟩
  · have hw : wT a tx n 0 ≠ 0 := fun w => by rw [w] at c; exact absurd c (by decide)
    exact h1 (by omega) σ1 f1 s1
theorem m_next {σ : Sg} {a tx : Nat → Nat} {n : Nat} (hs : mSt σ a tx n) {post : Int32 → Sg → Prop} (h1 : ∀ S, (∃ t, Rc a tx n t n) → goS a tx n S → ∀ σ', frM σ σ' → mSt σ' a tx n → post (nI S) σ') (h0 : (¬ ∃ t, Rc a tx n t n) → ∀ σ', frM σ σ' → mSt σ' a tx n → post (-9) σ') : wpX7_next σ post := by
  unfold wpX7_next
  have ha := hs.1.1
  have h6 := ha.1
  have h4 := pow4_le h6
  have hp6 := pow_le6 h6
  have hn := hs.1.2.1.1
  refine m_lay hs (fun σ1 f1 s1 t1 => ?_)
  have key : ∀ r t S (b : Bool), t + r = 4096 → S < 64 → (b = true ↔ ∃ s, s < t ∧ Rc a tx n s n) → (∀ m, S.testBit m = true ↔ (m < a 0 ∧ ∃ s, s < t ∧ Rc a tx n s n ∧ mayB a s m = true)) → BX7_next_10 post (r + 1) (nI S) (bI b) (nI t) σ1 := by
    intro r
    induction r with
    | zero =>
      intro t S b ht hS hb hbit
      rw [BX7_next_10]
      refine pk_le 4096 t (fun _ => ?_) (fun c => by omega)
      refine bI_0 b (fun e => h0 ?_ σ1 f1 s1) (fun e => h1 S ?_ ⟨hS, fun m => ?_⟩ σ1 f1 s1)
      · rintro ⟨s, hs⟩
        have := hb.mpr ⟨s, by have := hs.lt ha; omega, hs⟩
        rw [e] at this; cases this
      · obtain ⟨s, _, hs⟩ := hb.mp e
        exact ⟨s, hs⟩
      · rw [hbit m]
        constructor
        · rintro ⟨g1, s, _, g2, g3⟩; exact ⟨g1, s, g2, g3⟩
        · rintro ⟨g1, s, g2, g3⟩; exact ⟨g1, s, by have := g2.lt ha; omega, g2, g3⟩
    | succ r ih =>
      intro t S b ht hS hb hbit
      rw [BX7_next_10, s1.1.2.2.2.1]
      refine pk_le 4096 t (fun c => by omega) (fun c => ?_)
      rw [mI, nI_add]
      refine ⟨pk_in (4096 * n + t) 249856 (by omega), ?_⟩
      rw [nI_clamp (by omega), nI_1]
      by_cases y : Rc a tx n t n
      · rw [(t1.1 n t (by omega) c).1 y]
        refine ⟨fun w => absurd w (by decide), fun _ => m_mayFollow ha s1.1.2.2.1 (by omega) ?_⟩
        rw [c_or]
        have hf := sN_lt (mayB a t) (a 0)
        refine ih (t + 1) _ true (by omega) (Nat.or_lt_two_pow (n := 6) hS (by omega)) ⟨fun _ => ⟨t, by omega, y⟩, fun _ => rfl⟩ (fun m => ?_)
        rw [Nat.testBit_or, Bool.or_eq_true, hbit m, sN_bit, Bool.and_eq_true, decide_eq_true_eq]
        constructor
        · rintro (⟨g0, s, g1, g2⟩ | ⟨g0, g1⟩)
          · exact ⟨g0, s, by omega, g2⟩
          · exact ⟨g0, t, by omega, y, g1⟩
        · rintro ⟨g0, s, g1, g2, g3⟩
          rcases Nat.lt_or_ge s t with y | y
          · exact Or.inl ⟨g0, s, y, g2, g3⟩
          · rw [show s = t by omega] at g3; exact Or.inr ⟨g0, g3⟩
      · rw [(t1.1 n t (by omega) c).2 y]
        refine ⟨fun _ => ?_, fun w => absurd rfl w⟩
        refine ih (t + 1) S b (by omega) hS ?_ ?_
        · rw [hb]
          constructor
          · rintro ⟨s, g1, g2⟩; exact ⟨s, by omega, g2⟩
          · rintro ⟨s, g1, g2⟩
            rcases Nat.lt_or_ge s t with z | z
            · exact ⟨s, z, g2⟩
            · rw [show s = t by omega] at g2; exact absurd g2 y
        · intro m
          rw [hbit m]
          constructor
          · rintro ⟨g0, s, g1, g2⟩; exact ⟨g0, s, by omega, g2⟩
          · rintro ⟨g0, s, g1, g2⟩
            rcases Nat.lt_or_ge s t with z | z
            · exact ⟨g0, s, z, g2⟩
            · rw [show s = t by omega] at g2; exact absurd g2.1 y
  exact ⟨_, key 4096 0 0 false (by omega) (by decide) ⟨fun w => Bool.noConfusion w, fun ⟨s, g, _⟩ => absurd g (Nat.not_lt_zero s)⟩ (fun m => ⟨fun w => (by rw [Nat.zero_testBit] at w; exact Bool.noConfusion w), fun ⟨_, s, g, _⟩ => absurd g (Nat.not_lt_zero s)⟩)⟩
