/-! helpers; the history -/
theorem z0 : ((0 : Int32)).toNatClampNeg = 0 := by decide
theorem z1 : ((1 : Int32)).toNatClampNeg = 1 := by decide
theorem a_lt {a : Nat → Nat} (ha : wfA a) (k : Nat) : a k < 1000 := by have := ha.2.2.1 k; omega
theorem nar1 : vp_nar .boolean ((1 : Int32)) = 1 := by decide
theorem p4_pos (m : Nat) : 0 < 4 ^ m := Nat.pow_pos (by decide)
theorem nar_b (b : Bool) : narrow .boolean (.int (bI b)) = .int (bI b) := by cases b <;> rfl
def capN (x : Nat) : Nat := if 1000000 < x then 1000000 else x
theorem capN_le (x : Nat) : capN x ≤ 1000000 := by unfold capN; split <;> omega
theorem capN_0 {x : Nat} : capN x = 0 ↔ x = 0 := by unfold capN; split <;> omega
theorem repD.row {σ σ' : Sg} {d : Nat} {a : Nat → Nat} (h : repD σ d a) (e1 : σ'.1 d = σ.1 d) (e2 : σ'.2.2 (d + 1) = σ.2.2 (d + 1)) (e3 : ∀ m, m < a 0 → σ'.1 (σ.2.2 (d + 1) m) = σ.1 (σ.2.2 (d + 1) m)) : repD σ' d a := by
  obtain ⟨h1, h2, h3⟩ := h
  refine ⟨by rw [e1]; exact h1, by rw [e1]; exact h2, fun m hm => ?_⟩
  unfold repMb
  rw [e2, e3 m hm]
  exact h3 m hm
theorem tabC.row {σ σ' : Sg} {a tx : Nat → Nat} {n : Nat} (h : tabC σ a tx n) (e : ∀ k, 90 ≤ k → k ≤ 96 → σ'.1 k = σ.1 k ∧ σ'.2.1 k = σ.2.1 k) : tabC σ' a tx n := by
  obtain ⟨h1, h2, h3, h4, h5⟩ := h
  refine ⟨by rw [(e 91 (by omega) (by omega)).1]; exact h1, by rw [(e 92 (by omega) (by omega)).1]; exact h2, by rw [(e 93 (by omega) (by omega)).2]; exact h3, by rw [(e 90 (by omega) (by omega)).1]; exact h4, fun k hk => ?_⟩
  unfold rdRow
  rw [(e 94 (by omega) (by omega)).1, (e 95 (by omega) (by omega)).1, (e 96 (by omega) (by omega)).1]
  exact h5 k hk
theorem setR_3 (σ : Sg) (k j : Nat) (v : Nat) (k' j' : Nat) : (setR σ k j v).2.2 k' j' = if k' = k ∧ j' = j then v else σ.2.2 k' j' := rfl
theorem frR.r {lo hi : Nat} {σ σ1 : Sg} (h : frR lo hi σ σ1) {k : Nat} (j : Nat) (v : Nat) (hk : lo ≤ k ∧ k ≤ hi) : frR lo hi σ (setR σ1 k j v) := fun q hq => by
  obtain ⟨h1, h2, h3⟩ := h q hq
  refine ⟨h1, h2, ?_⟩
  rw [← h3]
  funext x; rw [setR_3, if_neg (fun w => by omega)]
theorem v_copyM {σ : Sg} {q p : Nat} (hne : p ≠ q) {post : Sg → Prop} (h : ∀ σ', σ'.2 = σ.2 → frR q q σ σ' → (∀ f, f < 6 → σ'.1 q f = σ.1 p f) → post σ') : wpX3_copyFrom q p σ post := by
  unfold wpX3_copyFrom
  intro σ1 e1 σ2 e2 σ3 e3 σ4 e4 σ5 e5 σ6 e6
  have r1 : σ1.1 p = σ.1 p := by rw [e1]; exact upd_row hne
  have r2 : σ2.1 p = σ.1 p := by rw [e2, upd_row hne]; exact r1
  have r3 : σ3.1 p = σ.1 p := by rw [e3, upd_row hne]; exact r2
  have r4 : σ4.1 p = σ.1 p := by rw [e4, upd_row hne]; exact r3
  have r5 : σ5.1 p = σ.1 p := by rw [e5, upd_row hne]; exact r4
  have hf : frR q q σ σ6 := by
    rw [e6, e5, e4, e3, e2, e1]
    exact (((((frR.rf.i _ _ ⟨Nat.le_refl _, Nat.le_refl _⟩).i _ _ ⟨Nat.le_refl _, Nat.le_refl _⟩).i _ _ ⟨Nat.le_refl _, Nat.le_refl _⟩).i _ _ ⟨Nat.le_refl _, Nat.le_refl _⟩).i _ _ ⟨Nat.le_refl _, Nat.le_refl _⟩).i _ _ ⟨Nat.le_refl _, Nat.le_refl _⟩
  refine h σ6 (by rw [e6, e5, e4, e3, e2, e1]; rfl) hf (fun f hf => ?_)
  rw [r1] at e2; rw [r2] at e3; rw [r3] at e4; rw [r4] at e5; rw [r5] at e6
  rw [e6, e5, e4, e3, e2, e1]
  simp only [setI_1]
  rcases (show f = 0 ∨ f = 1 ∨ f = 2 ∨ f = 3 ∨ f = 4 ∨ f = 5 by omega) with rfl | rfl | rfl | rfl | rfl | rfl <;> simp
/-- the members of a block are its own -/
def MR (σ : Sg) (d : Nat) : Prop := (∀ m, m < 6 → d + 3 ≤ σ.2.2 (d + 1) m ∧ σ.2.2 (d + 1) m ≤ d + 8) ∧ ∀ i j, i < 6 → j < 6 → σ.2.2 (d + 1) i = σ.2.2 (d + 1) j → i = j
theorem MR.row {σ σ' : Sg} {d : Nat} (h : MR σ d) (e : σ'.2.2 (d + 1) = σ.2.2 (d + 1)) : MR σ' d := by unfold MR; rw [e]; exact h
theorem repD.fr {σ σ' : Sg} {d : Nat} {a : Nat → Nat} (h : repD σ d a) (m : MR σ d) (ha : wfA a) (e : ∀ k, d ≤ k → k ≤ d + 8 → σ'.1 k = σ.1 k) (e2 : σ'.2.2 (d + 1) = σ.2.2 (d + 1)) : repD σ' d a :=
  h.row (e d (Nat.le_refl _) (by omega)) e2 (fun k hk => e _ (by have := m.1 k (by have := ha.1; omega); omega) (m.1 k (by have := ha.1; omega)).2)
theorem v_copyD {σ : Sg} {d e : Nat} {a : Nat → Nat} (hd : s_kd d = 1) (he : s_kd e = 1) (hde : d + 9 ≤ e ∨ e + 9 ≤ d) (md : MR σ d) (me : MR σ e) (ha : wfA a) (hR : repD σ e a) {post : Sg → Prop} (h : ∀ σ', frR d (d + 8) σ σ' → σ'.2 = σ.2 → repD σ' d a → post σ') : wpX1_copyFrom d e σ post := by
  have h6 := ha.1
  unfold wpX1_copyFrom
  intro σ1 e1 σ2 e2
  have r1 : σ1.1 e = σ.1 e := by rw [e1]; exact upd_row (by omega)
  have f2 : frR d (d + 8) σ σ2 := by rw [e2, e1]; exact (frR.rf.i _ _ ⟨by omega, by omega⟩).i _ _ ⟨by omega, by omega⟩
  have g2 : σ2.2 = σ.2 := by rw [e2, e1]; rfl
  have d2 : σ2.1 d 2 = nI (a 0) ∧ σ2.1 d 3 = nI (a 1) := by
    rw [e2, r1, e1]
    simp only [setI_1]
    refine ⟨?_, ?_⟩
    · simp; exact hR.1
    · simp; exact hR.2.1
  have key : ∀ r k σ3, k + r = 6 → frR d (d + 8) σ σ3 → σ3.2 = σ.2 → σ3.1 d = σ2.1 d → (∀ m, m < k → ∀ f, f < 6 → σ3.1 (σ.2.2 (d + 1) m) f = σ.1 (σ.2.2 (e + 1) m) f) → BX1_copyFrom_18 d e post (r + 1) (nI k) σ3 := by
    intro r
    induction r with
    | zero =>
      intro k σ3 hk f3 g3 q3 hm
      rw [BX1_copyFrom_18]
      refine pk_le 6 k (fun _ => ?_) (fun c => by omega)
      refine h σ3 f3 g3 ⟨by rw [q3]; exact d2.1, by rw [q3]; exact d2.2, fun m hm2 => ?_⟩
      have hb := hR.2.2 m hm2
      unfold repMb at hb ⊢
      rw [g3, hm m (by omega) 0 (by decide), hm m (by omega) 1 (by decide), hm m (by omega) 2 (by decide), hm m (by omega) 3 (by decide), hm m (by omega) 4 (by decide), hm m (by omega) 5 (by decide)]
      exact hb
    | succ r ih =>
      intro k σ3 hk f3 g3 q3 hm
      rw [BX1_copyFrom_18]
      refine pk_le 6 k (fun c => by omega) (fun c => ⟨pk_in k 6 c, fun q2 eq2 => v_at1 he c (fun _ => ?_)⟩)
      rw [nI_clamp (by omega), (fin1 hd).1, g3] at eq2
      rw [g3, eq2]
      have w1 := md.1 k c
      have w2 := me.1 k c
      refine v_copyM (by omega) (fun σ4 g4 f4 h4 => ?_)
      rw [nI_1]
      refine ih (k + 1) σ4 (by omega) (f3.tr (f4.wk (by omega) (by omega))) (g4.trans g3) ?_ (fun m hm1 f hf => ?_)
      · rw [(f4 d (by omega)).1]; exact q3
      · by_cases z : m = k
        · rw [z, h4 f hf, (f3 _ (by omega)).1]
        · have w3 := md.1 m (by omega)
          have w4 : σ.2.2 (d + 1) m ≠ σ.2.2 (d + 1) k := fun w => z (md.2 m k (by omega) c w)
          rw [(f4 _ (by omega)).1]
          exact hm m (by omega) f hf
  exact ⟨_, key 6 0 σ2 rfl f2 g2 rfl (fun m hm => absurd hm (Nat.not_lt_zero m))⟩
/-- the class's history -/
def RHc (σ : Sg) (hn : Nat) (pa : Nat → Nat → Nat) : Prop := hn ≤ 8 ∧ σ.1 14 1 = nI hn ∧ (∀ j, j < 8 → ∃ i, i < 8 ∧ σ.2.2 15 j = 16 + 9 * i) ∧ (∀ i j, i < 8 → j < 8 → σ.2.2 15 i = σ.2.2 15 j → i = j) ∧ (∀ i m, i < 8 → m < 6 → σ.2.2 (17 + 9 * i) m = 19 + 9 * i + m) ∧ ∀ j, j < hn → wfA (pa j) ∧ repD σ (σ.2.2 15 j) (pa j)
theorem mr_st {σ : Sg} {i : Nat} (hi : i < 8) (h : ∀ i m, i < 8 → m < 6 → σ.2.2 (17 + 9 * i) m = 19 + 9 * i + m) : MR σ (16 + 9 * i) := by
  have e : ∀ m, m < 6 → σ.2.2 (16 + 9 * i + 1) m = 19 + 9 * i + m := fun m hm => by rw [show 16 + 9 * i + 1 = 17 + 9 * i by omega]; exact h i m hi hm
  refine ⟨fun m hm => by rw [e m hm]; omega, fun x y hx hy w => ?_⟩
  rw [e x hx, e y hy] at w; omega
theorem kd_st {i : Nat} (hi : i < 8) : s_kd (16 + 9 * i) = 1 := (by decide +kernel : ∀ i, i < 8 → s_kd (16 + 9 * i) = 1) i hi
/-- one state more, the oldest dropped when there are eight -/
def hnN (hn : Nat) : Nat := if hn < 8 then hn + 1 else 8
def paN (hn : Nat) (pa : Nat → Nat → Nat) (a : Nat → Nat) (j : Nat) : Nat → Nat := if hn < 8 then (if j = hn then a else pa j) else (if j = 7 then a else pa (j + 1))
theorem v_dropOldest {σ : Sg} {pa : Nat → Nat → Nat} (h : RHc σ 8 pa) {post : Sg → Prop} (hp : ∀ σ', frR 14 15 σ σ' → RHc σ' 7 (fun j => pa (j + 1)) → post σ') : wpX2_dropOldest σ post := by
  obtain ⟨h1, h2, h3, h4, h5, h6⟩ := h
  unfold wpX2_dropOldest
  refine ⟨pk_in 0 8 (by decide), fun q eq => ?_⟩
  rw [z0] at eq
  have key : ∀ r k σ1, k + r = 7 → frR 15 15 σ σ1 → σ1.1 = σ.1 → (∀ j, j < k → σ1.2.2 15 j = σ.2.2 15 (j + 1)) → (∀ j, k < j → σ1.2.2 15 j = σ.2.2 15 j) → BX2_dropOldest_9 post (r + 1) q (nI (k + 1)) σ1 := by
    intro r
    induction r with
    | zero =>
      intro k σ1 hk f1 g1 hA hB
      rw [BX2_dropOldest_9]
      refine pk_le 8 (k + 1) (fun _ => ⟨by rw [show (8 : Int32) - (1 : Int32) = nI 7 by decide]; exact pk_in 7 8 (by decide), fun σ2 e2 σ3 e3 => ?_⟩) (fun c => by omega)
      rw [show ((8 : Int32) - (1 : Int32)).toNatClampNeg = 7 by decide] at e2
      rw [show (8 : Int32) - (1 : Int32) = nI 7 by decide] at e3
      have hrow : ∀ j, j < 8 → σ3.2.2 15 j = σ.2.2 15 (if j = 7 then 0 else j + 1) := by
        intro j hj
        rw [e3, setI_2, e2, setR_3]
        by_cases z : j = 7
        · rw [if_pos ⟨rfl, z⟩, if_pos z, eq]
        · rw [if_neg (fun w => z w.2), if_neg z]; exact hA j (by omega)
      have f3 : frR 14 15 σ σ3 := by
        rw [e3, e2]; exact ((f1.wk (by omega) (by omega)).r _ _ (by omega)).i _ _ (by omega)
      refine hp σ3 f3 ⟨by decide, by rw [e3, setI_1, if_pos ⟨rfl, rfl⟩], fun j hj => ?_, fun i j hi hj w => ?_, fun i m hi hm => ?_, fun j hj => ?_⟩
      · rw [hrow j hj]; exact h3 _ (by split <;> omega)
      · rw [hrow i hi, hrow j hj] at w
        have := h4 _ _ (by split <;> omega) (by split <;> omega) w
        split at this <;> split at this <;> omega
      · rw [(f3 (17 + 9 * i) (by omega)).2.2]; exact h5 i m hi hm
      · have hw := h6 (j + 1) (by omega)
        obtain ⟨i, hi, e⟩ := h3 (j + 1) (by omega)
        refine ⟨hw.1, ?_⟩
        rw [hrow j (by omega), if_neg (by omega)]
        rw [e] at hw ⊢
        exact hw.2.fr (mr_st hi h5) hw.1 (fun x _ _ => (f3 x (by omega)).1) (f3 _ (by omega)).2.2
    | succ r ih =>
      intro k σ1 hk f1 g1 hA hB
      rw [BX2_dropOldest_9]
      refine pk_le 8 (k + 1) (fun c => by omega) (fun c => ⟨pk_in (k + 1) 8 (by omega), fun q6 e6 => ?_⟩)
      rw [show nI (k + 1) - (1 : Int32) = nI k from pk_sub (b := 1) (by omega)]
      refine ⟨pk_in k 8 (by omega), fun σ2 e2 => ?_⟩
      rw [nI_clamp (by omega), hB (k + 1) (by omega)] at e6
      rw [nI_clamp (by omega), e6] at e2
      rw [nI_1]
      refine ih (k + 1) σ2 (by omega) (by rw [e2]; exact f1.r _ _ (by omega)) (by rw [e2]; exact g1) (fun j hj => ?_) (fun j hj => ?_)
      · rw [e2, setR_3]
        by_cases z : j = k
        · rw [if_pos ⟨rfl, z⟩, z]
        · rw [if_neg (fun w => z w.2)]; exact hA j (by omega)
      · rw [e2, setR_3, if_neg (fun w => by omega)]; exact hB j (by omega)
  exact ⟨_, key 7 0 σ rfl frR.rf rfl (fun j hj => absurd hj (Nat.not_lt_zero j)) (fun j _ => rfl)⟩
theorem v_record {σ : Sg} {a : Nat → Nat} {hn : Nat} {pa : Nat → Nat → Nat} (ha : wfA a) (hD : repD σ 5 a) (hM : MR σ 5) (h : RHc σ hn pa) {post : Sg → Prop} (hp : ∀ σ', frR 14 87 σ σ' → RHc σ' (hnN hn) (paN hn pa a) → post σ') : wpX2_record σ post := by
  have h16 : ∀ σ1 n0 (pb : Nat → Nat → Nat), n0 < 8 → frR 14 15 σ σ1 → RHc σ1 n0 pb → (∀ σ', frR 14 87 σ σ' → RHc σ' (n0 + 1) (fun j => if j = n0 then a else pb j) → post σ') → BX2_record_16 post σ1 := by
    intro σ1 n0 pb h0 f1 hc hp1
    obtain ⟨h1, h2, h3, h4, h5, h6⟩ := hc
    unfold BX2_record_16
    rw [h2]
    refine ⟨fun w => absurd w (nI_pos (by omega)), fun _ => pk_le 8 n0 (fun c => by omega) (fun c => ⟨pk_in n0 8 c, fun q3 e3 => ?_⟩)⟩
    rw [nI_clamp (by omega)] at e3
    obtain ⟨i, hi, ei⟩ := h3 n0 c
    rw [ei] at e3
    rw [e3]
    have hD1 : repD σ1 5 a := hD.fr hM ha (fun k _ _ => (f1 k (by omega)).1) (f1 6 (by omega)).2.2
    have hM1 : MR σ1 5 := hM.row (f1 6 (by omega)).2.2
    refine v_copyD (kd_st hi) k51 (by omega) (mr_st hi h5) hM1 ha hD1 (fun σ2 f2 g2 R2 σ3 e4 => ?_)
    have f3 : frR 14 87 σ σ3 := by
      rw [e4]
      exact ((f1.wk (by omega) (by omega)).tr (f2.wk (by omega) (by omega))).i _ _ (by omega)
    have e14 : σ2.1 14 1 = nI n0 := by rw [(f2 14 (by omega)).1]; exact h2
    have r3 : σ3.2 = σ1.2 := by rw [e4, setI_2]; exact g2
    have i3 : ∀ k, k ≠ 14 → σ3.1 k = σ2.1 k := fun k hk => by rw [e4]; exact upd_row hk
    refine hp1 σ3 f3 ⟨by omega, ?_, by rw [r3]; exact h3, by rw [r3]; exact h4, by rw [r3]; exact h5, fun j hj => ?_⟩
    · rw [e4, setI_1, if_pos ⟨rfl, rfl⟩, e14]; exact nI_1 n0
    · rw [r3]
      by_cases z : j = n0
      · simp only [z, if_pos]
        refine ⟨ha, ?_⟩
        rw [ei]
        exact R2.fr ((mr_st hi h5).row (by rw [g2])) ha (fun k _ _ => i3 k (by omega)) (by rw [r3, g2])
      · simp only [if_neg z]
        have hw := h6 j (by omega)
        obtain ⟨x, hx, ex⟩ := h3 j (by omega)
        have hne : x ≠ i := fun w => z (h4 j n0 (by omega) c (by rw [ex, ei, w]))
        refine ⟨hw.1, ?_⟩
        rw [ex] at hw ⊢
        exact hw.2.fr (mr_st hx h5) hw.1 (fun k _ _ => by rw [i3 k (by omega), (f2 k (by omega)).1]) (by rw [r3])
  have h1 := h.1
  unfold wpX2_record
  rw [h.2.1]
  unfold hnN paN at hp
  refine pk_lt hn 8 (fun c => ?_) (fun c => ?_)
  · refine h16 σ hn pa c frR.rf h (fun σ' f' h' => hp σ' f' ?_)
    rw [if_pos c]
    simp only [if_pos c]
    exact h'
  · have e8 : hn = 8 := by omega
    subst e8
    refine v_dropOldest h (fun σ1 f1 hc => h16 σ1 7 _ (by decide) f1 hc (fun σ' f' h' => hp σ' f' ?_))
    rw [if_neg (show ¬ 8 < 8 by decide)]
    simp only [if_neg (show ¬ 8 < 8 by decide)]
    exact h'
theorem v_beginChange {σ : Sg} {a : Nat → Nat} {hn : Nat} {pa : Nat → Nat → Nat} (ha : wfA a) (hD : repD σ 5 a) (hM : MR σ 5) (h : RHc σ hn pa) {post : Sg → Prop} (hp : ∀ σ', (∀ k, (k < 14 ∨ k = 88 ∨ k = 89 ∨ 98 < k) → σ'.1 k = σ.1 k ∧ σ'.2.2 k = σ.2.2 k) → RHc σ' (hnN hn) (paN hn pa a) → σ'.1 90 7 = 0 → σ'.1 97 1 = -2 → post σ') : wpX6_beginChange σ post := by
  unfold wpX6_beginChange wpX6_forgetTables wpX5_forget wpX4_forget
  refine v_record ha hD hM h (fun σ1 f1 h1 σ2 e2 σ3 e3 => ?_)
  have i3 : ∀ k, k ≠ 90 → k ≠ 97 → σ3.1 k = σ1.1 k := fun k k1 k2 => by rw [e3, upd_row k2, e2, upd_row k1]
  have r3 : σ3.2 = σ1.2 := by rw [e3, e2]; rfl
  refine hp σ3 (fun k hk => ⟨by rw [i3 k (by omega) (by omega), (f1 k (by omega)).1], by rw [r3, (f1 k (by omega)).2.2]⟩) ?_ ?_ ?_
  · obtain ⟨h1, h2, h3, h4, h5, h6⟩ := h1
    refine ⟨h1, by rw [i3 14 (by omega) (by omega)]; exact h2, by rw [r3]; exact h3, by rw [r3]; exact h4, by rw [r3]; exact h5, fun j hj => ?_⟩
    obtain ⟨i, hi, ei⟩ := h3 j (by omega)
    have hw := h6 j hj
    refine ⟨hw.1, ?_⟩
    rw [r3, ei]
    rw [ei] at hw
    exact hw.2.fr (mr_st hi h5) hw.1 (fun k _ _ => i3 k (by omega) (by omega)) (by rw [r3])
  · rw [e3, upd_row (by decide), e2, setI_1, if_pos ⟨rfl, rfl⟩]
  · rw [e3, setI_1, if_pos ⟨rfl, rfl⟩]
