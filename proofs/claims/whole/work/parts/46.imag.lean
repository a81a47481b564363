/-! undo, keep, back -/
def frW (σ σ' : Sg) : Prop := σ'.2 = σ.2 ∧ ∀ k, k ≠ 118 → σ'.1 k = σ.1 k
theorem frW.i {σ σ1 : Sg} (h : frW σ σ1) (j : Nat) (v : Int32) : frW σ (setI σ1 118 j v) := ⟨h.1, fun k hk => by rw [upd_row hk]; exact h.2 k hk⟩
theorem stM.row {σ2 σ3 σ4 : Sg} {hn' : Nat} {pa' : Nat → Nat → Nat} {a a' : Nat → Nat} (h : stM σ2 σ3 hn' pa' a) (f : frW σ3 σ4) (hW : repW σ4 a') : stM σ2 σ4 hn' pa' a' := by
  obtain ⟨m1, m2, m3, m4, m5, m6⟩ := h
  exact ⟨fun k hk => ⟨by rw [f.2 k (by omega)]; exact (m1 k hk).1, by rw [f.1]; exact (m1 k hk).2⟩, fun k hk => by rw [f.2 k (by omega)]; exact m2 k hk, fun j h1 h2 => by rw [f.2 117 (by decide)]; exact m3 j h1 h2, ⟨by rw [f.2 117 (by decide)]; exact m4.1, fun j hj k hk => by rw [f.2 119 (by decide)]; exact m4.2 j hj k hk⟩, by rw [f.2 117 (by decide)]; exact m5, hW⟩
theorem kd_im {i : Nat} (hi : i < 2) : s_kd (99 + 9 * i) = 1 := (by decide +kernel : ∀ i, i < 2 → s_kd (99 + 9 * i) = 1) i hi
theorem op_undo {σ : Sg} (h : R σ) {post : Int32 → Sg → Prop} (hp : ∀ r σ1, (∀ post2 : Int32 → Sg → Prop, (∀ σ2, R σ2 → post2 r σ2) → wpX7_undo σ1 post2) → post r σ1) : wpX6_undo σ post := by
  obtain ⟨a, tx, n, hn, pa, ke, im, h⟩ := h
  have hc := h.2.2.1.c
  have hm := h.2.2.1.m
  have h8 := hc.1
  have hmr := h.1.mr
  unfold wpX6_undo
  rw [hc.2.1]
  refine ⟨fun w => ?_, fun w => ?_⟩
  · have h0 : 0 < hn := Nat.pos_of_ne_zero (fun z => w (by rw [z]; rfl))
    unfold wpX2_restore
    rw [hc.2.1]
    refine ⟨fun w => absurd w (nI_nle h0 (by omega)), fun _ => pk_lt 8 hn (fun c => by omega) (fun _ σ1 e1 => ?_)⟩
    rw [show nI hn - (1 : Int32) = nI (hn - 1) from pk_sub (b := 1) h0] at e1
    have e14 : σ1.1 14 1 = nI (hn - 1) := by rw [e1, setI_1, if_pos ⟨rfl, rfl⟩]
    have r1 : σ1.2 = σ.2 := by rw [e1]; rfl
    have i1 : ∀ k, k ≠ 14 → σ1.1 k = σ.1 k := fun k hk => by rw [e1]; exact upd_row hk
    rw [e14]
    refine ⟨pk_in (hn - 1) 8 (by omega), fun q eq => ?_⟩
    obtain ⟨i, hi, ei⟩ := hc.2.2.1 (hn - 1) (by omega)
    rw [nI_clamp (by omega), r1, ei] at eq
    rw [eq]
    have hw := hc.2.2.2.2.2 (hn - 1) (by omega)
    rw [ei] at hw
    have hst := mr_st hi hc.2.2.2.2.1
    refine v_copyD k51 (kd_st hi) (by omega) (hmr.row (by rw [r1])) (hst.row (by rw [r1])) hw.1 (hw.2.fr hst hw.1 (fun k _ _ => i1 k (by omega)) (by rw [r1])) (fun σ2 f2 g2 R2 => ?_)
    unfold wpX6_forgetTables wpX5_forget wpX4_forget
    intro σ3 e3 σ4 e4
    have i4 : ∀ k, k ≠ 90 → k ≠ 97 → σ4.1 k = σ2.1 k := fun k k1 k2 => by rw [e4, upd_row k2, e3, upd_row k1]
    have r4 : σ4.2 = σ.2 := by rw [e4, e3]; exact g2.trans r1
    have hst4 : stC σ σ4 (hn - 1) pa (pa (hn - 1)) := by
      refine ⟨fun k hk => ⟨by rw [i4 k (by omega) (by omega), (f2 k (by omega)).1, i1 k (by omega)], by rw [r4]⟩, ⟨by omega, ?_, by rw [r4]; exact hc.2.2.1, by rw [r4]; exact hc.2.2.2.1, by rw [r4]; exact hc.2.2.2.2.1, fun j hj => ?_⟩, by rw [e4, upd_row (by decide), e3, setI_1, if_pos ⟨rfl, rfl⟩], by rw [e4, setI_1, if_pos ⟨rfl, rfl⟩], R2.fr (hmr.row (by rw [g2, r1])) hw.1 (fun k _ _ => i4 k (by omega) (by omega)) (by rw [r4, g2, r1]), hmr.row (by rw [r4]), hw.1⟩
      · rw [i4 14 (by decide) (by decide), (f2 14 (by omega)).1]; exact e14
      · obtain ⟨x, hx, ex⟩ := hc.2.2.1 j (by omega)
        have hwj := hc.2.2.2.2.2 j (by omega)
        refine ⟨hwj.1, ?_⟩
        rw [r4, ex]
        rw [ex] at hwj
        exact hwj.2.fr (mr_st hx hc.2.2.2.2.1) hwj.1 (fun k _ _ => by rw [i4 k (by omega) (by omega), (f2 k (by omega)).1, i1 k (by omega)]) (by rw [r4])
    show post (σ4.1 14 1) σ4
    rw [hst4.2.1.2.1]
    refine hp _ _ (fun post2 h2 => ?_)
    have up : ∀ k, 98 < k → σ4.1 k = σ.1 k := fun k hk => (hst4.1 k (by omega)).1
    unfold wpX7_undo
    rw [up 117 (by decide), hm.1]
    refine ⟨fun _ σ5 e5 => ?_, fun w2 => absurd w2 w⟩
    rw [show nI hn - (1 : Int32) = nI (hn - 1) from pk_sub (b := 1) h0] at e5
    have i5 : ∀ k, k ≠ 117 → σ5.1 k = σ4.1 k := fun k hk => by rw [e5]; exact upd_row hk
    have e52 : σ5.1 117 2 = nI (hn - 1) := by rw [e5, setI_1, if_pos ⟨rfl, rfl⟩]
    have key : ∀ r k σ6, k + r = 50 → frW σ5 σ6 → (∀ j, j < k → σ6.1 118 j = nI (pa (hn - 1) j)) → BX7_undo_22 post2 (r + 1) (nI k) σ6 := by
      intro r
      induction r with
      | zero =>
        intro k σ6 hk f6 hA
        rw [BX7_undo_22]
        refine pk_le 50 k (fun _ σ7 e7 => ?_) (fun c => by omega)
        have i7 : ∀ k, k ≠ 117 → σ7.1 k = σ6.1 k := fun k hk => by rw [e7]; exact upd_row hk
        have e72 : σ7.1 117 2 = nI (hn - 1) := by rw [e7, setI_1, if_neg (by decide), f6.2 117 (by decide)]; exact e52
        rw [e72]
        refine h2 σ7 (h.fin hst4 ⟨fun k hk => ⟨by rw [i7 k (by omega), f6.2 k (by omega), i5 k (by omega)], ?_⟩, fun k hk => by rw [i7 k (by omega), f6.2 k (by omega), i5 k (by omega)], fun j j1 j2 => ?_, ⟨e72, fun j hj k hk => ?_⟩, ?_, fun k hk => ?_⟩).r
        · have : σ7.2 = σ4.2 := by rw [e7]; show σ6.2 = _; rw [f6.1, e5]; rfl
          rw [this]
        · rw [e7, setI_1, if_neg (fun w => j2 w.2), f6.2 117 (by decide), e5, setI_1, if_neg (fun w => j1 w.2)]
        · rw [i7 119 (by decide), f6.2 119 (by decide), i5 119 (by decide), up 119 (by decide)]
          exact hm.2 j (by omega) k hk
        · rw [e7, setI_1, if_pos ⟨rfl, rfl⟩]
        · rw [i7 118 (by decide)]; exact hA k (by omega)
      | succ r ih =>
        intro k σ6 hk f6 hA
        rw [BX7_undo_22]
        refine pk_le 50 k (fun c => by omega) (fun c => ?_)
        rw [f6.2 117 (by decide), e52, show (50 : Int32) * nI (hn - 1) = nI (50 * (hn - 1)) from pk_mul 50 _, nI_add]
        refine ⟨pk_in (50 * (hn - 1) + k) 400 (by omega), pk_in k 50 c, fun σ7 e7 => ?_⟩
        rw [nI_clamp (by omega), nI_clamp (by omega), f6.2 119 (by decide), i5 119 (by decide), up 119 (by decide), hm.2 (hn - 1) (by omega) k c] at e7
        rw [nI_1]
        refine ih (k + 1) σ7 (by omega) (by rw [e7]; exact f6.i _ _) (fun j hj => ?_)
        rw [e7, setI_1]
        by_cases z : j = k
        · rw [if_pos ⟨rfl, z⟩, z]
        · rw [if_neg (fun w => z w.2)]; exact hA j (by omega)
    exact ⟨_, key 50 0 σ5 rfl ⟨rfl, fun _ _ => rfl⟩ (fun j hj => absurd hj (Nat.not_lt_zero j))⟩
  · refine hp _ _ (fun post2 h2 => ?_)
    unfold wpX7_undo
    rw [hm.1]
    exact ⟨fun w2 => absurd w w2, fun _ => h2 σ h.r⟩
theorem v_isImage {σ : Sg} (x : Int32) {post : Int32 → Sg → Prop} (h1 : ∀ i, i < 2 → x = nI i → post 1 σ) (h0 : (∀ i, i < 2 → x ≠ nI i) → post 0 σ) : wpX6_isImage x σ post := by
  unfold wpX6_isImage
  refine ⟨fun c => h0 (fun m hm e => ?_), fun c => ?_⟩
  · subst e; exact absurd c (nI_pos (by omega))
  · obtain ⟨j, hj, rfl⟩ := nI_of c
    have hno : 2 ≤ j → post 0 σ := fun q => h0 (fun m hm e => by
      have := (nI_eq hj (by omega)).mp e
      omega)
    exact pk_le 2 j hno (fun c => pk_le 2 j hno (fun c => h1 j c rfl))
theorem m_isIm {σ : Sg} (x : Int32) {post : Int32 → Sg → Prop} (h1 : ∀ i, i < 2 → x = nI i → post 1 σ) (h0 : (∀ i, i < 2 → x ≠ nI i) → post 0 σ) : wpX7_isIn x ((0 : Int32)) ((1 : Int32)) σ post := by
  unfold wpX7_isIn
  refine ⟨fun c => h0 (fun m hm e => ?_), fun c => ?_⟩
  · subst e; exact absurd c (nI_pos (by omega))
  · obtain ⟨j, hj, rfl⟩ := nI_of c
    have hno : 1 < j → post 0 σ := fun q => h0 (fun m hm e => by
      have := (nI_eq hj (by omega)).mp e
      omega)
    exact pk_lt 1 j hno (fun c => h1 j (by omega) rfl)
theorem ke_or (ke : Nat → Bool) {i : Nat} (hi : i < 2) : nI (sN ke 2) ||| ((1 : Int32) <<< (nI i &&& 31)) = nI (sN (fun j => if j = i then true else ke j) 2) := by
  rw [c_shl1 (by omega), c_or]
  congr 1
  apply Nat.eq_of_testBit_eq
  intro j
  rw [Nat.testBit_or, sN_bit, sN_bit, Nat.testBit_two_pow]
  by_cases z : j = i
  · subst z
    rw [decide_eq_true hi, decide_eq_true rfl, if_pos rfl]; simp
  · rw [decide_eq_false (show ¬ i = j from fun w => z w.symm), if_neg z, Bool.or_false]
theorem op_keep {σ : Sg} (h : R σ) (x : Int32) {post : Int32 → Sg → Prop} (hp : ∀ r σ1, (∀ post2 : Int32 → Sg → Prop, (∀ σ2, R σ2 → post2 r σ2) → wpX7_keep x σ1 post2) → post r σ1) : wpX6_keep x σ post := by
  obtain ⟨a, tx, n, hn, pa, ke, im, h⟩ := h
  have ha := h.1.1.1
  have hI := h.2.2.2
  have hmr := h.1.mr
  unfold wpX6_keep
  refine v_isImage x (fun i hi e => ?_) (fun hno => ⟨fun w => absurd rfl w, fun _ => hp _ _ (fun post2 h2 => ?_)⟩)
  · subst e
    refine ⟨fun _ => ⟨pk_in i 2 hi, fun q eq => ?_⟩, fun w => absurd w (by decide)⟩
    have e88 : σ.2.2 88 i = 99 + 9 * i := by
      rcases (show i = 0 ∨ i = 1 by omega) with rfl | rfl
      · exact hI.1
      · exact hI.2.1
    rw [nI_clamp (by omega), e88] at eq
    rw [eq]
    refine v_copyD (kd_im hi) k51 (by omega) (mr_im hI hi) hmr ha h.1.1.2.2.1 (fun σ1 f1 g1 R1 => ⟨pk_in i 2 hi, fun σ2 e2 => ?_⟩)
    rw [nI_clamp (by omega), nar1] at e2
    have i2 : ∀ k, k ≠ 89 → σ2.1 k = σ1.1 k := fun k hk => by rw [e2]; exact upd_row hk
    have r2 : σ2.2 = σ.2 := by rw [e2]; exact g1
    rw [i2 5 (by decide), (f1 5 (by omega)).1, h.1.1.2.2.1.1]
    refine hp _ _ (fun post2 h2 => ?_)
    have up : ∀ k, 116 < k → σ2.1 k = σ.1 k := fun k hk => by rw [i2 k (by omega), (f1 k (by omega)).1]
    unfold wpX7_keep
    refine m_isIm (nI i) (fun i' hi' e => ⟨fun _ => ?_, fun w => absurd w (by decide)⟩) (fun hno => absurd rfl (hno i hi))
    have key : ∀ r k σ3, k + r = 50 → σ3.2 = σ2.2 → (∀ j, j ≠ 120 → σ3.1 j = σ2.1 j) → (∀ j, j < k → σ3.1 120 (50 * i + j) = nI (a j)) → (∀ j, (j < 50 * i ∨ 50 * i + 50 ≤ j) → σ3.1 120 j = σ.1 120 j) → BX7_keep_13 (nI i) post2 (r + 1) (nI k) σ3 := by
      intro r
      induction r with
      | zero =>
        intro k σ3 hk r3 i3 hA hB
        rw [BX7_keep_13]
        refine pk_le 50 k (fun _ σ4 e4 => ⟨in0_50, ?_⟩) (fun c => by omega)
        rw [i3 117 (by decide), up 117 (by decide), hI.2.2.2.2.1, ke_or ke hi] at e4
        have i4 : ∀ k, k ≠ 117 → σ4.1 k = σ3.1 k := fun k hk => by rw [e4]; exact upd_row hk
        have r4 : σ4.2 = σ.2 := by rw [e4]; exact r3.trans r2
        have all : ∀ k, k < 99 ∨ 116 < k → k ≠ 89 → k ≠ 117 → k ≠ 120 → σ4.1 k = σ.1 k := fun k k1 k2 k3 k4 => by rw [i4 k k3, i3 k k4, i2 k k2, (f1 k (by omega)).1]
        have e7 : ∀ j, j ≠ 4 → σ4.1 117 j = σ.1 117 j := fun j hj => by rw [e4, setI_1, if_neg (fun w => hj w.2), i3 117 (by decide), up 117 (by decide)]
        rw [z0, i4 118 (by decide), i3 118 (by decide), up 118 (by decide), h.1.2.2.2.2.1 0 (by decide)]
        refine h2 σ4 (Rs.r (a := a) (tx := tx) (n := n) (hn := hn) (pa := pa) (ke := fun j => if j = i then true else ke j) (im := fun j => if j = i then a else im j) ?_)
        obtain ⟨⟨⟨a1, a2, a3, a4, a5⟩, b, d1, d2, d3, d4, d5⟩, t, hH, _⟩ := h
        refine ⟨⟨⟨a1, a2, a3.fr hmr a1 (fun k _ _ => all k (by omega) (by omega) (by omega) (by omega)) (by rw [r4]), ⟨?_, fun j hj => ?_⟩, by rw [r4]; exact a5⟩, by rw [r4]; exact b, a1, a2, ?_, ?_, fun j hj => ?_⟩, ⟨fun z => ?_, fun L hL z => ?_, fun z => ?_⟩, RH.mk (hH.c.fr (fun k _ _ => ⟨all k (by omega) (by omega) (by omega) (by omega), by rw [r4]⟩)) ⟨?_, fun j hj k hk => ?_⟩, ⟨by rw [r4]; exact hI.1, by rw [r4]; exact hI.2.1, by rw [r4]; exact hI.2.2.1, fun j hj => ?_, ?_, fun j hj hk => ?_⟩⟩
        · rw [all 1 (by omega) (by omega) (by omega) (by omega)]; exact a4.1
        · rw [all 2 (by omega) (by omega) (by omega) (by omega)]; exact a4.2 j hj
        · unfold repW; rw [all 118 (by omega) (by omega) (by omega) (by omega)]; exact d3
        · rw [e7 6 (by decide)]; exact d4
        · rw [all 121 (by omega) (by omega) (by omega) (by omega)]; exact d5 j hj
        · exact (t.1 (by rw [← all 90 (by omega) (by omega) (by omega) (by omega)]; exact z)).row (fun k _ _ => ⟨all k (by omega) (by omega) (by omega) (by omega), by rw [r4]⟩)
        · have := t.2.1 L hL (by rw [← all 97 (by omega) (by omega) (by omega) (by omega)]; exact z)
          unfold tabO; rw [r4]; exact this
        · exact (t.2.2 (by rw [← e7 10 (by decide)]; exact z)).row (all 123 (by omega) (by omega) (by omega) (by omega)) (all 124 (by omega) (by omega) (by omega) (by omega))
        · rw [e7 2 (by decide)]; exact hH.m.1
        · rw [all 119 (by omega) (by omega) (by omega) (by omega)]; exact hH.m.2 j hj k hk
        · rw [i4 89 (by decide), i3 89 (by decide), e2, setI_1]
          try dsimp only
          by_cases z : j = i
          · rw [if_pos ⟨rfl, z⟩, if_pos z]; rfl
          · rw [if_neg (fun w => z w.2), if_neg z, (f1 89 (by omega)).1]; exact hI.2.2.2.1 j hj
        · rw [e4, setI_1, if_pos ⟨rfl, rfl⟩]
        · by_cases z : j = i
          · simp only [z, if_pos]
            refine ⟨ha, ?_, fun y hy => ?_⟩
            · exact R1.fr ((mr_im hI hi).row (by rw [g1])) ha (fun k _ _ => by rw [i4 k (by omega), i3 k (by omega), i2 k (by omega)]) (by rw [r4, g1])
            · rw [i4 120 (by decide)]; exact hA y (by omega)
          · simp only [if_neg z] at hk ⊢
            obtain ⟨w1, w2, w3⟩ := hI.2.2.2.2.2 j hj hk
            refine ⟨w1, w2.fr (mr_im hI hj) w1 (fun k _ _ => by rw [i4 k (by omega), i3 k (by omega), i2 k (by omega), (f1 k (by omega)).1]) (by rw [r4]), fun y hy => ?_⟩
            rw [i4 120 (by decide), hB _ (by omega)]; exact w3 y hy
      | succ r ih =>
        intro k σ3 hk r3 i3 hA hB
        rw [BX7_keep_13]
        refine pk_le 50 k (fun c => by omega) (fun c => ⟨pk_in k 50 c, ?_⟩)
        rw [show (50 : Int32) * nI i = nI (50 * i) from pk_mul 50 i, nI_add]
        refine ⟨pk_in (50 * i + k) 100 (by omega), fun σ4 e4 => ?_⟩
        rw [nI_clamp (by omega), nI_clamp (by omega), i3 118 (by decide), up 118 (by decide), h.1.2.2.2.2.1 k c] at e4
        rw [nI_1]
        refine ih (k + 1) σ4 (by omega) (by rw [e4]; exact r3) (fun j hj => by rw [e4, upd_row hj]; exact i3 j hj) (fun j hj => ?_) (fun j hj => ?_)
        · rw [e4, setI_1]
          by_cases z : j = k
          · rw [if_pos ⟨rfl, by rw [z]⟩, z]
          · rw [if_neg (fun w => by omega)]; exact hA j (by omega)
        · rw [e4, setI_1, if_neg (fun w => by omega)]; exact hB j hj
    exact ⟨_, key 50 0 σ2 rfl rfl (fun _ _ => rfl) (fun j hj => absurd hj (Nat.not_lt_zero j)) (fun j _ => by rw [up 120 (by decide)])⟩
  · unfold wpX7_keep
    exact m_isIm x (fun i hi e => absurd e (hno i hi)) (fun _ => ⟨fun w => absurd rfl w, fun _ => h2 σ h.r⟩)
theorem op_back {σ : Sg} (h : R σ) (x : Int32) {post : Int32 → Sg → Prop} (hp : ∀ r σ1, (∀ post2 : Int32 → Sg → Prop, (∀ σ2, R σ2 → post2 r σ2) → wpX7_back x σ1 post2) → post r σ1) : wpX6_back x σ post := by
  obtain ⟨a, tx, n, hn, pa, ke, im, h⟩ := h
  have ha := h.1.1.1
  have hI := h.2.2.2
  have hmr := h.1.mr
  have hk64 := sN_lt ke 2
  have hke : ∀ i, i < 2 → (sN ke 2).testBit i = ke i := fun i hi => by rw [sN_bit, decide_eq_true hi, Bool.true_and]
  unfold wpX6_back
  refine v_isImage x (fun i hi e => ?_) (fun hno => ⟨fun w => absurd rfl w, fun _ => hp _ _ (fun post2 h2 => ?_)⟩)
  · subst e
    refine ⟨fun _ => ⟨pk_in i 2 hi, ?_⟩, fun w => absurd w (by decide)⟩
    rw [nI_clamp (by omega), hI.2.2.2.1 i hi]
    refine bI_n _ (fun e => hp _ _ (fun post2 h2 => ?_)) (fun e => q_begin h (fun σ1 f1 c1 => ⟨pk_in i 2 hi, fun q eq => ?_⟩))
    · unfold wpX7_back
      refine m_isIm (nI i) (fun i' hi' _ => ⟨fun _ => ?_, fun w => absurd w (by decide)⟩) (fun hno => absurd rfl (hno i hi))
      rw [hI.2.2.2.2.1]
      refine m_has (by omega) (by omega) ?_
      rw [hke i hi]
      refine bI_n _ (fun _ => h2 σ h.r) (fun e2 => by rw [e] at e2; cases e2)
    · have e88 : σ1.2.2 88 i = 99 + 9 * i := by
        rw [(f1 88 (by omega)).2]
        rcases (show i = 0 ∨ i = 1 by omega) with rfl | rfl
        · exact hI.1
        · exact hI.2.1
      rw [e88] at eq
      rw [eq]
      obtain ⟨c1, c2, c3, c4, c5, c6, c7⟩ := c1
      obtain ⟨w1, w2, w3⟩ := hI.2.2.2.2.2 i hi e
      have hmi := mr_im hI hi
      refine v_copyD k51 (kd_im hi) (by omega) c6 (hmi.row (f1 _ (by omega)).2) w1 (w2.fr hmi w1 (fun k _ _ => (f1 k (by omega)).1) (f1 _ (by omega)).2) (fun σ2 f2 g2 R2 => ?_)
      rw [R2.1]
      have hst : stC σ σ2 (hnN hn) (paN hn pa a) (im i) := ⟨fun k hk => ⟨by rw [(f2 k (by omega)).1]; exact (c1 k hk).1, by rw [g2]; exact (c1 k hk).2⟩, c2.fr (fun k _ _ => ⟨(f2 k (by omega)).1, by rw [g2]⟩), by rw [(f2 90 (by omega)).1]; exact c3, by rw [(f2 97 (by omega)).1]; exact c4, R2, c6.row (by rw [g2]), w1⟩
      refine hp _ _ (fun post2 h2 => ?_)
      have up : ∀ k, 98 < k → σ2.1 k = σ.1 k := fun k hk => (hst.1 k (by omega)).1
      unfold wpX7_back
      refine m_isIm (nI i) (fun i' hi' _ => ⟨fun _ => ?_, fun w => absurd w (by decide)⟩) (fun hno => absurd rfl (hno i hi))
      rw [up 117 (by decide), hI.2.2.2.2.1]
      refine m_has (by omega) (by omega) ?_
      rw [hke i hi]
      refine bI_n _ (fun e2 => by rw [e] at e2; cases e2) (fun _ => q_remember h up (fun σ3 hW m3 => ?_))
      have key : ∀ r k σ4, k + r = 50 → frW σ3 σ4 → (∀ j, j < k → σ4.1 118 j = nI (im i j)) → BX7_back_31 (nI i) post2 (r + 1) (nI k) σ4 := by
        intro r
        induction r with
        | zero =>
          intro k σ4 hk f4 hA
          rw [BX7_back_31]
          refine pk_le 50 k (fun _ => ⟨in0_50, ?_⟩) (fun c => by omega)
          rw [z0, hA 0 (by omega)]
          exact h2 σ4 (h.fin hst (m3.row f4 (fun k hk => hA k (by omega)))).r
        | succ r ih =>
          intro k σ4 hk f4 hA
          rw [BX7_back_31]
          refine pk_le 50 k (fun c => by omega) (fun c => ?_)
          rw [show (50 : Int32) * nI i = nI (50 * i) from pk_mul 50 i, nI_add]
          refine ⟨pk_in (50 * i + k) 100 (by omega), pk_in k 50 c, fun σ5 e5 => ?_⟩
          rw [nI_clamp (by omega), nI_clamp (by omega), f4.2 120 (by decide), m3.2.1 120 (by omega), up 120 (by decide), w3 k c] at e5
          rw [nI_1]
          refine ih (k + 1) σ5 (by omega) (by rw [e5]; exact f4.i _ _) (fun j hj => ?_)
          rw [e5, setI_1]
          by_cases z : j = k
          · rw [if_pos ⟨rfl, z⟩, z]
          · rw [if_neg (fun w => z w.2)]; exact hA j (by omega)
      exact ⟨_, key 50 0 σ3 rfl ⟨rfl, fun _ _ => rfl⟩ (fun j hj => absurd hj (Nat.not_lt_zero j))⟩
  · unfold wpX7_back
    exact m_isIm x (fun i hi e => absurd e (hno i hi)) (fun _ => ⟨fun w => absurd rfl w, fun _ => h2 σ h.r⟩)
