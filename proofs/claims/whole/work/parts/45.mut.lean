/-! write, wipe, separator, rule, undo, keep, back -/
theorem op_write {σ : Sg} (h : R σ) (x : Int32) {post : Int32 → Sg → Prop} (hp : ∀ r σ1, (∀ post2 : Int32 → Sg → Prop, (∀ σ2, R σ2 → post2 r σ2) → wpX7_write x σ1 post2) → post r σ1) : wpX6_write x σ post := by
  obtain ⟨a, tx, n, hn, pa, ke, im, h⟩ := h
  have hnn := h.1.1.2.1.1
  have hL := h.1.2.2.2.2.2.1
  have hT := h.1.1.2.2.2.1
  have hbad : (x < 32 ∨ 126 < x) → post (-1) σ := fun c => hp _ _ (fun post2 h2 => by
    unfold wpX7_write wpX7_isIn
    refine ⟨fun _ => ⟨fun w => absurd rfl w, fun _ => h2 σ h.r⟩, fun c1 => ⟨fun _ => ⟨fun w => absurd rfl w, fun _ => h2 σ h.r⟩, fun c2 => ?_⟩⟩
    rcases c with c | c
    · exact absurd c c1
    · exact absurd c c2)
  unfold wpX6_write
  refine ⟨fun c => hbad (Or.inl c), fun c => ⟨fun c2 => ?_, fun c2 => hbad (Or.inr (by rw [Int32.not_le] at c2; exact c2))⟩⟩
  have h0 : ¬ x < 0 := fun w => c (by
    rw [Int32.lt_iff_toInt_lt] at w ⊢
    have e1 : (32 : Int32).toInt = 32 := by decide
    have e0 : (0 : Int32).toInt = 0 := by decide
    omega)
  obtain ⟨v, hv, rfl⟩ := nI_of2 (M := 126) (n := 126) (by decide) h0 c2
  have hv2 : 32 ≤ v := by
    rcases Nat.lt_or_ge v 32 with q | q
    · exact absurd (nI_lt (a := v) (b := 32) q (by decide)) c
    · exact q
  have hge : ∀ σ1 (post2 : Int32 → Sg → Prop), ((((¬ (σ1.1 117 6) = (60 : Int32)) → (vp_in ((σ1.1 117 6)) 60 ∧ (∀ σ5 : Sg, σ5 = setI σ1 121 ((σ1.1 117 6)).toNatClampNeg (nI v) → (∀ σ7 : Sg, σ7 = setI σ5 117 6 (((σ5.1 117 6) + (1 : Int32))) → (∀ σ9 : Sg, σ9 = setI σ7 117 10 ((0 : Int32)) → post2 ((σ9.1 117 6)) σ9))))) ∧ (((σ1.1 117 6) = (60 : Int32)) → post2 ((-3 : Int32)) σ1))) → wpX7_write (nI v) σ1 post2 := by
    intro σ1 post2 hw
    unfold wpX7_write wpX7_isIn
    exact ⟨fun w => absurd w c, fun _ => ⟨fun w => absurd c2 (by rw [Int32.not_le]; exact w), fun _ => ⟨fun _ => hw, fun w => absurd w (by decide)⟩⟩⟩
  unfold wpX0_append
  rw [hT.1, f10]
  refine ⟨fun w => absurd w (nI_pos (by omega)), fun _ => pk_lt n 60 (fun cn => ⟨pk_in n 60 cn, fun σ1 e1 σ2 e2 => ⟨fun _ => ?_, fun w => absurd w (by decide)⟩⟩) (fun cn => ⟨fun w => absurd rfl w, fun _ => hp _ _ (fun post2 h2 => hge σ post2 ⟨fun w => absurd ?_ w, fun _ => h2 σ h.r⟩)⟩)⟩
  · unfold wpX5_forget
    intro σ3 e3
    rw [nI_clamp (by omega)] at e1
    have e12 : σ2.1 1 1 = nI (n + 1) := by rw [e2, setI_1, if_pos ⟨rfl, rfl⟩, e1, upd_row (by decide), hT.1]; exact nI_1 n
    have r3 : σ3.2 = σ.2 := by rw [e3, e2, e1]; rfl
    have i3 : ∀ k, k ≠ 1 → k ≠ 2 → k ≠ 90 → σ3.1 k = σ.1 k := fun k k1 k2 k3 => by rw [e3, upd_row k3, e2, upd_row k1, e1, upd_row k2]
    have e31 : σ3.1 1 1 = nI (n + 1) := by rw [e3, upd_row (by decide)]; exact e12
    rw [e31]
    refine hp _ _ (fun post2 h2 => hge σ3 post2 ?_)
    rw [i3 117 (by decide) (by decide) (by decide), hL]
    refine ⟨fun _ => ⟨pk_in n 60 cn, fun σ4 e4 σ5 e5 σ6 e6 => ?_⟩, fun w => absurd ((nI_eq (b := 60) (by omega) (by decide)).mp w) (by omega)⟩
    rw [nI_clamp (by omega)] at e4
    have e42 : σ4.1 117 6 = nI n := by rw [e4, upd_row (by decide), i3 117 (by decide) (by decide) (by decide)]; exact hL
    have e62 : σ6.1 117 6 = nI (n + 1) := by rw [e6, setI_1, if_neg (by decide), e5, setI_1, if_pos ⟨rfl, rfl⟩, e42]; exact nI_1 n
    have i6 : ∀ k, k ≠ 117 → k ≠ 121 → σ6.1 k = σ3.1 k := fun k k1 k2 => by rw [e6, upd_row k1, e5, upd_row k1, e4, upd_row k2]
    rw [e62]
    refine h2 σ6 (Rs.r (h.text (σ' := σ6) (tx' := fun j => if j = n then v else tx j) (n' := n + 1) (fun k k1 k2 k3 k4 => ?_) ?_ (fun k hk => ?_) (fun j j1 j2 => ?_) ?_ ?_ ⟨by omega, fun j => ?_⟩ ⟨?_, fun j hj => ?_⟩ e62 (fun j hj => ?_)))
    · rw [i6 k (by omega) (by omega), i3 k k2 k3 k4]
    · rw [e6, e5, e4]; exact r3
    · rw [i6 k (by omega) (by omega), i3 k (by omega) (by omega) (by omega)]
    · rw [e6, setI_1, if_neg (fun w => j2 w.2), e5, setI_1, if_neg (fun w => j1 w.2), e4, upd_row (by decide), i3 117 (by decide) (by decide) (by decide)]
    · rw [i6 90 (by decide) (by decide), e3, setI_1, if_pos ⟨rfl, rfl⟩]
    · rw [e6, setI_1, if_pos ⟨rfl, rfl⟩]
    · have := h.1.1.2.1.2 j
      try dsimp only
      split <;> omega
    · rw [i6 1 (by decide) (by decide)]; exact e31
    · rw [i6 2 (by decide) (by decide), e3, upd_row (by decide), e2, upd_row (by decide), e1, setI_1]
      try dsimp only
      by_cases z : j = n
      · rw [if_pos ⟨rfl, z⟩, if_pos z]
      · rw [if_neg (fun w => z w.2), if_neg z]; exact hT.2 j (by omega)
    · rw [e6, upd_row (by decide), e5, upd_row (by decide), e4, setI_1]
      try dsimp only
      by_cases z : j = n
      · rw [if_pos ⟨rfl, z⟩, if_pos z]
      · rw [if_neg (fun w => z w.2), if_neg z, i3 121 (by decide) (by decide) (by decide)]
        exact h.1.2.2.2.2.2.2 j (by omega)
  · rw [hL, show n = 60 by omega]; rfl
theorem op_wipe {σ : Sg} (h : R σ) {post : Int32 → Sg → Prop} (hp : ∀ r σ1, (∀ post2 : Int32 → Sg → Prop, (∀ σ2, R σ2 → post2 r σ2) → wpX7_wipe σ1 post2) → post r σ1) : wpX6_wipe σ post := by
  obtain ⟨a, tx, n, hn, pa, ke, im, h⟩ := h
  have hL := h.1.2.2.2.2.2.1
  have hT := h.1.1.2.2.2.1
  unfold wpX6_wipe wpX0_clear wpX5_forget
  intro σ1 e1 σ2 e2
  rw [hT.1]
  refine hp _ _ (fun post2 h2 => ?_)
  unfold wpX7_wipe
  intro σ3 e3 σ4 e4
  have i2 : ∀ k, k ≠ 1 → k ≠ 90 → σ2.1 k = σ.1 k := fun k k1 k2 => by rw [e2, upd_row k2, e1, upd_row k1]
  have i4 : ∀ k, k ≠ 117 → σ4.1 k = σ2.1 k := fun k k1 => by rw [e4, upd_row k1, e3, upd_row k1]
  rw [i2 117 (by decide) (by decide), hL]
  refine h2 σ4 (Rs.r (h.text (σ' := σ4) (tx' := tx) (n' := 0) (fun k k1 k2 k3 k4 => ?_) ?_ (fun k hk => ?_) (fun j j1 j2 => ?_) ?_ ?_ ⟨by omega, h.1.1.2.1.2⟩ ⟨?_, fun j hj => absurd hj (Nat.not_lt_zero j)⟩ ?_ (fun j hj => absurd hj (Nat.not_lt_zero j))))
  · rw [i4 k (by omega), i2 k k2 k4]
  · rw [e4, e3, e2, e1]; rfl
  · rw [i4 k (by omega), i2 k (by omega) (by omega)]
  · rw [e4, setI_1, if_neg (fun w => j2 w.2), e3, setI_1, if_neg (fun w => j1 w.2), i2 117 (by decide) (by decide)]
  · rw [i4 90 (by decide), e2, setI_1, if_pos ⟨rfl, rfl⟩]
  · rw [e4, setI_1, if_pos ⟨rfl, rfl⟩]
  · rw [i4 1 (by decide), e2, upd_row (by decide), e1, setI_1, if_pos ⟨rfl, rfl⟩]; rfl
  · rw [e4, setI_1, if_neg (by decide), e3, setI_1, if_pos ⟨rfl, rfl⟩]; rfl
/-- the beginning of a change, for the class -/
theorem q_begin {σ : Sg} {a tx : Nat → Nat} {n hn : Nat} {pa : Nat → Nat → Nat} {ke : Nat → Bool} {im : Nat → Nat → Nat} (h : Rs σ a tx n hn pa ke im) {post : Sg → Prop} (hp : ∀ σ1, (∀ k, (k < 14 ∨ k = 88 ∨ k = 89 ∨ 98 < k) → σ1.1 k = σ.1 k ∧ σ1.2.2 k = σ.2.2 k) → stC σ σ1 (hnN hn) (paN hn pa a) a → post σ1) : wpX6_beginChange σ post := by
  have hmr := h.1.mr
  have ha := h.1.1.1
  refine v_beginChange ha h.1.1.2.2.1 hmr h.2.2.1.c (fun σ1 f1 h1 e1 e2 => hp σ1 f1 ⟨fun k hk => f1 k (by omega), h1, e1, e2, ?_, hmr.row (f1 6 (by omega)).2, ha⟩)
  exact h.1.1.2.2.1.fr hmr ha (fun k _ _ => (f1 k (by omega)).1) (f1 6 (by omega)).2
theorem q_remember {σ σ2 : Sg} {a tx : Nat → Nat} {n hn : Nat} {pa : Nat → Nat → Nat} {ke : Nat → Bool} {im : Nat → Nat → Nat} (h : Rs σ a tx n hn pa ke im) (f : ∀ k, 98 < k → σ2.1 k = σ.1 k) {post : Sg → Prop} (hp : ∀ σ3, repW σ3 a → stM σ2 σ3 (hnN hn) (paN hn pa a) a → post σ3) : wpX7_remember σ2 post := by
  have hW : repW σ2 a := by unfold repW; rw [f 118 (by decide)]; exact h.1.2.2.2.2.1
  refine m_remember hW ⟨by rw [f 117 (by decide)]; exact h.2.2.1.m.1, fun j hj k hk => by rw [f 119 (by decide)]; exact h.2.2.1.m.2 j hj k hk⟩ h.2.2.1.1 (fun σ3 f3 h3 e3 => ?_)
  have hW3 : repW σ3 a := by unfold repW; rw [f3.2.1 118 (by decide) (by decide)]; exact hW
  exact hp σ3 hW3 ⟨fun k hk => ⟨f3.2.1 k (by omega) (by omega), by rw [f3.1]⟩, fun k hk => f3.2.1 k (by omega) (by omega), f3.2.2, h3, e3, hW3⟩
/-- one place of the reference's row is set -/
theorem stM.put {σ2 σ3 σ4 : Sg} {hn' : Nat} {pa' : Nat → Nat → Nat} {a : Nat → Nat} (h : stM σ2 σ3 hn' pa' a) {p v : Nat} (e : σ4 = setI σ3 118 p (nI v)) : stM σ2 σ4 hn' pa' (fun k => if k = p then v else a k) := by
  obtain ⟨m1, m2, m3, m4, m5, m6⟩ := h
  have r : σ4.2 = σ3.2 := by rw [e]; rfl
  have i : ∀ k, k ≠ 118 → σ4.1 k = σ3.1 k := fun k hk => by rw [e]; exact upd_row hk
  refine ⟨fun k hk => ⟨by rw [i k (by omega)]; exact (m1 k hk).1, by rw [r]; exact (m1 k hk).2⟩, fun k hk => by rw [i k (by omega)]; exact m2 k hk, fun j h1 h2 => by rw [i 117 (by decide)]; exact m3 j h1 h2, ⟨by rw [i 117 (by decide)]; exact m4.1, fun j hj k hk => by rw [i 119 (by decide)]; exact m4.2 j hj k hk⟩, by rw [i 117 (by decide)]; exact m5, fun k hk => ?_⟩
  rw [e, setI_1]
  try dsimp only
  by_cases z : k = p
  · rw [if_pos ⟨rfl, z⟩, if_pos z]
  · rw [if_neg (fun w => z w.2), if_neg z]; exact m6 k hk
theorem op_setSeparator {σ : Sg} (h : R σ) (x : Int32) {post : Int32 → Sg → Prop} (hp : ∀ r σ1, (∀ post2 : Int32 → Sg → Prop, (∀ σ2, R σ2 → post2 r σ2) → wpX7_setSeparator x σ1 post2) → post r σ1) : wpX6_setSeparator x σ post := by
  obtain ⟨a, tx, n, hn, pa, ke, im, h⟩ := h
  have ha := h.1.1.1
  have hgo : ∀ v : Nat, (v = 0 ∨ (33 ≤ v ∧ v ≤ 47)) → x = nI v → BX6_setSeparator_18 x post σ := by
    intro v hv hx
    unfold BX6_setSeparator_18
    refine q_begin h (fun σ1 f1 c1 σ2 e2 => ?_)
    have i2 : ∀ k, k ≠ 5 → σ2.1 k = σ1.1 k := fun k hk => by rw [e2]; exact upd_row hk
    have r2 : σ2.2 = σ1.2 := by rw [e2]; rfl
    obtain ⟨c1, c2, c3, c4, c5, c6, c7⟩ := c1
    have hwf : wfA (fun k => if k = 1 then v else a k) := by
      refine ⟨ha.1, hv, fun k => ?_, fun m hm => ?_⟩
      · try dsimp only
        have := ha.2.2.1 k
        split <;> omega
      · have := ha.2.2.2 m hm
        simp only [show 2 + 3 * m ≠ 1 by omega, show 3 + 3 * m ≠ 1 by omega, show 4 + 3 * m ≠ 1 by omega, show 20 + m ≠ 1 by omega, show 26 + m ≠ 1 by omega, show 32 + m ≠ 1 by omega, show 44 + m ≠ 1 by omega, if_false]
        exact this
    have hst : stC σ σ2 (hnN hn) (paN hn pa a) (fun k => if k = 1 then v else a k) := by
      refine ⟨fun k hk => ⟨by rw [i2 k (by omega)]; exact (c1 k hk).1, by rw [r2]; exact (c1 k hk).2⟩, c2.fr (fun k _ _ => ⟨i2 k (by omega), by rw [r2]⟩), by rw [i2 90 (by decide)]; exact c3, by rw [i2 97 (by decide)]; exact c4, ⟨?_, ?_, fun m hm => ?_⟩, c6.row (by rw [r2]), hwf⟩
      · rw [e2, setI_1, if_neg (by decide)]; exact c5.1
      · rw [e2, setI_1, if_pos ⟨rfl, rfl⟩]; exact hx
      · have hb := c5.2.2 m hm
        have hm6 : m < 6 := by have := ha.1; exact Nat.lt_of_lt_of_le hm this
        have hq := c6.1 m hm6
        unfold repMb at hb ⊢
        rw [r2, i2 _ (by omega)]
        unfold wdN at hb ⊢
        simp only [show 2 + 3 * m ≠ 1 by omega, show 3 + 3 * m ≠ 1 by omega, show 4 + 3 * m ≠ 1 by omega, show 20 + m ≠ 1 by omega, show 26 + m ≠ 1 by omega, show 32 + m ≠ 1 by omega, show 38 + m ≠ 1 by omega, show 44 + m ≠ 1 by omega, if_false]
        exact hb
    rw [c5.2.1]
    refine hp _ _ (fun post2 h2 => ?_)
    have hgm : BX7_setSeparator_17 x post2 σ2 := by
      unfold BX7_setSeparator_17
      refine q_remember h (fun k hk => by rw [i2 k (by omega)]; exact (f1 k (by omega)).1) (fun σ3 hW m3 => ⟨in1_50, in1_50, fun σ4 e4 => ?_⟩)
      rw [z1, hx] at e4
      rw [z1, hW 1 (by decide)]
      exact h2 σ4 (h.fin hst (m3.put e4)).r
    unfold wpX7_setSeparator
    refine ⟨fun _ => hgm, fun w => ?_⟩
    have hv0 : v ≠ 0 := fun z => w (by rw [hx, z]; rfl)
    rw [hx]
    refine m_isIn (lo := 33) (hi := 47) (by omega) (by decide) (by decide) ?_
    rw [decide_eq_true (show 33 ≤ v by omega), decide_eq_true (show v ≤ 47 by omega)]
    rw [hx] at hgm
    exact ⟨fun _ => hgm, fun w => absurd w (by decide)⟩
  have hbad : ¬ x = 0 → (x < 33 ∨ 47 < x) → post (-1) σ := fun hx c => hp _ _ (fun post2 h2 => by
    unfold wpX7_setSeparator wpX7_isIn
    refine ⟨fun w => absurd w hx, fun _ => ⟨fun _ => ⟨fun w => absurd rfl w, fun _ => h2 σ h.r⟩, fun c1 => ⟨fun _ => ⟨fun w => absurd rfl w, fun _ => h2 σ h.r⟩, fun c2 => ?_⟩⟩⟩
    rcases c with c | c
    · exact absurd c c1
    · exact absurd c c2)
  unfold wpX6_setSeparator
  refine ⟨fun w => hgo 0 (Or.inl rfl) w, fun w => ⟨fun c => hbad w (Or.inl c), fun c => ⟨fun c2 => ?_, fun c2 => hbad w (Or.inr (by rw [Int32.not_le] at c2; exact c2))⟩⟩⟩
  have h0 : ¬ x < 0 := fun w => c (by
    rw [Int32.lt_iff_toInt_lt] at w ⊢
    have e1 : (33 : Int32).toInt = 33 := by decide
    have e0 : (0 : Int32).toInt = 0 := by decide
    omega)
  obtain ⟨v, hv, e⟩ := nI_of2 (M := 47) (n := 47) (by decide) h0 c2
  refine hgo v (Or.inr ⟨?_, hv⟩) e
  rcases Nat.lt_or_ge v 33 with q | q
  · exact absurd (by rw [e]; exact nI_lt (a := v) (b := 33) q (by decide)) c
  · exact q
