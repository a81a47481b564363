/-! changes: the answer and the numbers behind it, of the numbers alone -/
theorem rngI {x : Int32} {lo hi : Nat} (hlo : lo < 2 ^ 31) (hhi : hi < 2 ^ 31) (c : ¬ x < nI lo) (c2 : x ≤ nI hi) : ∃ v, lo ≤ v ∧ v ≤ hi ∧ x = nI v := by
  have h0 : ¬ x < 0 := fun w => c (by
    rw [Int32.lt_iff_toInt_lt] at w ⊢
    rw [nI_toInt hlo]
    have e0 : (0 : Int32).toInt = 0 := by decide
    omega)
  obtain ⟨j, hj, rfl⟩ := nI_of h0
  refine ⟨j, ?_, ?_, rfl⟩
  · rcases Nat.lt_or_ge j lo with q | q
    · exact absurd (nI_lt q hlo) c
    · exact q
  · rcases Nat.lt_or_ge hi j with q | q
    · exact absurd c2 (by rw [Int32.not_le]; exact nI_lt q hj)
    · exact q
theorem d_write (P : Pm) (x : Int32) : ∃ r P', Dt (wpX6_write x) P r P' := by
  obtain ⟨⟨a, tx, n⟩, ⟨hn, pa⟩, ke, im⟩ := P
  by_cases hx : ∃ v : Nat, 32 ≤ v ∧ v ≤ 126 ∧ x = nI v
  · obtain ⟨v, hv1, hv2, rfl⟩ := hx
    have c : ¬ nI v < (32 : Int32) := nI_nlt (a := v) (b := 32) hv1 (by omega)
    have c2 : nI v ≤ (126 : Int32) := nI_le (b := 126) hv2 (by decide)
    by_cases cn : n < 60
    · refine ⟨nI (n + 1), ((a, fun j => if j = n then v else tx j, n + 1), (hn, pa), ke, im), fun σ h post hp => ?_⟩
      have h : Cx σ a tx n hn pa ke im := h
      have hT := h.1.2.2.2.1
      unfold wpX6_write
      refine ⟨fun w => absurd w c, fun _ => ⟨fun _ => ?_, fun w => absurd c2 w⟩⟩
      unfold wpX0_append
      rw [hT.1, f10]
      refine ⟨fun w => absurd w (nI_pos (by omega)), fun _ => pk_lt n 60 (fun cn => ⟨pk_in n 60 cn, fun σ1 e1 σ2 e2 => ⟨fun _ => ?_, fun w => absurd w (by decide)⟩⟩) (fun w => by omega)⟩
      unfold wpX5_forget
      intro σ3 e3
      rw [nI_clamp (by omega)] at e1
      have e12 : σ2.1 1 1 = nI (n + 1) := by rw [e2, setI_1, if_pos ⟨rfl, rfl⟩, e1, upd_row (by decide), hT.1]; exact nI_1 n
      have r3 : σ3.2 = σ.2 := by rw [e3, e2, e1]; rfl
      have i3 : ∀ k, k ≠ 1 → k ≠ 2 → k ≠ 90 → σ3.1 k = σ.1 k := fun k k1 k2 k3 => by rw [e3, upd_row k3, e2, upd_row k1, e1, upd_row k2]
      have e31 : σ3.1 1 1 = nI (n + 1) := by rw [e3, upd_row (by decide)]; exact e12
      rw [e31]
      refine hp σ3 (h.text (σ' := σ3) (tx' := fun j => if j = n then v else tx j) (n' := n + 1) (fun k _ k2 k3 k4 => i3 k k2 k3 k4) r3 (by rw [e3, setI_1, if_pos ⟨rfl, rfl⟩]) ⟨by omega, fun j => ?_⟩ ⟨e31, fun j hj => ?_⟩)
      · have := h.1.2.1.2 j
        try dsimp only
        split <;> omega
      · rw [e3, upd_row (by decide), e2, upd_row (by decide), e1, setI_1]
        try dsimp only
        by_cases z : j = n
        · rw [if_pos ⟨rfl, z⟩, if_pos z]
        · rw [if_neg (fun w => z w.2), if_neg z]; exact hT.2 j (by omega)
    · refine ⟨-3, ((a, tx, n), (hn, pa), ke, im), fun σ h post hp => ?_⟩
      have h : Cx σ a tx n hn pa ke im := h
      have hnn := h.1.2.1.1
      have hT := h.1.2.2.2.1
      unfold wpX6_write
      refine ⟨fun w => absurd w c, fun _ => ⟨fun _ => ?_, fun w => absurd c2 w⟩⟩
      unfold wpX0_append
      rw [hT.1, f10]
      exact ⟨fun w => absurd w (nI_pos (by omega)), fun _ => pk_lt n 60 (fun w => by omega) (fun _ => ⟨fun w => absurd rfl w, fun _ => hp σ h⟩)⟩
  · refine ⟨-1, ((a, tx, n), (hn, pa), ke, im), fun σ h post hp => ?_⟩
    unfold wpX6_write
    exact ⟨fun _ => hp σ h, fun c => ⟨fun c2 => absurd (rngI (lo := 32) (hi := 126) (by decide) (by decide) c c2) hx, fun _ => hp σ h⟩⟩
theorem d_wipe (P : Pm) : ∃ r P', Dt wpX6_wipe P r P' := by
  obtain ⟨⟨a, tx, n⟩, ⟨hn, pa⟩, ke, im⟩ := P
  refine ⟨nI n, ((a, tx, 0), (hn, pa), ke, im), fun σ h post hp => ?_⟩
  have h : Cx σ a tx n hn pa ke im := h
  have hT := h.1.2.2.2.1
  unfold wpX6_wipe wpX0_clear wpX5_forget
  intro σ1 e1 σ2 e2
  rw [hT.1]
  have i2 : ∀ k, k ≠ 1 → k ≠ 90 → σ2.1 k = σ.1 k := fun k k1 k2 => by rw [e2, upd_row k2, e1, upd_row k1]
  refine hp σ2 (h.text (σ' := σ2) (tx' := tx) (n' := 0) (fun k _ k2 _ k4 => i2 k k2 k4) (by rw [e2, e1]; rfl) (by rw [e2, setI_1, if_pos ⟨rfl, rfl⟩]) ⟨by omega, h.1.2.1.2⟩ ⟨?_, fun j hj => absurd hj (Nat.not_lt_zero j)⟩)
  rw [e2, upd_row (by decide), e1, setI_1, if_pos ⟨rfl, rfl⟩]; rfl
theorem d_setSeparator (P : Pm) (x : Int32) : ∃ r P', Dt (wpX6_setSeparator x) P r P' := by
  obtain ⟨⟨a, tx, n⟩, ⟨hn, pa⟩, ke, im⟩ := P
  by_cases hx : ∃ v : Nat, (v = 0 ∨ (33 ≤ v ∧ v ≤ 47)) ∧ x = nI v
  · obtain ⟨v, hv, hx⟩ := hx
    refine ⟨nI (a 1), ((fun k => if k = 1 then v else a k, tx, n), (hnN hn, paN hn pa a), ke, im), fun σ h post hp => ?_⟩
    have h : Cx σ a tx n hn pa ke im := h
    have ha := h.1.1
    have hgo : BX6_setSeparator_18 x post σ := by
      unfold BX6_setSeparator_18
      refine q_begin h (fun σ1 f1 c1 σ2 e2 => ?_)
      have i2 : ∀ k, k ≠ 5 → σ2.1 k = σ1.1 k := fun k hk => by rw [e2]; exact upd_row hk
      have r2 : σ2.2 = σ1.2 := by rw [e2]; rfl
      obtain ⟨c1, c2, c3, c4, c5, c6, c7⟩ := c1
      have hwf : wfA (fun k => if k = 1 then v else a k) := by
        refine ⟨ha.1, hv, fun k => ?_, fun m hm => ?_⟩
        · try dsimp only
          have := ha.2.2.1 k
          split <;> omega
        · have := ha.2.2.2 m hm
          simp only [show 2 + 3 * m ≠ 1 by omega, show 3 + 3 * m ≠ 1 by omega, show 4 + 3 * m ≠ 1 by omega, show 20 + m ≠ 1 by omega, show 26 + m ≠ 1 by omega, show 32 + m ≠ 1 by omega, show 44 + m ≠ 1 by omega, if_false]
          exact this
      have hst : stC σ σ2 (hnN hn) (paN hn pa a) (fun k => if k = 1 then v else a k) := by
        refine ⟨fun k hk => ⟨by rw [i2 k (by omega)]; exact (c1 k hk).1, by rw [r2]; exact (c1 k hk).2⟩, c2.fr (fun k _ _ => ⟨i2 k (by omega), by rw [r2]⟩), by rw [i2 90 (by decide)]; exact c3, by rw [i2 97 (by decide)]; exact c4, ⟨?_, ?_, fun m hm => ?_⟩, c6.row (by rw [r2]), hwf⟩
        · rw [e2, setI_1, if_neg (by decide)]; exact c5.1
        · rw [e2, setI_1, if_pos ⟨rfl, rfl⟩]; exact hx
        · have hb := c5.2.2 m hm
          have hm6 : m < 6 := by have := ha.1; exact Nat.lt_of_lt_of_le hm this
          have hq := c6.1 m hm6
          unfold repMb at hb ⊢
          rw [r2, i2 _ (by omega)]
          unfold wdN at hb ⊢
          simp only [show 2 + 3 * m ≠ 1 by omega, show 3 + 3 * m ≠ 1 by omega, show 4 + 3 * m ≠ 1 by omega, show 20 + m ≠ 1 by omega, show 26 + m ≠ 1 by omega, show 32 + m ≠ 1 by omega, show 38 + m ≠ 1 by omega, show 44 + m ≠ 1 by omega, if_false]
          exact hb
      rw [c5.2.1]
      exact hp σ2 (h.fin hst)
    unfold wpX6_setSeparator
    refine ⟨fun _ => hgo, fun w => ?_⟩
    have hv0 : v ≠ 0 := fun z => w (by rw [hx, z]; rfl)
    refine ⟨fun c => absurd c ?_, fun _ => ⟨fun _ => hgo, fun c => absurd ?_ c⟩⟩
    · rw [hx]; exact nI_nlt (a := v) (b := 33) (by omega) (by omega)
    · rw [hx]; exact nI_le (b := 47) (by omega) (by decide)
  · refine ⟨-1, ((a, tx, n), (hn, pa), ke, im), fun σ h post hp => ?_⟩
    unfold wpX6_setSeparator
    refine ⟨fun w => absurd ⟨0, Or.inl rfl, w⟩ hx, fun _ => ⟨fun _ => hp σ h, fun c => ⟨fun c2 => ?_, fun _ => hp σ h⟩⟩⟩
    obtain ⟨v, v1, v2, e⟩ := rngI (lo := 33) (hi := 47) (by decide) (by decide) c c2
    exact absurd ⟨v, Or.inr ⟨v1, v2⟩, e⟩ hx
theorem kd_im {i : Nat} (hi : i < 2) : s_kd (99 + 9 * i) = 1 := (by decide +kernel : ∀ i, i < 2 → s_kd (99 + 9 * i) = 1) i hi
theorem d_undo (P : Pm) : ∃ r P', Dt wpX6_undo P r P' := by
  obtain ⟨⟨a, tx, n⟩, ⟨hn, pa⟩, ke, im⟩ := P
  by_cases h0 : 0 < hn
  · refine ⟨nI (hn - 1), ((pa (hn - 1), tx, n), (hn - 1, pa), ke, im), fun σ h post hp => ?_⟩
    have h : Cx σ a tx n hn pa ke im := h
    have hc := h.2.2.2.2.1
    have h8 := hc.1
    have hmr := h.2.1
    unfold wpX6_undo
    rw [hc.2.1]
    refine ⟨fun w => ?_, fun w => absurd ((nI_eq (b := 0) (by omega) (by decide)).mp w) (by omega)⟩
    unfold wpX2_restore
    rw [hc.2.1]
    refine ⟨fun w => absurd w (nI_nle h0 (by omega)), fun _ => pk_lt 8 hn (fun c => by omega) (fun _ σ1 e1 => ?_)⟩
    rw [show nI hn - (1 : Int32) = nI (hn - 1) from pk_sub (b := 1) h0] at e1
    have e14 : σ1.1 14 1 = nI (hn - 1) := by rw [e1, setI_1, if_pos ⟨rfl, rfl⟩]
    have r1 : σ1.2 = σ.2 := by rw [e1]; rfl
    have i1 : ∀ k, k ≠ 14 → σ1.1 k = σ.1 k := fun k hk => by rw [e1]; exact upd_row hk
    rw [e14]
    refine ⟨pk_in (hn - 1) 8 (by omega), fun q eq => ?_⟩
    obtain ⟨i, hi, ei⟩ := hc.2.2.1 (hn - 1) (by omega)
    rw [nI_clamp (by omega), r1, ei] at eq
    rw [eq]
    have hw := hc.2.2.2.2.2 (hn - 1) (by omega)
    rw [ei] at hw
    have hst := mr_st hi hc.2.2.2.2.1
    refine v_copyD k51 (kd_st hi) (by omega) (hmr.row (by rw [r1])) (hst.row (by rw [r1])) hw.1 (hw.2.fr hst hw.1 (fun k _ _ => i1 k (by omega)) (by rw [r1])) (fun σ2 f2 g2 R2 => ?_)
    unfold wpX6_forgetTables wpX5_forget wpX4_forget
    intro σ3 e3 σ4 e4
    have i4 : ∀ k, k ≠ 90 → k ≠ 97 → σ4.1 k = σ2.1 k := fun k k1 k2 => by rw [e4, upd_row k2, e3, upd_row k1]
    have r4 : σ4.2 = σ.2 := by rw [e4, e3]; exact g2.trans r1
    have hst4 : stC σ σ4 (hn - 1) pa (pa (hn - 1)) := by
      refine ⟨fun k hk => ⟨by rw [i4 k (by omega) (by omega), (f2 k (by omega)).1, i1 k (by omega)], by rw [r4]⟩, ⟨by omega, ?_, by rw [r4]; exact hc.2.2.1, by rw [r4]; exact hc.2.2.2.1, by rw [r4]; exact hc.2.2.2.2.1, fun j hj => ?_⟩, by rw [e4, upd_row (by decide), e3, setI_1, if_pos ⟨rfl, rfl⟩], by rw [e4, setI_1, if_pos ⟨rfl, rfl⟩], R2.fr (hmr.row (by rw [g2, r1])) hw.1 (fun k _ _ => i4 k (by omega) (by omega)) (by rw [r4, g2, r1]), hmr.row (by rw [r4]), hw.1⟩
      · rw [i4 14 (by decide) (by decide), (f2 14 (by omega)).1]; exact e14
      · obtain ⟨x, hx, ex⟩ := hc.2.2.1 j (by omega)
        have hwj := hc.2.2.2.2.2 j (by omega)
        refine ⟨hwj.1, ?_⟩
        rw [r4, ex]
        rw [ex] at hwj
        exact hwj.2.fr (mr_st hx hc.2.2.2.2.1) hwj.1 (fun k _ _ => by rw [i4 k (by omega) (by omega), (f2 k (by omega)).1, i1 k (by omega)]) (by rw [r4])
    show post (σ4.1 14 1) σ4
    rw [hst4.2.1.2.1]
    exact hp σ4 (h.fin hst4)
  · refine ⟨-2, ((a, tx, n), (hn, pa), ke, im), fun σ h post hp => ?_⟩
    have h : Cx σ a tx n hn pa ke im := h
    unfold wpX6_undo
    rw [h.2.2.2.2.1.2.1, show hn = 0 by omega]
    have h2 : Cs σ ((a, tx, n), (hn, pa), ke, im) := h
    exact ⟨fun w => absurd rfl w, fun _ => hp σ h2⟩
theorem v_isImage {σ : Sg} (x : Int32) {post : Int32 → Sg → Prop} (h1 : ∀ i, i < 2 → x = nI i → post 1 σ) (h0 : (∀ i, i < 2 → x ≠ nI i) → post 0 σ) : wpX6_isImage x σ post := by
  unfold wpX6_isImage
  refine ⟨fun c => h0 (fun m hm e => ?_), fun c => ?_⟩
  · subst e; exact absurd c (nI_pos (by omega))
  · obtain ⟨j, hj, rfl⟩ := nI_of c
    have hno : 2 ≤ j → post 0 σ := fun q => h0 (fun m hm e => by
      have := (nI_eq hj (by omega)).mp e
      omega)
    exact pk_le 2 j hno (fun c => pk_le 2 j hno (fun c => h1 j c rfl))
theorem i2_eq {i j : Nat} (hi : i < 2) (hj : j < 2) (e : nI i = nI j) : i = j := (nI_eq (by omega) (by omega)).mp e
theorem d_keep (P : Pm) (x : Int32) : ∃ r P', Dt (wpX6_keep x) P r P' := by
  obtain ⟨⟨a, tx, n⟩, ⟨hn, pa⟩, ke, im⟩ := P
  by_cases hx : ∃ i, i < 2 ∧ x = nI i
  · obtain ⟨i, hi, rfl⟩ := hx
    refine ⟨nI (a 0), ((a, tx, n), (hn, pa), (fun j => if j = i then true else ke j), (fun j => if j = i then a else im j)), fun σ h post hp => ?_⟩
    have h : Cx σ a tx n hn pa ke im := h
    have ha := h.1.1
    have hI := h.2.2.2.2.2
    have hmr := h.2.1
    unfold wpX6_keep
    refine v_isImage (nI i) (fun i' hi' e => ⟨fun _ => ⟨pk_in i 2 hi, fun q eq => ?_⟩, fun w => absurd w (by decide)⟩) (fun hno => absurd rfl (hno i hi))
    have e88 : σ.2.2 88 i = 99 + 9 * i := by
      rcases (show i = 0 ∨ i = 1 by omega) with rfl | rfl
      · exact hI.1
      · exact hI.2.1
    rw [nI_clamp (by omega), e88] at eq
    rw [eq]
    refine v_copyD (kd_im hi) k51 (by omega) (mr_im hI hi) hmr ha h.1.2.2.1 (fun σ1 f1 g1 R1 => ⟨pk_in i 2 hi, fun σ2 e2 => ?_⟩)
    rw [nI_clamp (by omega), nar1] at e2
    have i2 : ∀ k, k ≠ 89 → σ2.1 k = σ1.1 k := fun k hk => by rw [e2]; exact upd_row hk
    have r2 : σ2.2 = σ.2 := by rw [e2]; exact g1
    have all : ∀ k, k < 99 ∨ 116 < k → k ≠ 89 → σ2.1 k = σ.1 k := fun k k1 k2 => by rw [i2 k k2, (f1 k (by omega)).1]
    rw [all 5 (by omega) (by omega), h.1.2.2.1.1]
    refine hp σ2 ?_
    obtain ⟨⟨a1, a2, a3, a4, a5⟩, b, t1, t2, hH, _⟩ := h
    refine ⟨⟨a1, a2, a3.fr hmr a1 (fun k _ _ => all k (by omega) (by omega)) (by rw [r2]), ⟨?_, fun j hj => ?_⟩, by rw [r2]; exact a5⟩, b.row (by rw [r2]), fun z => ?_, fun L hL z => ?_, hH.fr (fun k _ _ => ⟨all k (by omega) (by omega), by rw [r2]⟩), ⟨by rw [r2]; exact hI.1, by rw [r2]; exact hI.2.1, by rw [r2]; exact hI.2.2.1, fun j hj => ?_, fun j hj hk => ?_⟩⟩
    · rw [all 1 (by omega) (by omega)]; exact a4.1
    · rw [all 2 (by omega) (by omega)]; exact a4.2 j hj
    · exact (t1 (by rw [← all 90 (by omega) (by omega)]; exact z)).row (fun k _ _ => ⟨all k (by omega) (by omega), by rw [r2]⟩)
    · have := t2 L hL (by rw [← all 97 (by omega) (by omega)]; exact z)
      unfold tabO; rw [r2]; exact this
    · rw [e2, setI_1]
      try dsimp only
      by_cases z : j = i
      · rw [if_pos ⟨rfl, z⟩, if_pos z]; rfl
      · rw [if_neg (fun w => z w.2), if_neg z, (f1 89 (by omega)).1]; exact hI.2.2.2.1 j hj
    · by_cases z : j = i
      · simp only [z, if_pos]
        refine ⟨ha, ?_⟩
        exact R1.fr ((mr_im hI hi).row (by rw [g1])) ha (fun k _ _ => by rw [i2 k (by omega)]) (by rw [r2, g1])
      · simp only [if_neg z] at hk ⊢
        obtain ⟨w1, w2⟩ := hI.2.2.2.2 j hj hk
        exact ⟨w1, w2.fr (mr_im hI hj) w1 (fun k _ _ => by rw [i2 k (by omega), (f1 k (by omega)).1]) (by rw [r2])⟩
  · refine ⟨-1, ((a, tx, n), (hn, pa), ke, im), fun σ h post hp => ?_⟩
    unfold wpX6_keep
    exact v_isImage x (fun i hi e => absurd ⟨i, hi, e⟩ hx) (fun _ => ⟨fun w => absurd rfl w, fun _ => hp σ h⟩)
theorem d_back (P : Pm) (x : Int32) : ∃ r P', Dt (wpX6_back x) P r P' := by
  obtain ⟨⟨a, tx, n⟩, ⟨hn, pa⟩, ke, im⟩ := P
  by_cases hx : ∃ i, i < 2 ∧ x = nI i
  · obtain ⟨i, hi, rfl⟩ := hx
    by_cases hke : ke i = true
    · refine ⟨nI (im i 0), ((im i, tx, n), (hnN hn, paN hn pa a), ke, im), fun σ h post hp => ?_⟩
      have h : Cx σ a tx n hn pa ke im := h
      have hI := h.2.2.2.2.2
      unfold wpX6_back
      refine v_isImage (nI i) (fun i' hi' e => ⟨fun _ => ⟨pk_in i 2 hi, ?_⟩, fun w => absurd w (by decide)⟩) (fun hno => absurd rfl (hno i hi))
      rw [nI_clamp (by omega), hI.2.2.2.1 i hi]
      refine bI_n _ (fun e => by rw [hke] at e; cases e) (fun _ => q_begin h (fun σ1 f1 c1 => ⟨pk_in i 2 hi, fun q eq => ?_⟩))
      have e88 : σ1.2.2 88 i = 99 + 9 * i := by
        rw [(f1 88 (by omega)).2]
        rcases (show i = 0 ∨ i = 1 by omega) with rfl | rfl
        · exact hI.1
        · exact hI.2.1
      rw [e88] at eq
      rw [eq]
      obtain ⟨c1, c2, c3, c4, c5, c6, c7⟩ := c1
      obtain ⟨w1, w2⟩ := hI.2.2.2.2 i hi hke
      have hmi := mr_im hI hi
      refine v_copyD k51 (kd_im hi) (by omega) c6 (hmi.row (f1 _ (by omega)).2) w1 (w2.fr hmi w1 (fun k _ _ => (f1 k (by omega)).1) (f1 _ (by omega)).2) (fun σ2 f2 g2 R2 => ?_)
      rw [R2.1]
      have hst : stC σ σ2 (hnN hn) (paN hn pa a) (im i) := ⟨fun k hk => ⟨by rw [(f2 k (by omega)).1]; exact (c1 k hk).1, by rw [g2]; exact (c1 k hk).2⟩, c2.fr (fun k _ _ => ⟨(f2 k (by omega)).1, by rw [g2]⟩), by rw [(f2 90 (by omega)).1]; exact c3, by rw [(f2 97 (by omega)).1]; exact c4, R2, c6.row (by rw [g2]), w1⟩
      exact hp σ2 (h.fin hst)
    · refine ⟨-2, ((a, tx, n), (hn, pa), ke, im), fun σ h post hp => ?_⟩
      have h2 : Cs σ ((a, tx, n), (hn, pa), ke, im) := h
      have h : Cx σ a tx n hn pa ke im := h
      have hI := h.2.2.2.2.2
      unfold wpX6_back
      refine v_isImage (nI i) (fun i' hi' e => ⟨fun _ => ⟨pk_in i 2 hi, ?_⟩, fun w => absurd w (by decide)⟩) (fun hno => absurd rfl (hno i hi))
      rw [nI_clamp (by omega), hI.2.2.2.1 i hi]
      exact bI_n _ (fun _ => hp σ h2) (fun e => absurd e hke)
  · refine ⟨-1, ((a, tx, n), (hn, pa), ke, im), fun σ h post hp => ?_⟩
    unfold wpX6_back
    exact v_isImage x (fun i hi e => absurd ⟨i, hi, e⟩ hx) (fun _ => ⟨fun w => absurd rfl w, fun _ => hp σ h⟩)
