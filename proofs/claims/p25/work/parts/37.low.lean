/-! the law's own small methods: word, change, text; the same of the same numbers -/
theorem C_0 : ∃ P : Pm, Cs s_0 P := by
  have hi : ∀ k j, k ≠ 97 → s_0.1 k j = 0 := fun k j hk => if_neg hk
  have hr : ∀ k j, k ≠ 15 → k ≠ 88 → s_0.2.2 k j = k + 2 + j := fun k j h1 h2 => by
    show (if k = 15 then 16 + 9 * j else if k = 88 then 99 + 9 * j else k + 2 + j) = _
    rw [if_neg h1, if_neg h2]
  have hr15 : ∀ j, s_0.2.2 15 j = 16 + 9 * j := fun j => by
    show (if 15 = 15 then 16 + 9 * j else if 15 = 88 then 99 + 9 * j else 15 + 2 + j) = _
    rw [if_pos rfl]
  have hr88 : ∀ j, s_0.2.2 88 j = 99 + 9 * j := fun j => rfl
  have hwf : wfA (fun _ => 0) := ⟨Nat.zero_le _, Or.inl rfl, fun _ => Nat.zero_le _, fun m hm => absurd hm (Nat.not_lt_zero m)⟩
  have hwt : wfT (fun _ => 32) 0 := ⟨Nat.zero_le _, fun _ => ⟨Nat.le_refl 32, (by decide : 32 ≤ 126)⟩⟩
  have h6 : ∀ m, s_0.2.2 6 m = 8 + m := fun m => hr 6 m (by decide) (by decide)
  refine ⟨((fun _ => 0, fun _ => 32, 0), (0, fun _ _ => 0), fun _ => false, fun _ _ => 0), ?_⟩
  show Cx s_0 (fun _ => 0) (fun _ => 32) 0 0 (fun _ _ => 0) (fun _ => false) (fun _ _ => 0)
  refine ⟨⟨hwf, hwt, ⟨hi 5 2 (by decide), hi 5 3 (by decide), fun m hm => absurd hm (Nat.not_lt_zero m)⟩, ⟨hi 1 1 (by decide), fun j hj => absurd hj (Nat.not_lt_zero j)⟩, fun m hm => ?_⟩, ⟨fun m hm => ?_, fun i j _ _ w => ?_⟩, fun z => absurd (hi 90 7 (by decide)) z, fun L hL z => ?_, ⟨by decide, hi 14 1 (by decide), fun j hj => ⟨j, hj, hr15 j⟩, fun i j _ _ w => ?_, fun i m hi1 hm => ?_, fun j hj => absurd hj (Nat.not_lt_zero j)⟩, ⟨hr88 0, hr88 1, fun i m hi1 hm => ?_, fun i hi1 => hi 89 i (by decide), fun i hi1 hk => by cases hk⟩⟩
  · rw [h6]; omega
  · have : s_0.2.2 (5 + 1) m = 8 + m := h6 m
    omega
  · have e1 : s_0.2.2 (5 + 1) i = 8 + i := h6 i
    have e2 : s_0.2.2 (5 + 1) j = 8 + j := h6 j
    omega
  · exact absurd z (kl_ne2 hL)
  · rw [hr15, hr15] at w; omega
  · rw [hr (17 + 9 * i) m (by omega) (by omega)]; omega
  · rw [hr (100 + 9 * i) m (by omega) (by omega)]; omega
def lowV (x n : Int32) : Int32 := (x &&& (2147483647 : Int32)) - (x &&& (2147483647 : Int32)) / n * n
theorem q_low {x n : Int32} {σ : Sg} {post : Int32 → Sg → Prop} (hn : ¬ n = 0) (h : post (lowV x n) σ) : wpL_low x n σ post := by
  unfold wpL_low; exact ⟨hn, h⟩
theorem lowV_N (x : Int32) {d : Nat} (h0 : 0 < d) (hd : d < 2 ^ 31) : ∃ j, j < d ∧ lowV x (nI d) = nI j := by
  obtain ⟨j, hj, e⟩ := pk_andE x (m := (2147483647 : Int32)) 31 (by decide)
  unfold lowV
  rw [e, pk_rem hj h0 hd]
  exact ⟨j % d, Nat.mod_lt _ h0, rfl⟩
/-- with a continuation: the answer and the numbers are P's alone -/
theorem d_word (P : Pm) (x : Int32) : ∃ r P', Dt (wpL_word x) P r P' := by
  obtain ⟨r0, P0, h0⟩ := d_wipe P
  obtain ⟨N, hN, eN⟩ := lowV_N x (d := 3) (by decide) (by decide)
  have key : ∀ r i, i + r = N + 1 → ∀ (P : Pm) (x2 : Int32), ∃ x2' P', ∀ (post : Int32 → Sg → Prop) σ, Cs σ P → (∀ σ1, Cs σ1 P' → post x2' σ1) → BL_word_16 x post (r + 1) x2 (nI (N + 1)) (nI i) σ := by
    intro r
    induction r with
    | zero =>
      intro i hi P x2
      refine ⟨x2, P, fun post σ h hk => ?_⟩
      rw [BL_word_16]
      exact pk_le (N + 1) i (fun _ => hk σ h) (fun c => by omega)
    | succ r ih =>
      intro i hi P x2
      obtain ⟨r1, P1, h1⟩ := d_write P ((97 : Int32) + lowV (x >>> (((2 : Int32) + ((2 : Int32) * nI i)) &&& 31)) 2)
      obtain ⟨x3, P2, h2⟩ := ih (i + 1) (by omega) P1 r1
      refine ⟨x3, P2, fun post σ h hk => ?_⟩
      rw [BL_word_16]
      refine pk_le (N + 1) i (fun c => by omega) (fun _ => q_low (by decide) (h1 σ h _ (fun σ1 c1 => ?_)))
      rw [nI_1]
      exact h2 post σ1 c1 hk
  obtain ⟨r2, P2, h2⟩ := key (N + 1) 0 (by omega) P0 r0
  refine ⟨r2, P2, fun σ h post hp => ?_⟩
  unfold wpL_word
  refine h0 σ h _ (fun σ1 c1 => q_low (by decide) ⟨N + 1 + 1, ?_⟩)
  rw [show lowV x 3 = nI N from eN, show (1 : Int32) + nI N = nI (N + 1) from by rw [Nat.add_comm]; exact nI_add 1 N]
  exact h2 post σ1 c1 hp
theorem Dt.skip {α : Type} (P : Pm) (r : α) : Dt (fun σ post => post r σ) P r P := fun σ h _ hp => hp σ h
theorem d_c115 (P : Pm) (x1 x2 x5 y0 : Int32) : ∃ r P', Dt (fun σ post => BL_change_115 x1 x2 post x5 y0 σ) P r P' := by
  by_cases c : 0 ≤ x5
  · obtain ⟨r1, P1, h1⟩ := d_declare P (lowV (x1 >>> ((5 : Int32) &&& 31)) 3) y0 ((y0 + (1 : Int32)) + lowV (x2 >>> ((14 : Int32) &&& 31)) 2)
    refine ⟨r1, P1, fun σ h post hp => ?_⟩
    unfold BL_change_115
    exact ⟨fun _ => q_low (by decide) (q_low (by decide) (h1 σ h _ hp)), fun w => absurd c w⟩
  · refine ⟨x5, P, fun σ h post hp => ?_⟩
    unfold BL_change_115
    exact ⟨fun w => absurd w c, fun _ => hp σ h⟩
theorem d_c84 (P : Pm) (x1 x2 : Int32) : ∃ r P', Dt (fun σ post => BL_change_84 x1 x2 post σ) P r P' := by
  obtain ⟨r1, P1, h1⟩ := d_word P x2
  by_cases c : (2 : Int32) ≤ lowV (x2 >>> ((10 : Int32) &&& 31)) 4
  · obtain ⟨r2, P2, h2⟩ := d_c115 P1 x1 x2 r1 (lowV (x2 >>> ((12 : Int32) &&& 31)) 2)
    refine ⟨r2, P2, fun σ h post hp => ?_⟩
    unfold BL_change_84
    exact h1 σ h _ (fun σ1 c1 => q_low (by decide) ⟨fun _ => q_low (by decide) (h2 σ1 c1 post hp), fun w => absurd c w⟩)
  · obtain ⟨r2, P2, h2⟩ := d_c115 P1 x1 x2 r1 0
    refine ⟨r2, P2, fun σ h post hp => ?_⟩
    unfold BL_change_84
    exact h1 σ h _ (fun σ1 c1 => q_low (by decide) ⟨fun w => absurd w c, fun _ => h2 σ1 c1 post hp⟩)
theorem d_c218 (P : Pm) (x1 x2 x3 x4 : Int32) : ∃ r P', Dt (fun σ post => BL_change_218 x1 x2 post x3 x4 σ) P r P' := by
  by_cases c : lowV x2 4 = 0
  · obtain ⟨r1, P1, h1⟩ := d_rule P x3 x4 0
    refine ⟨r1, P1, fun σ h post hp => ?_⟩
    unfold BL_change_218
    exact q_low (by decide) ⟨fun w => absurd c w, fun _ => h1 σ h _ hp⟩
  · obtain ⟨r1, P1, h1⟩ := d_rule P x3 x4 1
    refine ⟨r1, P1, fun σ h post hp => ?_⟩
    unfold BL_change_218
    exact q_low (by decide) ⟨fun _ => h1 σ h _ hp, fun w => absurd w c⟩
def chW (x1 x2 r23 r25 r27 : Int32) (σ26 : Sg) (post : Int32 → Sg → Prop) : Prop := (((r27).toInt < 0 ∨ 10 < (r27).toInt) → wpX6_undo σ26 (fun r30 σ29 => post r30 σ29)) ∧ ((r27 = 0) → BL_change_84 x1 x2 post σ26) ∧ ((r27 = 1) → BL_change_84 x1 x2 post σ26) ∧ ((r27 = 2) → BL_change_84 x1 x2 post σ26) ∧ ((r27 = 3) → BL_change_84 x1 x2 post σ26) ∧ ((r27 = 4) → wpL_low x2 ((3 : Int32)) σ26 (fun r32 σ31 => (((¬ r32 = 0) → post ((-9 : Int32)) σ31) ∧ ((r32 = 0) → wpX6_remove r23 σ31 (fun r35 σ34 => post r35 σ34))))) ∧ ((r27 = 5) → wpL_low x2 ((4 : Int32)) σ26 (fun r37 σ36 => wpL_low ((x2 >>> ((2 : Int32) &&& 31))) ((4 : Int32)) σ36 (fun r39 σ38 => wpX6_set r23 r37 r39 σ38 (fun r41 σ40 => post r41 σ40)))) ∧ ((r27 = 6) → wpX6_move r23 r25 σ26 (fun r43 σ42 => post r43 σ42)) ∧ ((r27 = 7) → wpL_low x2 ((3 : Int32)) σ26 (fun r45 σ44 => (((¬ r45 = 0) → wpX6_setSeparator ((44 : Int32)) σ44 (fun r48 σ47 => post r48 σ47)) ∧ ((r45 = 0) → wpX6_setSeparator ((0 : Int32)) σ44 (fun r50 σ49 => post r50 σ49))))) ∧ ((r27 = 8) → BL_change_218 x1 x2 post r23 r25 σ26) ∧ ((r27 = 9) → BL_change_218 x1 x2 post r23 r25 σ26) ∧ ((r27 = 10) → wpL_low x2 ((2 : Int32)) σ26 (fun r52 σ51 => (((¬ r52 = 0) → wpL_low ((x2 >>> ((1 : Int32) &&& 31))) ((2 : Int32)) σ51 (fun r55 σ54 => wpX6_back r55 σ54 (fun r57 σ56 => post r57 σ56))) ∧ ((r52 = 0) → wpL_low ((x2 >>> ((1 : Int32) &&& 31))) ((2 : Int32)) σ51 (fun r59 σ58 => wpX6_keep r59 σ58 (fun r61 σ60 => post r61 σ60))))))
theorem d_chW (P : Pm) (x1 x2 r23 r25 r27 : Int32) : ∃ r P', Dt (chW x1 x2 r23 r25 r27) P r P' := by
  rcases sw_0_10 r27 with c | c | c | c | c | c | c | c | c | c | c | c
  · obtain ⟨r1, P1, h1⟩ := d_undo P
    refine ⟨r1, P1, fun σ h post hp => ?_⟩
    unfold chW
    exact ⟨fun _ => h1 σ h _ hp, fun w => absurd c (by rw [w]; decide), fun w => absurd c (by rw [w]; decide), fun w => absurd c (by rw [w]; decide), fun w => absurd c (by rw [w]; decide), fun w => absurd c (by rw [w]; decide), fun w => absurd c (by rw [w]; decide), fun w => absurd c (by rw [w]; decide), fun w => absurd c (by rw [w]; decide), fun w => absurd c (by rw [w]; decide), fun w => absurd c (by rw [w]; decide), fun w => absurd c (by rw [w]; decide)⟩
  · obtain ⟨r1, P1, h1⟩ := d_c84 P x1 x2
    subst c
    refine ⟨r1, P1, fun σ h post hp => ?_⟩
    unfold chW
    exact ⟨fun w => absurd w (by decide), fun _ => h1 σ h post hp, fun w => absurd w (by decide), fun w => absurd w (by decide), fun w => absurd w (by decide), fun w => absurd w (by decide), fun w => absurd w (by decide), fun w => absurd w (by decide), fun w => absurd w (by decide), fun w => absurd w (by decide), fun w => absurd w (by decide), fun w => absurd w (by decide)⟩
  · obtain ⟨r1, P1, h1⟩ := d_c84 P x1 x2
    subst c
    refine ⟨r1, P1, fun σ h post hp => ?_⟩
    unfold chW
    exact ⟨fun w => absurd w (by decide), fun w => absurd w (by decide), fun _ => h1 σ h post hp, fun w => absurd w (by decide), fun w => absurd w (by decide), fun w => absurd w (by decide), fun w => absurd w (by decide), fun w => absurd w (by decide), fun w => absurd w (by decide), fun w => absurd w (by decide), fun w => absurd w (by decide), fun w => absurd w (by decide)⟩
  · obtain ⟨r1, P1, h1⟩ := d_c84 P x1 x2
    subst c
    refine ⟨r1, P1, fun σ h post hp => ?_⟩
    unfold chW
    exact ⟨fun w => absurd w (by decide), fun w => absurd w (by decide), fun w => absurd w (by decide), fun _ => h1 σ h post hp, fun w => absurd w (by decide), fun w => absurd w (by decide), fun w => absurd w (by decide), fun w => absurd w (by decide), fun w => absurd w (by decide), fun w => absurd w (by decide), fun w => absurd w (by decide), fun w => absurd w (by decide)⟩
  · obtain ⟨r1, P1, h1⟩ := d_c84 P x1 x2
    subst c
    refine ⟨r1, P1, fun σ h post hp => ?_⟩
    unfold chW
    exact ⟨fun w => absurd w (by decide), fun w => absurd w (by decide), fun w => absurd w (by decide), fun w => absurd w (by decide), fun _ => h1 σ h post hp, fun w => absurd w (by decide), fun w => absurd w (by decide), fun w => absurd w (by decide), fun w => absurd w (by decide), fun w => absurd w (by decide), fun w => absurd w (by decide), fun w => absurd w (by decide)⟩
  · subst c
    by_cases c2 : lowV x2 3 = 0
    · obtain ⟨r1, P1, h1⟩ := d_remove P r23
      refine ⟨r1, P1, fun σ h post hp => ?_⟩
      unfold chW
      exact ⟨fun w => absurd w (by decide), fun w => absurd w (by decide), fun w => absurd w (by decide), fun w => absurd w (by decide), fun w => absurd w (by decide), fun _ => q_low (by decide) ⟨fun w => absurd c2 w, fun _ => h1 σ h _ hp⟩, fun w => absurd w (by decide), fun w => absurd w (by decide), fun w => absurd w (by decide), fun w => absurd w (by decide), fun w => absurd w (by decide), fun w => absurd w (by decide)⟩
    · skip
      refine ⟨(-9 : Int32), P, fun σ h post hp => ?_⟩
      unfold chW
      exact ⟨fun w => absurd w (by decide), fun w => absurd w (by decide), fun w => absurd w (by decide), fun w => absurd w (by decide), fun w => absurd w (by decide), fun _ => q_low (by decide) ⟨fun _ => hp σ h, fun w => absurd w c2⟩, fun w => absurd w (by decide), fun w => absurd w (by decide), fun w => absurd w (by decide), fun w => absurd w (by decide), fun w => absurd w (by decide), fun w => absurd w (by decide)⟩
  · obtain ⟨r1, P1, h1⟩ := d_set P r23 (lowV x2 4) (lowV (x2 >>> ((2 : Int32) &&& 31)) 4)
    subst c
    refine ⟨r1, P1, fun σ h post hp => ?_⟩
    unfold chW
    exact ⟨fun w => absurd w (by decide), fun w => absurd w (by decide), fun w => absurd w (by decide), fun w => absurd w (by decide), fun w => absurd w (by decide), fun w => absurd w (by decide), fun _ => q_low (by decide) (q_low (by decide) (h1 σ h _ hp)), fun w => absurd w (by decide), fun w => absurd w (by decide), fun w => absurd w (by decide), fun w => absurd w (by decide), fun w => absurd w (by decide)⟩
  · obtain ⟨r1, P1, h1⟩ := d_move P r23 r25
    subst c
    refine ⟨r1, P1, fun σ h post hp => ?_⟩
    unfold chW
    exact ⟨fun w => absurd w (by decide), fun w => absurd w (by decide), fun w => absurd w (by decide), fun w => absurd w (by decide), fun w => absurd w (by decide), fun w => absurd w (by decide), fun w => absurd w (by decide), fun _ => h1 σ h _ hp, fun w => absurd w (by decide), fun w => absurd w (by decide), fun w => absurd w (by decide), fun w => absurd w (by decide)⟩
  · subst c
    by_cases c2 : lowV x2 3 = 0
    · obtain ⟨r1, P1, h1⟩ := d_setSeparator P 0
      refine ⟨r1, P1, fun σ h post hp => ?_⟩
      unfold chW
      exact ⟨fun w => absurd w (by decide), fun w => absurd w (by decide), fun w => absurd w (by decide), fun w => absurd w (by decide), fun w => absurd w (by decide), fun w => absurd w (by decide), fun w => absurd w (by decide), fun w => absurd w (by decide), fun _ => q_low (by decide) ⟨fun w => absurd c2 w, fun _ => h1 σ h _ hp⟩, fun w => absurd w (by decide), fun w => absurd w (by decide), fun w => absurd w (by decide)⟩
    · obtain ⟨r1, P1, h1⟩ := d_setSeparator P 44
      refine ⟨r1, P1, fun σ h post hp => ?_⟩
      unfold chW
      exact ⟨fun w => absurd w (by decide), fun w => absurd w (by decide), fun w => absurd w (by decide), fun w => absurd w (by decide), fun w => absurd w (by decide), fun w => absurd w (by decide), fun w => absurd w (by decide), fun w => absurd w (by decide), fun _ => q_low (by decide) ⟨fun _ => h1 σ h _ hp, fun w => absurd w c2⟩, fun w => absurd w (by decide), fun w => absurd w (by decide), fun w => absurd w (by decide)⟩
  · obtain ⟨r1, P1, h1⟩ := d_c218 P x1 x2 r23 r25
    subst c
    refine ⟨r1, P1, fun σ h post hp => ?_⟩
    unfold chW
    exact ⟨fun w => absurd w (by decide), fun w => absurd w (by decide), fun w => absurd w (by decide), fun w => absurd w (by decide), fun w => absurd w (by decide), fun w => absurd w (by decide), fun w => absurd w (by decide), fun w => absurd w (by decide), fun w => absurd w (by decide), fun _ => h1 σ h post hp, fun w => absurd w (by decide), fun w => absurd w (by decide)⟩
  · obtain ⟨r1, P1, h1⟩ := d_c218 P x1 x2 r23 r25
    subst c
    refine ⟨r1, P1, fun σ h post hp => ?_⟩
    unfold chW
    exact ⟨fun w => absurd w (by decide), fun w => absurd w (by decide), fun w => absurd w (by decide), fun w => absurd w (by decide), fun w => absurd w (by decide), fun w => absurd w (by decide), fun w => absurd w (by decide), fun w => absurd w (by decide), fun w => absurd w (by decide), fun w => absurd w (by decide), fun _ => h1 σ h post hp, fun w => absurd w (by decide)⟩
  · subst c
    by_cases c2 : lowV x2 2 = 0
    · obtain ⟨r1, P1, h1⟩ := d_keep P (lowV (x2 >>> ((1 : Int32) &&& 31)) 2)
      refine ⟨r1, P1, fun σ h post hp => ?_⟩
      unfold chW
      exact ⟨fun w => absurd w (by decide), fun w => absurd w (by decide), fun w => absurd w (by decide), fun w => absurd w (by decide), fun w => absurd w (by decide), fun w => absurd w (by decide), fun w => absurd w (by decide), fun w => absurd w (by decide), fun w => absurd w (by decide), fun w => absurd w (by decide), fun w => absurd w (by decide), fun _ => q_low (by decide) ⟨fun w => absurd c2 w, fun _ => q_low (by decide) (h1 σ h _ hp)⟩⟩
    · obtain ⟨r1, P1, h1⟩ := d_back P (lowV (x2 >>> ((1 : Int32) &&& 31)) 2)
      refine ⟨r1, P1, fun σ h post hp => ?_⟩
      unfold chW
      exact ⟨fun w => absurd w (by decide), fun w => absurd w (by decide), fun w => absurd w (by decide), fun w => absurd w (by decide), fun w => absurd w (by decide), fun w => absurd w (by decide), fun w => absurd w (by decide), fun w => absurd w (by decide), fun w => absurd w (by decide), fun w => absurd w (by decide), fun w => absurd w (by decide), fun _ => q_low (by decide) ⟨fun _ => q_low (by decide) (h1 σ h _ hp), fun w => absurd w c2⟩⟩
theorem d_change (P : Pm) (x1 x2 : Int32) : ∃ r P', Dt (wpL_change x1 x2) P r P' := by
  obtain ⟨r1, P1, h1⟩ := d_chW P x1 x2 (lowV (x1 >>> ((5 : Int32) &&& 31)) 4) (lowV (x1 >>> ((8 : Int32) &&& 31)) 4) (lowV x1 14)
  refine ⟨r1, P1, fun σ h post hp => ?_⟩
  unfold wpL_change
  exact q_low (by decide) (q_low (by decide) (q_low (by decide) (h1 σ h post hp)))
theorem d_told (P : Pm) (x : Int32) : ∃ r, Dt (wpX6_told x) P r P := by
  obtain ⟨⟨a, tx, n⟩, ⟨hn, pa⟩, ke, im⟩ := P
  exact ⟨toldI a n hn x, fun σ h post hp => a_told (ke := ke) (im := im) h x hp⟩
theorem d_member (P : Pm) (x y : Int32) : ∃ r, Dt (wpX6_member x y) P r P := by
  obtain ⟨⟨a, tx, n⟩, ⟨hn, pa⟩, ke, im⟩ := P
  by_cases hh : ∃ m w : Nat, m < a 0 ∧ w ≤ 9 ∧ x = nI m ∧ y = nI w
  · obtain ⟨m, w, hm, hw, rfl, rfl⟩ := hh
    exact ⟨mbI a m w, fun σ h post hp => a_member (ke := ke) (im := im) h hm hw hp⟩
  · refine ⟨-1, fun σ h post hp => ?_⟩
    have h2 : Cs σ ((a, tx, n), (hn, pa), ke, im) := h
    have h : Cx σ a tx n hn pa ke im := h
    unfold wpX6_member
    refine v_has h.1.1 h.1.2.2.1.1 x (fun m hm ex => ⟨fun _ => hp σ h2, fun _ => ⟨fun _ => hp σ h2, fun c => ⟨fun c2 => ?_, fun _ => hp σ h2⟩⟩⟩) (fun _ => ⟨fun _ => hp σ h2, fun w => absurd rfl w⟩)
    obtain ⟨w, _, hw, ey⟩ := rngI (lo := 0) (hi := 9) (by decide) (by decide) c c2
    exact absurd ⟨m, w, hm, hw, ex, ey⟩ hh
/-! text -/
theorem d_t198 (P : Pm) (x1 x2 x4 x5 x6 x8 x10 x11 y0 : Int32) : ∃ x7' P', ∀ (K : Int32 → Int32 → Int32 → Int32 → Int32 → Int32 → Int32 → Sg → Prop) (post : Int32 → Sg → Prop) σ, Cs σ P → (∀ σ1, Cs σ1 P' → K x4 x5 x6 x7' x8 x10 x11 σ1) → BL_text_198 x1 x2 K post x4 x5 x6 x8 x10 x11 y0 σ := by
  obtain ⟨r1, P1, h1⟩ := d_write P ((48 : Int32) + lowV (x11 >>> ((2 : Int32) &&& 31)) 10)
  refine ⟨r1, P1, fun K post σ h hk => ?_⟩
  unfold BL_text_198
  exact q_low (by decide) (h1 σ h _ hk)
theorem d_t218 (P : Pm) (x1 x2 x4 x5 x6 x7 x8 x10 x11 : Int32) : ∃ x7' P', ∀ (K : Int32 → Int32 → Int32 → Int32 → Int32 → Sg → Prop) (post : Int32 → Sg → Prop) σ, Cs σ P → (∀ σ1, Cs σ1 P' → K x4 x5 x6 x7' (x8 + 1) σ1) → BL_text_218 x1 x2 K post x4 x5 x6 x7 x8 x10 x11 σ := by
  by_cases c : x10 = (2 : Int32)
  · obtain ⟨r1, P1, h1⟩ := d_write P ((65 : Int32) + lowV x11 26)
    refine ⟨r1, P1, fun K post σ h hk => ?_⟩
    unfold BL_text_218
    exact ⟨fun w => absurd c w, fun _ => q_low (by decide) (h1 σ h _ hk)⟩
  · refine ⟨x7, P, fun K post σ h hk => ?_⟩
    unfold BL_text_218
    exact ⟨fun _ => hk σ h, fun w => absurd w c⟩
theorem d_t105 (x1 x2 x4 x5 x6 x8 x9 : Int32) : ∀ r i, i + r = 8 → ∀ (P : Pm) (x7 : Int32), ∃ x7' P', ∀ (K : Int32 → Int32 → Int32 → Int32 → Int32 → Sg → Prop) (post : Int32 → Sg → Prop) σ, Cs σ P → (∀ σ1, Cs σ1 P' → K x4 x5 x6 x7' (x8 + 1) σ1) → BL_text_105 x1 x2 K post (r + 1) x4 x5 x6 x7 x8 x9 (nI i) σ := by
  intro r
  induction r with
  | zero =>
    intro i hi P x7
    obtain ⟨r12, h12⟩ := d_member P x9 0
    by_cases c : r12 = (1 : Int32)
    · by_cases c2 : lowV (x2 >>> (((4 : Int32) * x8) &&& 31)) 3 = 0
      · obtain ⟨r20, P1, h20⟩ := d_write P ((48 : Int32) + lowV (x2 >>> (((4 : Int32) * x8) &&& 31)) 4)
        obtain ⟨x71, P2, h2⟩ := d_t198 P1 x1 x2 x4 x5 x6 x8 r12 (x2 >>> (((4 : Int32) * x8) &&& 31)) r20
        obtain ⟨x72, P3, h3⟩ := d_t218 P2 x1 x2 x4 x5 x6 x71 x8 r12 (x2 >>> (((4 : Int32) * x8) &&& 31))
        refine ⟨x72, P3, fun K post σ h hk => ?_⟩
        rw [BL_text_105]
        refine pk_le 8 i (fun _ => h12 σ h _ (fun σ1 c1 => ⟨fun w => absurd c w, fun _ => q_low (by decide) ⟨fun w => absurd c2 w, fun _ => q_low (by decide) (h20 σ1 c1 _ (fun σ2 c2 => h2 _ post σ2 c2 (fun σ3 c3 => h3 K post σ3 c3 hk)))⟩⟩)) (fun w => by omega)
      · obtain ⟨x71, P2, h2⟩ := d_t198 P x1 x2 x4 x5 x6 x8 r12 (x2 >>> (((4 : Int32) * x8) &&& 31)) x7
        obtain ⟨x72, P3, h3⟩ := d_t218 P2 x1 x2 x4 x5 x6 x71 x8 r12 (x2 >>> (((4 : Int32) * x8) &&& 31))
        refine ⟨x72, P3, fun K post σ h hk => ?_⟩
        rw [BL_text_105]
        refine pk_le 8 i (fun _ => h12 σ h _ (fun σ1 c1 => ⟨fun w => absurd c w, fun _ => q_low (by decide) ⟨fun _ => h2 _ post σ1 c1 (fun σ3 c3 => h3 K post σ3 c3 hk), fun w => absurd w c2⟩⟩)) (fun w => by omega)
    · obtain ⟨x72, P3, h3⟩ := d_t218 P x1 x2 x4 x5 x6 x7 x8 r12 (x2 >>> (((4 : Int32) * x8) &&& 31))
      refine ⟨x72, P3, fun K post σ h hk => ?_⟩
      rw [BL_text_105]
      refine pk_le 8 i (fun _ => h12 σ h _ (fun σ1 c1 => ⟨fun _ => h3 K post σ1 c1 hk, fun w => absurd w c⟩)) (fun w => by omega)
  | succ r ih =>
    intro i hi P x7
    obtain ⟨r22, h22⟩ := d_member P x9 (nI i)
    by_cases c : r22 < 0
    · obtain ⟨x71, P1, h1⟩ := ih (i + 1) (by omega) P x7
      refine ⟨x71, P1, fun K post σ h hk => ?_⟩
      rw [BL_text_105]
      refine pk_le 8 i (fun w => by omega) (fun _ => h22 σ h _ (fun σ1 c1 => ⟨fun _ => ?_, fun w => absurd c w⟩))
      rw [nI_1]
      exact h1 K post σ1 c1 hk
    · obtain ⟨r27, P1, h27⟩ := d_write P r22
      obtain ⟨x71, P2, h1⟩ := ih (i + 1) (by omega) P1 r27
      refine ⟨x71, P2, fun K post σ h hk => ?_⟩
      rw [BL_text_105]
      refine pk_le 8 i (fun w => by omega) (fun _ => h22 σ h _ (fun σ1 c1 => ⟨fun w => absurd w c, fun _ => h22 σ1 c1 _ (fun σ2 c2 => h27 σ2 c2 _ (fun σ3 c3 => ?_))⟩))
      rw [nI_1]
      exact h1 K post σ3 c3 hk
theorem d_t42 (x1 x2 x4 x5 : Int32) (h4 : ¬ x4 = 0) (N : Nat) : ∀ r i, i + r = N → N < 100 → ∀ (P : Pm) (x7 : Int32), ∃ x7' P', ∀ (post : Int32 → Sg → Prop) σ, Cs σ P → (∀ σ1, Cs σ1 P' → post x7' σ1) → BL_text_42 x1 x2 post (r + 1) x4 x5 (nI N) x7 (nI i) σ := by
  intro r
  induction r with
  | zero =>
    intro i hi hN P x7
    refine ⟨x7, P, fun post σ h hk => ?_⟩
    rw [BL_text_42]
    exact pk_le N i (fun _ => hk σ h) (fun w => by omega)
  | succ r ih =>
    intro i hi hN P x7
    have fin : ∀ (P : Pm) (x7 : Int32), ∃ x7' P', ∀ (post : Int32 → Sg → Prop) σ, Cs σ P → (∀ σ1, Cs σ1 P' → post x7' σ1) → ∃ nf, BL_text_105 x1 x2 (BL_text_42 x1 x2 post (r + 1)) post nf x4 x5 (nI N) x7 (nI i) (lowV (x1 >>> (((3 : Int32) + ((3 : Int32) * nI i)) &&& 31)) x4) 5 σ := by
      intro P x7
      obtain ⟨x71, P1, h1⟩ := d_t105 x1 x2 x4 x5 (nI N) (nI i) (lowV (x1 >>> (((3 : Int32) + ((3 : Int32) * nI i)) &&& 31)) x4) 3 5 rfl P x7
      obtain ⟨x72, P2, h2⟩ := ih (i + 1) (by omega) hN P1 x71
      refine ⟨x72, P2, fun post σ h hk => ⟨_, h1 _ post σ h (fun σ1 c1 => ?_)⟩⟩
      rw [nI_1]
      exact h2 post σ1 c1 hk
    by_cases c1 : nI i ≤ 0
    · obtain ⟨x71, P1, h1⟩ := fin P x7
      refine ⟨x71, P1, fun post σ h hk => ?_⟩
      rw [BL_text_42]
      exact pk_le N i (fun w => by omega) (fun _ => q_low h4 ⟨fun _ => h1 post σ h hk, fun w => absurd c1 w⟩)
    · by_cases c2 : x5 ≤ 0
      · obtain ⟨x71, P1, h1⟩ := fin P x7
        refine ⟨x71, P1, fun post σ h hk => ?_⟩
        rw [BL_text_42]
        exact pk_le N i (fun w => by omega) (fun _ => q_low h4 ⟨fun w => absurd w c1, fun _ => ⟨fun _ => h1 post σ h hk, fun w => absurd c2 w⟩⟩)
      · by_cases c3 : lowV (x2 >>> (((20 : Int32) + nI i) &&& 31)) 9 ≤ 0
        · obtain ⟨x71, P1, h1⟩ := fin P x7
          refine ⟨x71, P1, fun post σ h hk => ?_⟩
          rw [BL_text_42]
          exact pk_le N i (fun w => by omega) (fun _ => q_low h4 ⟨fun w => absurd w c1, fun _ => ⟨fun w => absurd w c2, fun _ => q_low (by decide) ⟨fun _ => h1 post σ h hk, fun w => absurd c3 w⟩⟩⟩)
        · obtain ⟨r37, P0, h0⟩ := d_write P x5
          obtain ⟨x71, P1, h1⟩ := fin P0 r37
          refine ⟨x71, P1, fun post σ h hk => ?_⟩
          rw [BL_text_42]
          exact pk_le N i (fun w => by omega) (fun _ => q_low h4 ⟨fun w => absurd w c1, fun _ => ⟨fun w => absurd w c2, fun _ => q_low (by decide) ⟨fun w => absurd w c3, fun _ => h0 σ h _ (fun σ1 d1 => h1 post σ1 d1 hk)⟩⟩⟩)
theorem d_text (P : Pm) (x1 x2 : Int32) : ∃ r P', Dt (wpL_text x1 x2) P r P' := by
  obtain ⟨r39, P0, h39⟩ := d_wipe P
  obtain ⟨r41, h41⟩ := d_told P0 0
  obtain ⟨r43, h43⟩ := d_told P0 1
  by_cases c : r41 = 0
  · refine ⟨0, P0, fun σ h post hp => ?_⟩
    unfold wpL_text
    refine h39 σ h _ (fun σ1 c1 => h41 σ1 c1 _ (fun σ2 c2 => h43 σ2 c2 _ (fun σ3 c3 => ⟨fun w => absurd c w, fun _ => ⟨1, ?_⟩⟩)))
    rw [BL_text_42]
    exact ⟨fun _ => hp σ3 c3, fun w => absurd (by decide) w⟩
  · obtain ⟨N, hN, eN⟩ := lowV_N x1 (d := 6) (by decide) (by decide)
    obtain ⟨r1, P1, h1⟩ := d_t42 x1 x2 r41 r43 c N N 0 (by omega) (by omega) P0 0
    refine ⟨r1, P1, fun σ h post hp => ?_⟩
    unfold wpL_text
    refine h39 σ h _ (fun σ1 c1 => h41 σ1 c1 _ (fun σ2 c2 => h43 σ2 c2 _ (fun σ3 c3 => ⟨fun _ => q_low (by decide) ⟨N + 1, ?_⟩, fun w => absurd w c⟩)))
    rw [show lowV x1 6 = nI N from eN]
    exact h1 post σ3 c3 hp
