/-! the beginning, and every run of calls -/
theorem R_0 : R s_0 := by
  have hi : ∀ k j, k ≠ 97 → s_0.1 k j = 0 := fun k j hk => if_neg hk
  have hr : ∀ k j, k ≠ 15 → k ≠ 88 → s_0.2.2 k j = k + 2 + j := fun k j h1 h2 => by
    show (if k = 15 then 16 + 9 * j else if k = 88 then 99 + 9 * j else k + 2 + j) = _
    rw [if_neg h1, if_neg h2]
  have hr15 : ∀ j, s_0.2.2 15 j = 16 + 9 * j := fun j => by
    show (if 15 = 15 then 16 + 9 * j else if 15 = 88 then 99 + 9 * j else 15 + 2 + j) = _
    rw [if_pos rfl]
  have hr88 : ∀ j, s_0.2.2 88 j = 99 + 9 * j := fun j => rfl
  have hwf : wfA (fun _ => 0) := ⟨Nat.zero_le _, Or.inl rfl, fun _ => Nat.zero_le _, fun m hm => absurd hm (Nat.not_lt_zero m)⟩
  have hwt : wfT (fun _ => 32) 0 := ⟨Nat.zero_le _, fun _ => ⟨Nat.le_refl 32, (by decide : 32 ≤ 126)⟩⟩
  refine ⟨fun _ => 0, fun _ => 32, 0, 0, fun _ _ => 0, fun _ => false, fun _ _ => 0, ⟨⟨hwf, hwt, ⟨hi 5 2 (by decide), hi 5 3 (by decide), fun m hm => absurd hm (Nat.not_lt_zero m)⟩, ⟨hi 1 1 (by decide), fun j hj => absurd hj (Nat.not_lt_zero j)⟩, fun m hm => ?_⟩, fun i j _ _ w => ?_, hwf, hwt, fun k _ => hi 118 k (by decide), hi 117 6 (by decide), fun j hj => absurd hj (Nat.not_lt_zero j)⟩, ⟨fun z => absurd (hi 90 7 (by decide)) z, fun L hL z => ?_, fun z => absurd (hi 117 10 (by decide)) z⟩, ⟨by decide, hi 14 1 (by decide), hi 117 2 (by decide), fun j hj => ⟨j, hj, hr15 j⟩, fun i j _ _ w => ?_, fun i m hi2 _ => ?_, fun j hj => absurd hj (Nat.not_lt_zero j)⟩, ⟨hr88 0, hr88 1, fun i m hi2 _ => ?_, fun i _ => hi 89 i (by decide), ?_, fun i _ hk => by cases hk⟩⟩
  · rw [hr 6 m (by decide) (by decide)]; omega
  · rw [hr 6 i (by decide) (by decide), hr 6 j (by decide) (by decide)] at w; omega
  · exact absurd z (kl_ne2 hL)
  · rw [hr15, hr15] at w; omega
  · rw [hr (17 + 9 * i) m (by omega) (by omega)]; omega
  · rw [hr (100 + 9 * i) m (by omega) (by omega)]; omega
  · rw [hi 117 4 (by decide)]; rfl
theorem law_pure {L : Nat} (hL : L ≤ 2048) (xs : Nat → Int32) : ∃ nf, BL_law_18 L xs (fun r _ => r = 1) nf 0 s_0 := by
  have key : ∀ r i σ, 4 * i ≤ 2048 → L ≤ 4 * (i + r) → R σ → BL_law_18 L xs (fun r _ => r = 1) (r + 1) (nI (4 * i)) σ := by
    intro r
    induction r with
    | zero =>
      intro i σ hi4 hi _
      rw [BL_law_18]
      rcases Nat.lt_or_ge L 4 with q | q
      · refine ⟨fun _ => rfl, fun w => absurd ?_ w⟩
        rw [Int32.lt_iff_toInt_lt, nI_toInt (show 4 * i < 2 ^ 31 by omega), show (nI L - (4 : Int32)).toInt = (L : Int) - 4 from pk_sub_toInt (b := 4) (by omega) (by decide)]
        omega
      · rw [show nI L - (4 : Int32) = nI (L - 4) from pk_sub (b := 4) q]
        exact pk_lt (L - 4) (4 * i) (fun _ => rfl) (fun c => by omega)
    | succ r ih =>
      intro i σ hi4 hi h
      rw [BL_law_18]
      rcases Nat.lt_or_ge L (4 * i + 4) with q | q
      · refine ⟨fun _ => rfl, fun w => absurd ?_ w⟩
        rw [Int32.lt_iff_toInt_lt, nI_toInt (show 4 * i < 2 ^ 31 by omega), show (nI L - (4 : Int32)).toInt = (L : Int) - 4 from pk_sub_toInt (b := 4) (by omega) (by decide)]
        omega
      refine ⟨fun _ => rfl, fun _ => ⟨pk_in (4 * i) L (by omega), ?_⟩⟩
      have nx : ∀ σ1, R σ1 → BL_law_18 L xs (fun r _ => r = 1) (r + 1) (nI (4 * i) + 4) σ1 := fun σ1 h1 => by
        rw [show nI (4 * i) + (4 : Int32) = nI (4 * (i + 1)) from nI_add (4 * i) 4]
        exact ih (i + 1) σ1 (by omega) (by omega) h1
      have v1 : vp_in (nI (4 * i) + (1 : Int32)) L := by rw [nI_1]; exact pk_in (4 * i + 1) L (by omega)
      have v2 : vp_in (nI (4 * i) + (2 : Int32)) L := by rw [show nI (4 * i) + (2 : Int32) = nI (4 * i + 2) from nI_add _ 2]; exact pk_in (4 * i + 2) L (by omega)
      have v3 : vp_in (nI (4 * i) + (3 : Int32)) L := by rw [show nI (4 * i) + (3 : Int32) = nI (4 * i + 3) from nI_add _ 3]; exact pk_in (4 * i + 3) L (by omega)
      refine ⟨fun _ => nx σ h, fun _ => ?_, fun _ => ?_, fun _ => ?_, fun _ => ?_, fun _ => ?_, fun _ => ?_, fun _ => ?_, fun _ => ?_, fun _ => ?_, fun _ => ?_, fun _ => ?_, fun _ => ?_, fun _ => ?_, fun _ => ?_, fun _ => ?_, fun _ => ?_, fun _ => ?_, fun _ => ?_, fun _ => ?_, fun _ => ?_, fun _ => ?_, fun _ => ?_⟩
      · exact ⟨v1, op_write h _ (fun r σ1 h7 => ⟨v1, h7 _ (fun σ2 h2 => ⟨fun _ => nx σ2 h2, fun w => absurd rfl w⟩)⟩)⟩
      · exact op_wipe h (fun r σ1 h7 => h7 _ (fun σ2 h2 => ⟨fun _ => nx σ2 h2, fun w => absurd rfl w⟩))
      · exact ⟨v1, v2, v3, op_declare h _ _ _ (fun r σ1 h7 => ⟨v1, v2, v3, h7 _ (fun σ2 h2 => ⟨fun _ => nx σ2 h2, fun w => absurd rfl w⟩)⟩)⟩
      · exact ⟨v1, op_remove h _ (fun r σ1 h7 => ⟨v1, h7 _ (fun σ2 h2 => ⟨fun _ => nx σ2 h2, fun w => absurd rfl w⟩)⟩)⟩
      · exact ⟨v1, v2, v3, op_set h _ _ _ (fun r σ1 h7 => ⟨v1, v2, v3, h7 _ (fun σ2 h2 => ⟨fun _ => nx σ2 h2, fun w => absurd rfl w⟩)⟩)⟩
      · exact ⟨v1, v2, op_move h _ _ (fun r σ1 h7 => ⟨v1, v2, h7 _ (fun σ2 h2 => ⟨fun _ => nx σ2 h2, fun w => absurd rfl w⟩)⟩)⟩
      · exact ⟨v1, op_setSeparator h _ (fun r σ1 h7 => ⟨v1, h7 _ (fun σ2 h2 => ⟨fun _ => nx σ2 h2, fun w => absurd rfl w⟩)⟩)⟩
      · exact ⟨v1, v2, v3, op_rule h _ _ _ (fun r σ1 h7 => ⟨v1, v2, v3, h7 _ (fun σ2 h2 => ⟨fun _ => nx σ2 h2, fun w => absurd rfl w⟩)⟩)⟩
      · exact op_undo h (fun r σ1 h7 => h7 _ (fun σ2 h2 => ⟨fun _ => nx σ2 h2, fun w => absurd rfl w⟩))
      · exact ⟨v1, op_told h _ (fun r σ1 h7 => ⟨v1, h7 _ (fun σ2 h2 => ⟨fun _ => nx σ2 h2, fun w => absurd rfl w⟩)⟩)⟩
      · exact ⟨v1, v2, op_member h _ _ (fun r σ1 h7 => ⟨v1, v2, h7 _ (fun σ2 h2 => ⟨fun _ => nx σ2 h2, fun w => absurd rfl w⟩)⟩)⟩
      · exact op_fault h (fun r σ1 h7 => h7 _ (fun σ2 h2 => ⟨fun _ => nx σ2 h2, fun w => absurd rfl w⟩))
      · exact op_readings h (fun r σ1 h7 => h7 _ (fun σ2 h2 => ⟨fun _ => nx σ2 h2, fun w => absurd rfl w⟩))
      · exact ⟨v1, v2, op_occurrence h _ _ (fun r σ1 h7 => ⟨v1, v2, h7 _ (fun σ2 h2 => ⟨fun _ => nx σ2 h2, fun w => absurd rfl w⟩)⟩)⟩
      · exact ⟨v1, v2, op_value h _ _ (fun r σ1 h7 => ⟨v1, v2, h7 _ (fun σ2 h2 => ⟨fun _ => nx σ2 h2, fun w => absurd rfl w⟩)⟩)⟩
      · exact op_next h (fun r σ1 h7 => h7 _ (fun σ2 h2 => ⟨fun _ => nx σ2 h2, fun w => absurd rfl w⟩))
      · exact ⟨v1, op_normal h _ (fun r σ1 h7 => ⟨v1, h7 _ (fun σ2 h2 => ⟨fun _ => nx σ2 h2, fun w => absurd rfl w⟩)⟩)⟩
      · exact ⟨v1, op_orders h _ (fun r σ1 h7 => ⟨v1, h7 _ (fun σ2 h2 => ⟨fun _ => nx σ2 h2, fun w => absurd ((lg_cmp_eq _ _).mpr rfl) w⟩)⟩)⟩
      · exact ⟨v1, v2, v3, op_order h _ _ (fun r σ1 h7 => ⟨v1, v2, v3, h7 _ (fun σ2 h2 => ⟨fun _ => nx σ2 h2, fun w => absurd rfl w⟩)⟩)⟩
      · exact op_rank h (fun r σ1 h7 => h7 _ (fun σ2 h2 => ⟨fun _ => nx σ2 h2, fun w => absurd ((lg_cmp_eq _ _).mpr rfl) w⟩))
      · exact ⟨v1, op_keep h _ (fun r σ1 h7 => ⟨v1, h7 _ (fun σ2 h2 => ⟨fun _ => nx σ2 h2, fun w => absurd rfl w⟩)⟩)⟩
      · exact ⟨v1, op_back h _ (fun r σ1 h7 => ⟨v1, h7 _ (fun σ2 h2 => ⟨fun _ => nx σ2 h2, fun w => absurd rfl w⟩)⟩)⟩
  exact ⟨_, key L 0 s_0 (by omega) (by omega) R_0⟩
