section M4
variable {p : Program} {l : Launch} {e : Env} {R : Room} {s : State} {m : MethodId} {args : Array Value} {below : List Frame} {meth : Method} {c : Code} {H0 : Heap} {cells slots : Nat} {Q : State → Prop} {G : s_G}
/-! X5_exists -/
abbrev rm_X5_exists : Room := { frames := 1, cells := 0, slots := 0, locals := 21 }
def wpX5_exists  (σ : Sg) (post : Int32 → Sg → Prop) : Prop := wpX5_waysFrom ((0 : Int32)) σ (fun r2 σ1 => ((((lg_cmp r2 (0 : Int64)) ≤ 0) → post (0 : Int32) σ1) ∧ ((¬ (lg_cmp r2 (0 : Int64)) ≤ 0) → post (1 : Int32) σ1)))
theorem kM_X5_exists : s_M yX5_exists cX5_exists 1 (some .boolean) 0 := ⟨co_X5_exists, in_X5, by decide, by decide, by decide +kernel⟩
set_option maxHeartbeats 4000000 in
set_option maxRecDepth 100000 in
theorem c_X5_exists (l : Launch) (G : s_G)  (σ : Sg) (post : Int32 → Sg → Prop) (h : wpX5_exists σ post) : Met l yX5_exists (wsU yX5_exists cX5_exists 1 (some .boolean)) rm_X5_exists (va_Pc [.ref (G.2.2 + 90)] (s_Pre G σ)) (va_Qi post (s_B G) (s_A G.2.2)) 0 0 (s_A G.2.2) := by
  refine Met.ofW (cc := cX5_exists) (maxL := 1) (ret := (some .boolean)) (by decide) rfl ?_
  intro p e s m args below meth c s₁ B hml hv
  obtain ⟨rfl, hP, hrok, hK, hN⟩ := hv
  have C : s_C G p s (([.ref (G.2.2 + 90)] : List Value).toArray) m c RX5 cX5_exists := ⟨B.exec, B.bytes, findClass_of_methodNamed B.named, fun w hw => atoms_spec (ws := wsU yX5_exists cX5_exists 1 (some .boolean)) B.pre w (List.mem_cons_of_mem _ hw), hK, hN⟩
  have hr := B.returns
  have hlocks := B.notSynchronized
  have S : s_St G σ s.heap s.heap [] := ⟨hP, va_S.rf, hrok⟩
  have hcs : 0 ≤ (rm_X5_exists).cells ∧ 0 ≤ (rm_X5_exists).slots := ⟨Nat.le_refl 0, Nat.le_refl 0⟩
  have hR : ∀ (r : Int32) (σ1 : Sg) (H : Heap) (locs : List Loc) (pc : Nat) (ls : Array Slot), decode cX5_exists pc = .ok (.ireturn, 1) → narrow .boolean (.int r) = .int r → post r σ1 → s_St G σ1 s.heap H locs → W p l e rm_X5_exists s m ([.ref (G.2.2 + 90)] : List Value).toArray below meth c H locs 0 0 (MQ below (va_Qi post (s_B G) (s_A G.2.2)) ([.ref (G.2.2 + 90)] : List Value).toArray s 0 0 (s_A G.2.2)) (F0 m pc ls [.int r]) := fun _ _ _ _ _ _ hd hn hp S => ret_z C hr hlocks hd hn hp S
  have hl := lv_entry ([.ref (G.2.2 + 90)]) (n := 1) (Nat.le_of_ble_eq_true rfl)
  rw [lg_entry_eq]
  generalize (lg_sl ([.ref (G.2.2 + 90)]) ++ List.replicate (1 - (lg_sl ([.ref (G.2.2 + 90)])).length) Slot.unset).toArray = ls at hl ⊢
  have hl : lv_has ls 1 [(0, .ref (G.2.2 + 90))] := hl
  unfold wpX5_exists at h
  refine lv_aload_n C.1 C.2.1 dX5_exists_0 rfl (lv_at hl 0 rfl) ?_
  refine lv_iconst (v := (0 : Int32)) C.1 C.2.1 dX5_exists_1 (by decide) ?_
  refine k_l (r_V (As := [.int (0 : Int32)]) (rest := []) C hml (c_X5_waysFrom l G ((0 : Int32)) σ _ h) kM_X5_waysFrom im_X5_waysFrom se_X5_waysFrom ml_X5_45 ⟨rfl, rfl⟩ ⟨Nat.le_of_ble_eq_true rfl, Nat.le_of_ble_eq_true rfl⟩ hcs S kd_90 (by decide) (T := TX5) (N := 8) rfl rfl hl.1 rfl (Nat.le_of_ble_eq_true rfl) dX5_exists_2) S (fun r2 σ1 H locs h S => ?_)
  refine lv_lconst (v := (0 : Int64)) C.1 C.2.1 dX5_exists_5 (by decide) ?_
  refine W.lcmp C.1 C.2.1 dX5_exists_6 ?_
  refine lv_if_le (tgt := 14) C.1 C.2.1 dX5_exists_7 (by decide) (fun c3 => ?_) (fun c3 => ?_)
  · replace h := h.1 c3
    refine lv_iconst (v := (0 : Int32)) C.1 C.2.1 dX5_exists_14 (by decide) ?_
    exact hR _ _ _ _ _ _ dX5_exists_15 rfl h S
  · replace h := h.2 c3
    refine lv_iconst (v := (1 : Int32)) C.1 C.2.1 dX5_exists_10 (by decide) ?_
    refine lv_goto (tgt := 15) C.1 C.2.1 dX5_exists_11 (by decide) ?_
    exact hR _ _ _ _ _ _ dX5_exists_15 rfl h S
/-! X5_startBehind -/
abbrev rm_X5_startBehind : Room := { frames := 1, cells := 0, slots := 0, locals := 21 }
def wpX5_startBehind (x1 : Int32) (σ : Sg) (post : Int32 → Sg → Prop) : Prop := wpX5_endOf x1 σ (fun r2 σ1 => (((x1 = 0) → post r2 σ1) ∧ ((¬ x1 = 0) → (((¬ (σ1.1 5 3) = 0) → wpX0_at 1 r2 σ1 (fun r6 σ5 => (((¬ r6 = (σ5.1 5 3)) → post ((-9 : Int32)) σ5) ∧ ((r6 = (σ5.1 5 3)) → post ((r2 + (1 : Int32))) σ5)))) ∧ (((σ1.1 5 3) = 0) → post r2 σ1)))))
theorem kM_X5_startBehind : s_M yX5_startBehind cX5_startBehind 5 (some .int) 3 := ⟨co_X5_startBehind, in_X5, by decide, by decide, by decide +kernel⟩
set_option maxHeartbeats 4000000 in
set_option maxRecDepth 100000 in
theorem c_X5_startBehind (l : Launch) (G : s_G) (x1 : Int32) (σ : Sg) (post : Int32 → Sg → Prop) (h : wpX5_startBehind x1 σ post) : Met l yX5_startBehind (wsU yX5_startBehind cX5_startBehind 5 (some .int)) rm_X5_startBehind (va_Pc [.ref (G.2.2 + 90), .int x1, .ref (G.2.2 + 5), .ref (G.2.2 + 1)] (s_Pre G σ)) (va_Qi post (s_B G) (s_A G.2.2)) 0 0 (s_A G.2.2) := by
  refine Met.ofW (cc := cX5_startBehind) (maxL := 5) (ret := (some .int)) (by decide) rfl ?_
  intro p e s m args below meth c s₁ B hml hv
  obtain ⟨rfl, hP, hrok, hK, hN⟩ := hv
  have C : s_C G p s (([.ref (G.2.2 + 90), .int x1, .ref (G.2.2 + 5), .ref (G.2.2 + 1)] : List Value).toArray) m c RX5 cX5_startBehind := ⟨B.exec, B.bytes, findClass_of_methodNamed B.named, fun w hw => atoms_spec (ws := wsU yX5_startBehind cX5_startBehind 5 (some .int)) B.pre w (List.mem_cons_of_mem _ hw), hK, hN⟩
  have hr := B.returns
  have hlocks := B.notSynchronized
  have S : s_St G σ s.heap s.heap [] := ⟨hP, va_S.rf, hrok⟩
  have hcs : 0 ≤ (rm_X5_startBehind).cells ∧ 0 ≤ (rm_X5_startBehind).slots := ⟨Nat.le_refl 0, Nat.le_refl 0⟩
  have hR : ∀ (r : Int32) (σ1 : Sg) (H : Heap) (locs : List Loc) (pc : Nat) (ls : Array Slot), decode cX5_startBehind pc = .ok (.ireturn, 1) → post r σ1 → s_St G σ1 s.heap H locs → W p l e rm_X5_startBehind s m ([.ref (G.2.2 + 90), .int x1, .ref (G.2.2 + 5), .ref (G.2.2 + 1)] : List Value).toArray below meth c H locs 0 0 (MQ below (va_Qi post (s_B G) (s_A G.2.2)) ([.ref (G.2.2 + 90), .int x1, .ref (G.2.2 + 5), .ref (G.2.2 + 1)] : List Value).toArray s 0 0 (s_A G.2.2)) (F0 m pc ls [.int r]) := fun _ _ _ _ _ _ hd hp S => ret_i C hr hlocks hd hp S
  have hl := lv_entry ([.ref (G.2.2 + 90), .int x1, .ref (G.2.2 + 5), .ref (G.2.2 + 1)]) (n := 5) (Nat.le_of_ble_eq_true rfl)
  rw [lg_entry_eq]
  generalize (lg_sl ([.ref (G.2.2 + 90), .int x1, .ref (G.2.2 + 5), .ref (G.2.2 + 1)]) ++ List.replicate (5 - (lg_sl ([.ref (G.2.2 + 90), .int x1, .ref (G.2.2 + 5), .ref (G.2.2 + 1)])).length) Slot.unset).toArray = ls at hl ⊢
  have hl : lv_has ls 5 [(0, .ref (G.2.2 + 90)), (1, .int x1), (2, .ref (G.2.2 + 5)), (3, .ref (G.2.2 + 1))] := hl
  unfold wpX5_startBehind at h
  refine lv_aload_n C.1 C.2.1 dX5_startBehind_0 rfl (lv_at hl 0 rfl) ?_
  refine lv_iload_n C.1 C.2.1 dX5_startBehind_1 rfl (lv_at hl 1 rfl) ?_
  refine k_i (r_V (As := [.int x1]) (rest := []) C hml (c_X5_endOf l G x1 σ _ h) kM_X5_endOf im_X5_endOf se_X5_endOf ml_X5_59 ⟨rfl, rfl⟩ ⟨Nat.le_of_ble_eq_true rfl, Nat.le_of_ble_eq_true rfl⟩ hcs S kd_90 (by decide) (T := TX5) (N := 8) rfl rfl hl.1 rfl (Nat.le_of_ble_eq_true rfl) dX5_startBehind_2) S (fun r2 σ1 H locs h S => ?_)
  refine lv_istore (lv' := [(4, .int r2), (0, .ref (G.2.2 + 90)), (1, .int x1), (2, .ref (G.2.2 + 5)), (3, .ref (G.2.2 + 1))]) C.1 C.2.1 dX5_startBehind_5 hl (by decide) rfl (fun ls hl => ?_)
  refine lv_iload_n C.1 C.2.1 dX5_startBehind_7 rfl (lv_at hl 2 rfl) ?_
  refine lv_if_eq (tgt := 18) C.1 C.2.1 dX5_startBehind_8 (by decide) (fun c3 => ?_) (fun c3 => ?_)
  · replace h := h.1 c3
    refine lv_iload C.1 C.2.1 dX5_startBehind_18 (lv_at hl 0 rfl) ?_
    exact hR _ _ _ _ _ _ dX5_startBehind_20 h S
  · replace h := h.2 c3
    refine lv_aload_n C.1 C.2.1 dX5_startBehind_11 rfl (lv_at hl 3 rfl) ?_
    refine gn_X1_3 C nf_X5_90 kd_5 S dX5_startBehind_12 ?_
    refine lv_if_ne (tgt := 21) C.1 C.2.1 dX5_startBehind_15 (by decide) (fun c4 => ?_) (fun c4 => ?_)
    · replace h := h.1 c4
      refine lv_aload_n C.1 C.2.1 dX5_startBehind_21 rfl (lv_at hl 4 rfl) ?_
      refine lv_iload C.1 C.2.1 dX5_startBehind_22 (lv_at hl 0 rfl) ?_
      refine k_i (r_VN (As := [.int r2]) (rest := []) C hml (c_X0_at l G 1 r2 σ1 _ kd_1 h) kM_X0_at im_X0_at se_X0_at nm_X5_93 ⟨rfl, rfl⟩ ⟨Nat.le_of_ble_eq_true rfl, Nat.le_of_ble_eq_true rfl⟩ hcs S kd_1 (by decide) (T := TX0) (N := 2) rfl rfl hl.1 rfl (Nat.le_of_ble_eq_true rfl) dX5_startBehind_24) S (fun r6 σ5 H locs h S => ?_)
      refine lv_aload_n C.1 C.2.1 dX5_startBehind_27 rfl (lv_at hl 3 rfl) ?_
      refine gn_X1_3 C nf_X5_90 kd_5 S dX5_startBehind_28 ?_
      refine lv_icmp_ne (tgt := 41) C.1 C.2.1 dX5_startBehind_31 (by decide) (fun c7 => ?_) (fun c7 => ?_)
      · replace h := h.1 c7
        refine lv_bipush (v := (-9 : Int32)) C.1 C.2.1 dX5_startBehind_41 (by decide) ?_
        exact hR _ _ _ _ _ _ dX5_startBehind_43 h S
      · replace h := h.2 c7
        refine lv_iload C.1 C.2.1 dX5_startBehind_34 (lv_at hl 0 rfl) ?_
        refine lv_iconst (v := (1 : Int32)) C.1 C.2.1 dX5_startBehind_36 (by decide) ?_
        refine lv_iadd C.1 C.2.1 dX5_startBehind_37 ?_
        refine lv_goto (tgt := 43) C.1 C.2.1 dX5_startBehind_38 (by decide) ?_
        exact hR _ _ _ _ _ _ dX5_startBehind_43 h S
    · replace h := h.2 c4
      refine lv_iload C.1 C.2.1 dX5_startBehind_18 (lv_at hl 0 rfl) ?_
      exact hR _ _ _ _ _ _ dX5_startBehind_20 h S
/-! X5_farthestBehind -/
abbrev rm_X5_farthestBehind : Room := { frames := 3, cells := 0, slots := 0, locals := 68 }
def BX5_farthestBehind_39 (x1 : Int32) (post : Int32 → Sg → Prop) : Nat → Int32 → Int32 → Int32 → Int32 → Sg → Prop
  | 0, _, _, _, _, _ => False
  | n + 1, x4, x5, x6, x7, σ => ((((σ.1 5 2) ≤ x7) → post x6 σ) ∧ ((¬ (σ.1 5 2) ≤ x7) → wpX6_bitOf x4 x7 σ (fun r3 σ2 => (((¬ r3 = (1 : Int32)) → BX5_farthestBehind_39 x1 post n x4 x5 x6 ((x7 + 1)) σ2) ∧ ((r3 = (1 : Int32)) → wpX1_at 5 x7 σ2 (fun q6 σ5 => s_kd q6 = 3 → wpX0_lettersMatched 1 q6 x5 σ5 (fun r8 σ7 => BX5_farthestBehind_39 x1 post n x4 x5 ((if x6 < (x5 + r8) then (x5 + r8) else x6)) ((x7 + 1)) σ7)))))))
def wpX5_farthestBehind (x1 : Int32) (σ : Sg) (post : Int32 → Sg → Prop) : Prop := wpX1_followers 5 x1 σ (fun r10 σ9 => wpX5_startBehind x1 σ9 (fun r12 σ11 => (((r10 = 0) → wpX5_endOf x1 σ11 (fun r15 σ14 => post r15 σ14)) ∧ ((¬ r10 = 0) → (((0 ≤ r12) → ∃ nf, BX5_farthestBehind_39 x1 post nf r10 r12 r12 ((0 : Int32)) σ11) ∧ ((¬ 0 ≤ r12) → wpX5_endOf x1 σ11 (fun r18 σ17 => post r18 σ17)))))))
set_option maxHeartbeats 4000000 in
set_option maxRecDepth 100000 in
theorem TX5_farthestBehind_39 (C : s_C G p s args m c RX5 cX5_farthestBehind) (hml : c.maxLocals = 8) (hcs : cells ≤ (rm_X5_farthestBehind).cells ∧ slots ≤ (rm_X5_farthestBehind).slots) {x1 : Int32} {post : Int32 → Sg → Prop} (hR : ∀ (r : Int32) (σ1 : Sg) (H : Heap) (locs : List Loc) (pc : Nat) (ls : Array Slot), decode cX5_farthestBehind pc = .ok (.ireturn, 1) → post r σ1 → s_St G σ1 H0 H locs → W p l e rm_X5_farthestBehind s m args below meth c H locs cells slots Q (F0 m pc ls [.int r])) : ∀ (n : Nat) (x4 : Int32) (x5 : Int32) (x6 : Int32) (x7 : Int32), ∀ {σ : Sg} {H : Heap} {locs : List Loc} {ls : Array Slot}, s_St G σ H0 H locs → lv_has ls 8 [(2, .ref (G.2.2 + 5)), (3, .ref (G.2.2 + 1)), (4, .int x4), (5, .int x5), (6, .int x6), (7, .int x7)] → BX5_farthestBehind_39 x1 post n x4 x5 x6 x7 σ → W p l e rm_X5_farthestBehind s m args below meth c H locs cells slots Q (F0 m 39 ls []) := by
  intro n
  induction n with
  | zero =>
    intro x4 x5 x6 x7  σ H locs ls S hl h
    exact absurd h (fun h => h)
  | succ n ih0 =>
    have ih : ∀ (x4 : Int32) (x5 : Int32) (x6 : Int32) (x7 : Int32), ∀ (σ : Sg) (H : Heap) (locs : List Loc) (ls : Array Slot), s_St G σ H0 H locs → lv_has ls 8 [(2, .ref (G.2.2 + 5)), (3, .ref (G.2.2 + 1)), (4, .int x4), (5, .int x5), (6, .int x6), (7, .int x7)] → BX5_farthestBehind_39 x1 post n x4 x5 x6 x7 σ → W p l e rm_X5_farthestBehind s m args below meth c H locs cells slots Q (F0 m 39 ls []) := fun x4 x5 x6 x7  _ _ _ _ => ih0 x4 x5 x6 x7 
    intro x4 x5 x6 x7  σ H locs ls S hl h
    refine lv_iload C.1 C.2.1 dX5_farthestBehind_39 (lv_at hl 5 rfl) ?_
    refine lv_aload_n C.1 C.2.1 dX5_farthestBehind_41 rfl (lv_at hl 0 rfl) ?_
    refine gn_X1_2 C nf_X5_73 kd_5 S dX5_farthestBehind_42 ?_
    refine lv_icmp_ge (tgt := 87) C.1 C.2.1 dX5_farthestBehind_45 (by decide) (fun c1 => ?_) (fun c1 => ?_)
    · replace h := h.1 c1
      refine lv_iload C.1 C.2.1 dX5_farthestBehind_87 (lv_at hl 4 rfl) ?_
      exact hR _ _ _ _ _ _ dX5_farthestBehind_89 h S
    · replace h := h.2 c1
      refine lv_iload C.1 C.2.1 dX5_farthestBehind_48 (lv_at hl 2 rfl) ?_
      refine lv_iload C.1 C.2.1 dX5_farthestBehind_50 (lv_at hl 5 rfl) ?_
      refine k_i (r_SN (As := [.int x4, .int x7]) (rest := []) C hml (c_X6_bitOf l G x4 x7 σ _ h) kM_X6_bitOf st_X6_bitOf nm_X5_74 ⟨rfl, rfl⟩ ⟨Nat.le_of_ble_eq_true rfl, Nat.le_of_ble_eq_true rfl⟩ hcs S rfl hl.1 rfl (Nat.le_of_ble_eq_true rfl) dX5_farthestBehind_52) S (fun r3 σ2 H locs h S => ?_)
      refine lv_iconst (v := (1 : Int32)) C.1 C.2.1 dX5_farthestBehind_55 (by decide) ?_
      refine lv_icmp_ne (tgt := 81) C.1 C.2.1 dX5_farthestBehind_56 (by decide) (fun c4 => ?_) (fun c4 => ?_)
      · replace h := h.1 c4
        refine lv_iinc (v := (x7 + 1)) (lv' := [(7, .int (x7 + 1)), (2, .ref (G.2.2 + 5)), (3, .ref (G.2.2 + 1)), (4, .int x4), (5, .int x5), (6, .int x6)]) C.1 C.2.1 dX5_farthestBehind_81 hl (k := 5) rfl rfl (by decide) rfl (fun ls hl => ?_)
        refine lv_goto (tgt := 39) C.1 C.2.1 dX5_farthestBehind_84 (by decide) ?_
        exact ih x4 x5 x6 ((x7 + 1)) _ _ _ _ S (lv_sub hl [1, 2, 3, 4, 5, 0] rfl) h
      · replace h := h.2 c4
        refine lv_iload C.1 C.2.1 dX5_farthestBehind_59 (lv_at hl 4 rfl) ?_
        refine lv_iload C.1 C.2.1 dX5_farthestBehind_61 (lv_at hl 3 rfl) ?_
        refine lv_aload_n C.1 C.2.1 dX5_farthestBehind_63 rfl (lv_at hl 1 rfl) ?_
        refine lv_aload_n C.1 C.2.1 dX5_farthestBehind_64 rfl (lv_at hl 0 rfl) ?_
        refine lv_iload C.1 C.2.1 dX5_farthestBehind_65 (lv_at hl 5 rfl) ?_
        refine k_r (kd := 3) (r_VN (As := [.int x7]) (rest := [.ref (G.2.2 + 1), .int x5, .int x6]) C hml (c_X1_at l G 5 x7 σ2 _ kd_5 h) kM_X1_at im_X1_at se_X1_at nm_X5_78 ⟨rfl, rfl⟩ ⟨Nat.le_of_ble_eq_true rfl, Nat.le_of_ble_eq_true rfl⟩ hcs S kd_5 (by decide) (T := TX1) (N := 4) rfl rfl hl.1 rfl (Nat.le_of_ble_eq_true rfl) dX5_farthestBehind_67) S (fun q6 σ5 H locs hq6 h S => ?_)
        replace h := h hq6
        refine lv_iload C.1 C.2.1 dX5_farthestBehind_70 (lv_at hl 3 rfl) ?_
        refine k_i (r_VN (As := [.ref (G.2.2 + q6), .int x5]) (rest := [.int x5, .int x6]) C hml (c_X0_lettersMatched l G 1 q6 x5 σ5 _ kd_1 hq6 h) kM_X0_lettersMatched im_X0_lettersMatched se_X0_lettersMatched nm_X5_128 ⟨rfl, rfl⟩ ⟨Nat.le_of_ble_eq_true rfl, Nat.le_of_ble_eq_true rfl⟩ hcs S kd_1 (by decide) (T := TX0) (N := 2) rfl rfl hl.1 rfl (Nat.le_of_ble_eq_true rfl) dX5_farthestBehind_72) S (fun r8 σ7 H locs h S => ?_)
        refine lv_iadd C.1 C.2.1 dX5_farthestBehind_75 ?_
        refine va_mmax C.1 C.2.1 (hml.trans hl.1.symm) C.2.2.1 (C.2.2.2.1 _ ml_X5_125) (C.2.2.2.1 _ st_max) (C.2.2.2.1 _ in_math) (C.2.2.2.1 _ co_max) (Nat.le_of_ble_eq_true rfl) (Nat.le_of_ble_eq_true rfl) hcs.1 hcs.2 dX5_farthestBehind_76 ?_
        refine lv_istore (lv' := [(6, .int (if x6 < (x5 + r8) then (x5 + r8) else x6)), (2, .ref (G.2.2 + 5)), (3, .ref (G.2.2 + 1)), (4, .int x4), (5, .int x5), (7, .int x7)]) C.1 C.2.1 dX5_farthestBehind_79 hl (by decide) rfl (fun ls hl => ?_)
        refine lv_iinc (v := (x7 + 1)) (lv' := [(7, .int (x7 + 1)), (6, .int (if x6 < (x5 + r8) then (x5 + r8) else x6)), (2, .ref (G.2.2 + 5)), (3, .ref (G.2.2 + 1)), (4, .int x4), (5, .int x5)]) C.1 C.2.1 dX5_farthestBehind_81 hl (k := 5) rfl rfl (by decide) rfl (fun ls hl => ?_)
        refine lv_goto (tgt := 39) C.1 C.2.1 dX5_farthestBehind_84 (by decide) ?_
        exact ih x4 x5 ((if x6 < (x5 + r8) then (x5 + r8) else x6)) ((x7 + 1)) _ _ _ _ S (lv_sub hl [2, 3, 4, 5, 1, 0] rfl) h
theorem kM_X5_farthestBehind : s_M yX5_farthestBehind cX5_farthestBehind 8 (some .int) 3 := ⟨co_X5_farthestBehind, in_X5, by decide, by decide, by decide +kernel⟩
set_option maxHeartbeats 4000000 in
set_option maxRecDepth 100000 in
theorem c_X5_farthestBehind (l : Launch) (G : s_G) (x1 : Int32) (σ : Sg) (post : Int32 → Sg → Prop) (h : wpX5_farthestBehind x1 σ post) : Met l yX5_farthestBehind (wsU yX5_farthestBehind cX5_farthestBehind 8 (some .int)) rm_X5_farthestBehind (va_Pc [.ref (G.2.2 + 90), .int x1, .ref (G.2.2 + 5), .ref (G.2.2 + 1)] (s_Pre G σ)) (va_Qi post (s_B G) (s_A G.2.2)) 0 0 (s_A G.2.2) := by
  refine Met.ofW (cc := cX5_farthestBehind) (maxL := 8) (ret := (some .int)) (by decide) rfl ?_
  intro p e s m args below meth c s₁ B hml hv
  obtain ⟨rfl, hP, hrok, hK, hN⟩ := hv
  have C : s_C G p s (([.ref (G.2.2 + 90), .int x1, .ref (G.2.2 + 5), .ref (G.2.2 + 1)] : List Value).toArray) m c RX5 cX5_farthestBehind := ⟨B.exec, B.bytes, findClass_of_methodNamed B.named, fun w hw => atoms_spec (ws := wsU yX5_farthestBehind cX5_farthestBehind 8 (some .int)) B.pre w (List.mem_cons_of_mem _ hw), hK, hN⟩
  have hr := B.returns
  have hlocks := B.notSynchronized
  have S : s_St G σ s.heap s.heap [] := ⟨hP, va_S.rf, hrok⟩
  have hcs : 0 ≤ (rm_X5_farthestBehind).cells ∧ 0 ≤ (rm_X5_farthestBehind).slots := ⟨Nat.le_refl 0, Nat.le_refl 0⟩
  have hR : ∀ (r : Int32) (σ1 : Sg) (H : Heap) (locs : List Loc) (pc : Nat) (ls : Array Slot), decode cX5_farthestBehind pc = .ok (.ireturn, 1) → post r σ1 → s_St G σ1 s.heap H locs → W p l e rm_X5_farthestBehind s m ([.ref (G.2.2 + 90), .int x1, .ref (G.2.2 + 5), .ref (G.2.2 + 1)] : List Value).toArray below meth c H locs 0 0 (MQ below (va_Qi post (s_B G) (s_A G.2.2)) ([.ref (G.2.2 + 90), .int x1, .ref (G.2.2 + 5), .ref (G.2.2 + 1)] : List Value).toArray s 0 0 (s_A G.2.2)) (F0 m pc ls [.int r]) := fun _ _ _ _ _ _ hd hp S => ret_i C hr hlocks hd hp S
  have hl := lv_entry ([.ref (G.2.2 + 90), .int x1, .ref (G.2.2 + 5), .ref (G.2.2 + 1)]) (n := 8) (Nat.le_of_ble_eq_true rfl)
  rw [lg_entry_eq]
  generalize (lg_sl ([.ref (G.2.2 + 90), .int x1, .ref (G.2.2 + 5), .ref (G.2.2 + 1)]) ++ List.replicate (8 - (lg_sl ([.ref (G.2.2 + 90), .int x1, .ref (G.2.2 + 5), .ref (G.2.2 + 1)])).length) Slot.unset).toArray = ls at hl ⊢
  have hl : lv_has ls 8 [(0, .ref (G.2.2 + 90)), (1, .int x1), (2, .ref (G.2.2 + 5)), (3, .ref (G.2.2 + 1))] := hl
  unfold wpX5_farthestBehind at h
  refine lv_aload_n C.1 C.2.1 dX5_farthestBehind_0 rfl (lv_at hl 2 rfl) ?_
  refine lv_iload_n C.1 C.2.1 dX5_farthestBehind_1 rfl (lv_at hl 1 rfl) ?_
  refine k_i (r_VN (As := [.int x1]) (rest := []) C hml (c_X1_followers l G 5 x1 σ _ kd_5 h) kM_X1_followers im_X1_followers se_X1_followers nm_X5_70 ⟨rfl, rfl⟩ ⟨Nat.le_of_ble_eq_true rfl, Nat.le_of_ble_eq_true rfl⟩ hcs S kd_5 (by decide) (T := TX1) (N := 4) rfl rfl hl.1 rfl (Nat.le_of_ble_eq_true rfl) dX5_farthestBehind_2) S (fun r10 σ9 H locs h S => ?_)
  refine lv_istore (lv' := [(4, .int r10), (0, .ref (G.2.2 + 90)), (1, .int x1), (2, .ref (G.2.2 + 5)), (3, .ref (G.2.2 + 1))]) C.1 C.2.1 dX5_farthestBehind_5 hl (by decide) rfl (fun ls hl => ?_)
  refine lv_aload_n C.1 C.2.1 dX5_farthestBehind_7 rfl (lv_at hl 1 rfl) ?_
  refine lv_iload_n C.1 C.2.1 dX5_farthestBehind_8 rfl (lv_at hl 2 rfl) ?_
  refine lv_aload_n C.1 C.2.1 dX5_farthestBehind_9 rfl (lv_at hl 3 rfl) ?_
  refine lv_aload_n C.1 C.2.1 dX5_farthestBehind_10 rfl (lv_at hl 4 rfl) ?_
  refine k_i (r_V (As := [.int x1, .ref (G.2.2 + 5), .ref (G.2.2 + 1)]) (rest := []) C hml (c_X5_startBehind l G x1 σ9 _ h) kM_X5_startBehind im_X5_startBehind se_X5_startBehind ml_X5_67 ⟨rfl, rfl⟩ ⟨Nat.le_of_ble_eq_true rfl, Nat.le_of_ble_eq_true rfl⟩ hcs S kd_90 (by decide) (T := TX5) (N := 8) rfl rfl hl.1 rfl (Nat.le_of_ble_eq_true rfl) dX5_farthestBehind_11) S (fun r12 σ11 H locs h S => ?_)
  refine lv_istore (lv' := [(5, .int r12), (4, .int r10), (0, .ref (G.2.2 + 90)), (1, .int x1), (2, .ref (G.2.2 + 5)), (3, .ref (G.2.2 + 1))]) C.1 C.2.1 dX5_farthestBehind_14 hl (by decide) rfl (fun ls hl => ?_)
  refine lv_iload C.1 C.2.1 dX5_farthestBehind_16 (lv_at hl 1 rfl) ?_
  refine lv_if_eq (tgt := 26) C.1 C.2.1 dX5_farthestBehind_18 (by decide) (fun c13 => ?_) (fun c13 => ?_)
  · replace h := h.1 c13
    refine lv_aload_n C.1 C.2.1 dX5_farthestBehind_26 rfl (lv_at hl 2 rfl) ?_
    refine lv_iload_n C.1 C.2.1 dX5_farthestBehind_27 rfl (lv_at hl 3 rfl) ?_
    refine k_i (r_V (As := [.int x1]) (rest := []) C hml (c_X5_endOf l G x1 σ11 _ h) kM_X5_endOf im_X5_endOf se_X5_endOf ml_X5_59 ⟨rfl, rfl⟩ ⟨Nat.le_of_ble_eq_true rfl, Nat.le_of_ble_eq_true rfl⟩ hcs S kd_90 (by decide) (T := TX5) (N := 8) rfl rfl hl.1 rfl (Nat.le_of_ble_eq_true rfl) dX5_farthestBehind_28) S (fun r15 σ14 H locs h S => ?_)
    exact hR _ _ _ _ _ _ dX5_farthestBehind_31 h S
  · replace h := h.2 c13
    refine lv_iload C.1 C.2.1 dX5_farthestBehind_21 (lv_at hl 0 rfl) ?_
    refine lv_if_ge (tgt := 32) C.1 C.2.1 dX5_farthestBehind_23 (by decide) (fun c16 => ?_) (fun c16 => ?_)
    · replace h := h.1 c16
      refine lv_iload C.1 C.2.1 dX5_farthestBehind_32 (lv_at hl 0 rfl) ?_
      refine lv_istore (lv' := [(6, .int r12), (5, .int r12), (4, .int r10), (0, .ref (G.2.2 + 90)), (1, .int x1), (2, .ref (G.2.2 + 5)), (3, .ref (G.2.2 + 1))]) C.1 C.2.1 dX5_farthestBehind_34 hl (by decide) rfl (fun ls hl => ?_)
      refine lv_iconst (v := (0 : Int32)) C.1 C.2.1 dX5_farthestBehind_36 (by decide) ?_
      refine lv_istore (lv' := [(7, .int (0 : Int32)), (6, .int r12), (5, .int r12), (4, .int r10), (0, .ref (G.2.2 + 90)), (1, .int x1), (2, .ref (G.2.2 + 5)), (3, .ref (G.2.2 + 1))]) C.1 C.2.1 dX5_farthestBehind_37 hl (by decide) rfl (fun ls hl => ?_)
      obtain ⟨nf, h⟩ := h
      exact TX5_farthestBehind_39 C hml hcs hR nf r10 r12 r12 ((0 : Int32)) S (lv_sub hl [6, 7, 3, 2, 1, 0] rfl) h
    · replace h := h.2 c16
      refine lv_aload_n C.1 C.2.1 dX5_farthestBehind_26 rfl (lv_at hl 2 rfl) ?_
      refine lv_iload_n C.1 C.2.1 dX5_farthestBehind_27 rfl (lv_at hl 3 rfl) ?_
      refine k_i (r_V (As := [.int x1]) (rest := []) C hml (c_X5_endOf l G x1 σ11 _ h) kM_X5_endOf im_X5_endOf se_X5_endOf ml_X5_59 ⟨rfl, rfl⟩ ⟨Nat.le_of_ble_eq_true rfl, Nat.le_of_ble_eq_true rfl⟩ hcs S kd_90 (by decide) (T := TX5) (N := 8) rfl rfl hl.1 rfl (Nat.le_of_ble_eq_true rfl) dX5_farthestBehind_28) S (fun r18 σ17 H locs h S => ?_)
      exact hR _ _ _ _ _ _ dX5_farthestBehind_31 h S
/-! X5_farthest -/
abbrev rm_X5_farthest : Room := { frames := 4, cells := 0, slots := 0, locals := 95 }
def BX5_farthest_5  (post : Int32 → Sg → Prop) : Nat → Int32 → Int32 → Sg → Prop
  | 0, _, _, _ => False
  | n + 1, x3, x4, σ => wpX1_tallies 5 σ (fun r2 σ1 => (((r2 ≤ x4) → post x3 σ1) ∧ ((¬ r2 ≤ x4) → wpX5_endOf x4 σ1 (fun r5 σ4 => (((r5 < 0) → BX5_farthest_5 post n x3 ((x4 + 1)) σ4) ∧ ((¬ r5 < 0) → wpX5_farthestBehind x4 σ4 (fun r8 σ7 => BX5_farthest_5 post n ((if x3 < r8 then r8 else x3)) ((x4 + 1)) σ7)))))))
def wpX5_farthest  (σ : Sg) (post : Int32 → Sg → Prop) : Prop := ∃ nf, BX5_farthest_5 post nf ((0 : Int32)) ((0 : Int32)) σ
set_option maxHeartbeats 4000000 in
set_option maxRecDepth 100000 in
theorem TX5_farthest_5 (C : s_C G p s args m c RX5 cX5_farthest) (hml : c.maxLocals = 5) (hcs : cells ≤ (rm_X5_farthest).cells ∧ slots ≤ (rm_X5_farthest).slots)  {post : Int32 → Sg → Prop} (hR : ∀ (r : Int32) (σ1 : Sg) (H : Heap) (locs : List Loc) (pc : Nat) (ls : Array Slot), decode cX5_farthest pc = .ok (.ireturn, 1) → post r σ1 → s_St G σ1 H0 H locs → W p l e rm_X5_farthest s m args below meth c H locs cells slots Q (F0 m pc ls [.int r])) : ∀ (n : Nat) (x3 : Int32) (x4 : Int32), ∀ {σ : Sg} {H : Heap} {locs : List Loc} {ls : Array Slot}, s_St G σ H0 H locs → lv_has ls 5 [(0, .ref (G.2.2 + 90)), (1, .ref (G.2.2 + 5)), (2, .ref (G.2.2 + 1)), (3, .int x3), (4, .int x4)] → BX5_farthest_5 post n x3 x4 σ → W p l e rm_X5_farthest s m args below meth c H locs cells slots Q (F0 m 5 ls []) := by
  intro n
  induction n with
  | zero =>
    intro x3 x4  σ H locs ls S hl h
    exact absurd h (fun h => h)
  | succ n ih0 =>
    have ih : ∀ (x3 : Int32) (x4 : Int32), ∀ (σ : Sg) (H : Heap) (locs : List Loc) (ls : Array Slot), s_St G σ H0 H locs → lv_has ls 5 [(0, .ref (G.2.2 + 90)), (1, .ref (G.2.2 + 5)), (2, .ref (G.2.2 + 1)), (3, .int x3), (4, .int x4)] → BX5_farthest_5 post n x3 x4 σ → W p l e rm_X5_farthest s m args below meth c H locs cells slots Q (F0 m 5 ls []) := fun x3 x4  _ _ _ _ => ih0 x3 x4 
    intro x3 x4  σ H locs ls S hl h
    refine lv_iload C.1 C.2.1 dX5_farthest_5 (lv_at hl 4 rfl) ?_
    refine lv_aload_n C.1 C.2.1 dX5_farthest_7 rfl (lv_at hl 1 rfl) ?_
    refine k_i (r_VN (As := []) (rest := [.int x4]) C hml (c_X1_tallies l G 5 σ _ kd_5 h) kM_X1_tallies im_X1_tallies se_X1_tallies nm_X5_53 ⟨rfl, rfl⟩ ⟨Nat.le_of_ble_eq_true rfl, Nat.le_of_ble_eq_true rfl⟩ hcs S kd_5 (by decide) (T := TX1) (N := 4) rfl rfl hl.1 rfl (Nat.le_of_ble_eq_true rfl) dX5_farthest_8) S (fun r2 σ1 H locs h S => ?_)
    refine lv_icmp_ge (tgt := 42) C.1 C.2.1 dX5_farthest_11 (by decide) (fun c3 => ?_) (fun c3 => ?_)
    · replace h := h.1 c3
      refine lv_iload_n C.1 C.2.1 dX5_farthest_42 rfl (lv_at hl 3 rfl) ?_
      exact hR _ _ _ _ _ _ dX5_farthest_43 h S
    · replace h := h.2 c3
      refine lv_aload_n C.1 C.2.1 dX5_farthest_14 rfl (lv_at hl 0 rfl) ?_
      refine lv_iload C.1 C.2.1 dX5_farthest_15 (lv_at hl 4 rfl) ?_
      refine k_i (r_V (As := [.int x4]) (rest := []) C hml (c_X5_endOf l G x4 σ1 _ h) kM_X5_endOf im_X5_endOf se_X5_endOf ml_X5_59 ⟨rfl, rfl⟩ ⟨Nat.le_of_ble_eq_true rfl, Nat.le_of_ble_eq_true rfl⟩ hcs S kd_90 (by decide) (T := TX5) (N := 8) rfl rfl hl.1 rfl (Nat.le_of_ble_eq_true rfl) dX5_farthest_17) S (fun r5 σ4 H locs h S => ?_)
      refine lv_if_lt (tgt := 36) C.1 C.2.1 dX5_farthest_20 (by decide) (fun c6 => ?_) (fun c6 => ?_)
      · replace h := h.1 c6
        refine lv_iinc (v := (x4 + 1)) (lv' := [(4, .int (x4 + 1)), (0, .ref (G.2.2 + 90)), (1, .ref (G.2.2 + 5)), (2, .ref (G.2.2 + 1)), (3, .int x3)]) C.1 C.2.1 dX5_farthest_36 hl (k := 4) rfl rfl (by decide) rfl (fun ls hl => ?_)
        refine lv_goto (tgt := 5) C.1 C.2.1 dX5_farthest_39 (by decide) ?_
        exact ih x3 ((x4 + 1)) _ _ _ _ S (lv_sub hl [1, 2, 3, 4, 0] rfl) h
      · replace h := h.2 c6
        refine lv_iload_n C.1 C.2.1 dX5_farthest_23 rfl (lv_at hl 3 rfl) ?_
        refine lv_aload_n C.1 C.2.1 dX5_farthest_24 rfl (lv_at hl 0 rfl) ?_
        refine lv_iload C.1 C.2.1 dX5_farthest_25 (lv_at hl 4 rfl) ?_
        refine lv_aload_n C.1 C.2.1 dX5_farthest_27 rfl (lv_at hl 1 rfl) ?_
        refine lv_aload_n C.1 C.2.1 dX5_farthest_28 rfl (lv_at hl 2 rfl) ?_
        refine k_i (r_V (As := [.int x4, .ref (G.2.2 + 5), .ref (G.2.2 + 1)]) (rest := [.int x3]) C hml (c_X5_farthestBehind l G x4 σ4 _ h) kM_X5_farthestBehind im_X5_farthestBehind se_X5_farthestBehind ml_X5_122 ⟨rfl, rfl⟩ ⟨Nat.le_of_ble_eq_true rfl, Nat.le_of_ble_eq_true rfl⟩ hcs S kd_90 (by decide) (T := TX5) (N := 8) rfl rfl hl.1 rfl (Nat.le_of_ble_eq_true rfl) dX5_farthest_29) S (fun r8 σ7 H locs h S => ?_)
        refine va_mmax C.1 C.2.1 (hml.trans hl.1.symm) C.2.2.1 (C.2.2.2.1 _ ml_X5_125) (C.2.2.2.1 _ st_max) (C.2.2.2.1 _ in_math) (C.2.2.2.1 _ co_max) (Nat.le_of_ble_eq_true rfl) (Nat.le_of_ble_eq_true rfl) hcs.1 hcs.2 dX5_farthest_32 ?_
        refine lv_istore_n (lv' := [(3, .int (if x3 < r8 then r8 else x3)), (0, .ref (G.2.2 + 90)), (1, .ref (G.2.2 + 5)), (2, .ref (G.2.2 + 1)), (4, .int x4)]) C.1 C.2.1 dX5_farthest_35 rfl hl (by decide) rfl (fun ls hl => ?_)
        refine lv_iinc (v := (x4 + 1)) (lv' := [(4, .int (x4 + 1)), (3, .int (if x3 < r8 then r8 else x3)), (0, .ref (G.2.2 + 90)), (1, .ref (G.2.2 + 5)), (2, .ref (G.2.2 + 1))]) C.1 C.2.1 dX5_farthest_36 hl (k := 4) rfl rfl (by decide) rfl (fun ls hl => ?_)
        refine lv_goto (tgt := 5) C.1 C.2.1 dX5_farthest_39 (by decide) ?_
        exact ih ((if x3 < r8 then r8 else x3)) ((x4 + 1)) _ _ _ _ S (lv_sub hl [2, 3, 4, 1, 0] rfl) h
theorem kM_X5_farthest : s_M yX5_farthest cX5_farthest 5 (some .int) 2 := ⟨co_X5_farthest, in_X5, by decide, by decide, by decide +kernel⟩
set_option maxHeartbeats 4000000 in
set_option maxRecDepth 100000 in
theorem c_X5_farthest (l : Launch) (G : s_G)  (σ : Sg) (post : Int32 → Sg → Prop) (h : wpX5_farthest σ post) : Met l yX5_farthest (wsU yX5_farthest cX5_farthest 5 (some .int)) rm_X5_farthest (va_Pc [.ref (G.2.2 + 90), .ref (G.2.2 + 5), .ref (G.2.2 + 1)] (s_Pre G σ)) (va_Qi post (s_B G) (s_A G.2.2)) 0 0 (s_A G.2.2) := by
  refine Met.ofW (cc := cX5_farthest) (maxL := 5) (ret := (some .int)) (by decide) rfl ?_
  intro p e s m args below meth c s₁ B hml hv
  obtain ⟨rfl, hP, hrok, hK, hN⟩ := hv
  have C : s_C G p s (([.ref (G.2.2 + 90), .ref (G.2.2 + 5), .ref (G.2.2 + 1)] : List Value).toArray) m c RX5 cX5_farthest := ⟨B.exec, B.bytes, findClass_of_methodNamed B.named, fun w hw => atoms_spec (ws := wsU yX5_farthest cX5_farthest 5 (some .int)) B.pre w (List.mem_cons_of_mem _ hw), hK, hN⟩
  have hr := B.returns
  have hlocks := B.notSynchronized
  have S : s_St G σ s.heap s.heap [] := ⟨hP, va_S.rf, hrok⟩
  have hcs : 0 ≤ (rm_X5_farthest).cells ∧ 0 ≤ (rm_X5_farthest).slots := ⟨Nat.le_refl 0, Nat.le_refl 0⟩
  have hR : ∀ (r : Int32) (σ1 : Sg) (H : Heap) (locs : List Loc) (pc : Nat) (ls : Array Slot), decode cX5_farthest pc = .ok (.ireturn, 1) → post r σ1 → s_St G σ1 s.heap H locs → W p l e rm_X5_farthest s m ([.ref (G.2.2 + 90), .ref (G.2.2 + 5), .ref (G.2.2 + 1)] : List Value).toArray below meth c H locs 0 0 (MQ below (va_Qi post (s_B G) (s_A G.2.2)) ([.ref (G.2.2 + 90), .ref (G.2.2 + 5), .ref (G.2.2 + 1)] : List Value).toArray s 0 0 (s_A G.2.2)) (F0 m pc ls [.int r]) := fun _ _ _ _ _ _ hd hp S => ret_i C hr hlocks hd hp S
  have hl := lv_entry ([.ref (G.2.2 + 90), .ref (G.2.2 + 5), .ref (G.2.2 + 1)]) (n := 5) (Nat.le_of_ble_eq_true rfl)
  rw [lg_entry_eq]
  generalize (lg_sl ([.ref (G.2.2 + 90), .ref (G.2.2 + 5), .ref (G.2.2 + 1)]) ++ List.replicate (5 - (lg_sl ([.ref (G.2.2 + 90), .ref (G.2.2 + 5), .ref (G.2.2 + 1)])).length) Slot.unset).toArray = ls at hl ⊢
  have hl : lv_has ls 5 [(0, .ref (G.2.2 + 90)), (1, .ref (G.2.2 + 5)), (2, .ref (G.2.2 + 1))] := hl
  unfold wpX5_farthest at h
  refine lv_iconst (v := (0 : Int32)) C.1 C.2.1 dX5_farthest_0 (by decide) ?_
  refine lv_istore_n (lv' := [(3, .int (0 : Int32)), (0, .ref (G.2.2 + 90)), (1, .ref (G.2.2 + 5)), (2, .ref (G.2.2 + 1))]) C.1 C.2.1 dX5_farthest_1 rfl hl (by decide) rfl (fun ls hl => ?_)
  refine lv_iconst (v := (0 : Int32)) C.1 C.2.1 dX5_farthest_2 (by decide) ?_
  refine lv_istore (lv' := [(4, .int (0 : Int32)), (3, .int (0 : Int32)), (0, .ref (G.2.2 + 90)), (1, .ref (G.2.2 + 5)), (2, .ref (G.2.2 + 1))]) C.1 C.2.1 dX5_farthest_3 hl (by decide) rfl (fun ls hl => ?_)
  obtain ⟨nf, h⟩ := h
  exact TX5_farthest_5 C hml hcs hR nf ((0 : Int32)) ((0 : Int32)) S (lv_sub hl [2, 3, 4, 1, 0] rfl) h
/-! X5_findSteps -/
abbrev rm_X5_findSteps : Room := { frames := 3, cells := 0, slots := 0, locals := 69 }
def BX5_findSteps_68 (x1 : Int32) (K31 : Int32 → Int32 → Int32 → Int32 → Sg → Prop) (post : Int32 → Sg → Prop) (x4 : Int32) (x5 : Int32) (x6 : Int32) (x7 : Int32) (y0 : Int32) (σ : Sg) : Prop := wpX6_withOneMore x1 x7 σ (fun r2 σ1 => (((y0 < 0) → K31 x4 x5 x6 ((x7 + 1)) σ1) ∧ ((¬ y0 < 0) → (((r2 < 0) → K31 x4 x5 x6 ((x7 + 1)) σ1) ∧ ((¬ r2 < 0) → ((((4096 : Int32) ≤ r2) → K31 x4 x5 x6 ((x7 + 1)) σ1) ∧ ((¬ (4096 : Int32) ≤ r2) → (vp_in r2 4096 ∧ (∀ σ6 : Sg, σ6 = setI σ1 91 (r2).toNatClampNeg y0 → K31 x4 x5 ((x6 ||| ((1 : Int32) <<< (x7 &&& 31)))) ((x7 + 1)) σ6)))))))))
def BX5_findSteps_31 (x1 : Int32) (post : Int32 → Sg → Prop) : Nat → Int32 → Int32 → Int32 → Int32 → Sg → Prop
  | 0, _, _, _, _, _ => False
  | n + 1, x4, x5, x6, x7, σ => ((((σ.1 5 2) ≤ x7) → post x6 σ) ∧ ((¬ (σ.1 5 2) ≤ x7) → wpX6_bitOf x5 x7 σ (fun r10 σ9 => (((¬ r10 = (1 : Int32)) → BX5_findSteps_68 x1 (BX5_findSteps_31 x1 post n) post x4 x5 x6 x7 ((-9 : Int32)) σ9) ∧ ((r10 = (1 : Int32)) → wpX1_at 5 x7 σ9 (fun q13 σ12 => s_kd q13 = 3 → wpX0_endOf 1 q13 x4 σ12 (fun r15 σ14 => BX5_findSteps_68 x1 (BX5_findSteps_31 x1 post n) post x4 x5 x6 x7 r15 σ14)))))))
def wpX5_findSteps (x1 : Int32) (σ : Sg) (post : Int32 → Sg → Prop) : Prop := wpX5_startBehind x1 σ (fun r17 σ16 => (((r17 < 0) → ∃ nf, BX5_findSteps_31 x1 post nf r17 ((0 : Int32)) ((0 : Int32)) ((0 : Int32)) σ16) ∧ ((¬ r17 < 0) → wpX1_followers 5 x1 σ16 (fun r20 σ19 => ∃ nf, BX5_findSteps_31 x1 post nf r17 r20 ((0 : Int32)) ((0 : Int32)) σ19))))
set_option maxHeartbeats 4000000 in
set_option maxRecDepth 100000 in
theorem TX5_findSteps_68 (C : s_C G p s args m c RX5 cX5_findSteps) (hml : c.maxLocals = 10) (hcs : cells ≤ (rm_X5_findSteps).cells ∧ slots ≤ (rm_X5_findSteps).slots) {x1 : Int32} {K31 : Int32 → Int32 → Int32 → Int32 → Sg → Prop} {post : Int32 → Sg → Prop} (hR : ∀ (r : Int32) (σ1 : Sg) (H : Heap) (locs : List Loc) (pc : Nat) (ls : Array Slot), decode cX5_findSteps pc = .ok (.ireturn, 1) → post r σ1 → s_St G σ1 H0 H locs → W p l e rm_X5_findSteps s m args below meth c H locs cells slots Q (F0 m pc ls [.int r])) (hK31 : ∀ (x4 : Int32) (x5 : Int32) (x6 : Int32) (x7 : Int32), ∀ (σ : Sg) (H : Heap) (locs : List Loc) (ls : Array Slot), s_St G σ H0 H locs → lv_has ls 10 [(0, .ref (G.2.2 + 90)), (1, .int x1), (2, .ref (G.2.2 + 5)), (3, .ref (G.2.2 + 1)), (4, .int x4), (5, .int x5), (6, .int x6), (7, .int x7)] → K31 x4 x5 x6 x7 σ → W p l e rm_X5_findSteps s m args below meth c H locs cells slots Q (F0 m 31 ls [])) : ∀ (x4 : Int32) (x5 : Int32) (x6 : Int32) (x7 : Int32) (y0 : Int32), ∀ {σ : Sg} {H : Heap} {locs : List Loc} {ls : Array Slot}, s_St G σ H0 H locs → lv_has ls 10 [(0, .ref (G.2.2 + 90)), (1, .int x1), (2, .ref (G.2.2 + 5)), (3, .ref (G.2.2 + 1)), (4, .int x4), (5, .int x5), (6, .int x6), (7, .int x7)] → BX5_findSteps_68 x1 K31 post x4 x5 x6 x7 y0 σ → W p l e rm_X5_findSteps s m args below meth c H locs cells slots Q (F0 m 68 ls [.int y0]) := by
  intro x4 x5 x6 x7 y0  σ H locs ls S hl h
  unfold BX5_findSteps_68 at h
  refine lv_istore (lv' := [(8, .int y0), (0, .ref (G.2.2 + 90)), (1, .int x1), (2, .ref (G.2.2 + 5)), (3, .ref (G.2.2 + 1)), (4, .int x4), (5, .int x5), (6, .int x6), (7, .int x7)]) C.1 C.2.1 dX5_findSteps_68 hl (by decide) rfl (fun ls hl => ?_)
  refine lv_iload_n C.1 C.2.1 dX5_findSteps_70 rfl (lv_at hl 2 rfl) ?_
  refine lv_iload C.1 C.2.1 dX5_findSteps_71 (lv_at hl 8 rfl) ?_
  refine k_i (r_SN (As := [.int x1, .int x7]) (rest := []) C hml (c_X6_withOneMore l G x1 x7 σ _ h) kM_X6_withOneMore st_X6_withOneMore nm_X5_87 ⟨rfl, rfl⟩ ⟨Nat.le_of_ble_eq_true rfl, Nat.le_of_ble_eq_true rfl⟩ hcs S rfl hl.1 rfl (Nat.le_of_ble_eq_true rfl) dX5_findSteps_73) S (fun r2 σ1 H locs h S => ?_)
  refine lv_istore (lv' := [(9, .int r2), (8, .int y0), (0, .ref (G.2.2 + 90)), (1, .int x1), (2, .ref (G.2.2 + 5)), (3, .ref (G.2.2 + 1)), (4, .int x4), (5, .int x5), (6, .int x6), (7, .int x7)]) C.1 C.2.1 dX5_findSteps_76 hl (by decide) rfl (fun ls hl => ?_)
  refine lv_iload C.1 C.2.1 dX5_findSteps_78 (lv_at hl 1 rfl) ?_
  refine lv_if_lt (tgt := 116) C.1 C.2.1 dX5_findSteps_80 (by decide) (fun c3 => ?_) (fun c3 => ?_)
  · replace h := h.1 c3
    refine lv_iinc (v := (x7 + 1)) (lv' := [(7, .int (x7 + 1)), (9, .int r2), (8, .int y0), (0, .ref (G.2.2 + 90)), (1, .int x1), (2, .ref (G.2.2 + 5)), (3, .ref (G.2.2 + 1)), (4, .int x4), (5, .int x5), (6, .int x6)]) C.1 C.2.1 dX5_findSteps_116 hl (k := 9) rfl rfl (by decide) rfl (fun ls hl => ?_)
    refine lv_goto (tgt := 31) C.1 C.2.1 dX5_findSteps_119 (by decide) ?_
    exact hK31 x4 x5 x6 ((x7 + 1)) _ _ _ _ S (lv_sub hl [3, 4, 5, 6, 7, 8, 9, 0] rfl) h
  · replace h := h.2 c3
    refine lv_iload C.1 C.2.1 dX5_findSteps_83 (lv_at hl 0 rfl) ?_
    refine lv_if_lt (tgt := 116) C.1 C.2.1 dX5_findSteps_85 (by decide) (fun c4 => ?_) (fun c4 => ?_)
    · replace h := h.1 c4
      refine lv_iinc (v := (x7 + 1)) (lv' := [(7, .int (x7 + 1)), (9, .int r2), (8, .int y0), (0, .ref (G.2.2 + 90)), (1, .int x1), (2, .ref (G.2.2 + 5)), (3, .ref (G.2.2 + 1)), (4, .int x4), (5, .int x5), (6, .int x6)]) C.1 C.2.1 dX5_findSteps_116 hl (k := 9) rfl rfl (by decide) rfl (fun ls hl => ?_)
      refine lv_goto (tgt := 31) C.1 C.2.1 dX5_findSteps_119 (by decide) ?_
      exact hK31 x4 x5 x6 ((x7 + 1)) _ _ _ _ S (lv_sub hl [3, 4, 5, 6, 7, 8, 9, 0] rfl) h
    · replace h := h.2 c4
      refine lv_iload C.1 C.2.1 dX5_findSteps_88 (lv_at hl 0 rfl) ?_
      refine lv_aload_n C.1 C.2.1 dX5_findSteps_90 rfl (lv_at hl 2 rfl) ?_
      refine g_X5_0 C fl_X5_9 kd_90 S fn_90_0 dX5_findSteps_91 ?_
      refine a_len8 C kd_91 S (v := (4096 : Int32)) (by rw [ln_91]; rfl) dX5_findSteps_94 ?_
      refine lv_icmp_ge (tgt := 116) C.1 C.2.1 dX5_findSteps_95 (by decide) (fun c5 => ?_) (fun c5 => ?_)
      · replace h := h.1 c5
        refine lv_iinc (v := (x7 + 1)) (lv' := [(7, .int (x7 + 1)), (9, .int r2), (8, .int y0), (0, .ref (G.2.2 + 90)), (1, .int x1), (2, .ref (G.2.2 + 5)), (3, .ref (G.2.2 + 1)), (4, .int x4), (5, .int x5), (6, .int x6)]) C.1 C.2.1 dX5_findSteps_116 hl (k := 9) rfl rfl (by decide) rfl (fun ls hl => ?_)
        refine lv_goto (tgt := 31) C.1 C.2.1 dX5_findSteps_119 (by decide) ?_
        exact hK31 x4 x5 x6 ((x7 + 1)) _ _ _ _ S (lv_sub hl [3, 4, 5, 6, 7, 8, 9, 0] rfl) h
      · replace h := h.2 c5
        refine lv_aload_n C.1 C.2.1 dX5_findSteps_98 rfl (lv_at hl 2 rfl) ?_
        refine g_X5_0 C fl_X5_9 kd_90 S fn_90_0 dX5_findSteps_99 ?_
        refine lv_iload C.1 C.2.1 dX5_findSteps_102 (lv_at hl 0 rfl) ?_
        refine lv_iload C.1 C.2.1 dX5_findSteps_104 (lv_at hl 1 rfl) ?_
        refine a_ist C kd_91 S ln_91 h.1 dX5_findSteps_106 (fun σ6 H locs e7 S => ?_)
        replace h := h.2 σ6 e7
        refine lv_iload C.1 C.2.1 dX5_findSteps_107 (lv_at hl 8 rfl) ?_
        refine lv_iconst (v := (1 : Int32)) C.1 C.2.1 dX5_findSteps_109 (by decide) ?_
        refine lv_iload C.1 C.2.1 dX5_findSteps_110 (lv_at hl 9 rfl) ?_
        refine lv_ishl C.1 C.2.1 dX5_findSteps_112 ?_
        refine lv_ior C.1 C.2.1 dX5_findSteps_113 ?_
        refine lv_istore (lv' := [(6, .int (x6 ||| ((1 : Int32) <<< (x7 &&& 31)))), (9, .int r2), (8, .int y0), (0, .ref (G.2.2 + 90)), (1, .int x1), (2, .ref (G.2.2 + 5)), (3, .ref (G.2.2 + 1)), (4, .int x4), (5, .int x5), (7, .int x7)]) C.1 C.2.1 dX5_findSteps_114 hl (by decide) rfl (fun ls hl => ?_)
        refine lv_iinc (v := (x7 + 1)) (lv' := [(7, .int (x7 + 1)), (6, .int (x6 ||| ((1 : Int32) <<< (x7 &&& 31)))), (9, .int r2), (8, .int y0), (0, .ref (G.2.2 + 90)), (1, .int x1), (2, .ref (G.2.2 + 5)), (3, .ref (G.2.2 + 1)), (4, .int x4), (5, .int x5)]) C.1 C.2.1 dX5_findSteps_116 hl (k := 9) rfl rfl (by decide) rfl (fun ls hl => ?_)
        refine lv_goto (tgt := 31) C.1 C.2.1 dX5_findSteps_119 (by decide) ?_
        exact hK31 x4 x5 ((x6 ||| ((1 : Int32) <<< (x7 &&& 31)))) ((x7 + 1)) _ _ _ _ S (lv_sub hl [4, 5, 6, 7, 8, 9, 1, 0] rfl) h
set_option maxHeartbeats 4000000 in
set_option maxRecDepth 100000 in
theorem TX5_findSteps_31 (C : s_C G p s args m c RX5 cX5_findSteps) (hml : c.maxLocals = 10) (hcs : cells ≤ (rm_X5_findSteps).cells ∧ slots ≤ (rm_X5_findSteps).slots) {x1 : Int32} {post : Int32 → Sg → Prop} (hR : ∀ (r : Int32) (σ1 : Sg) (H : Heap) (locs : List Loc) (pc : Nat) (ls : Array Slot), decode cX5_findSteps pc = .ok (.ireturn, 1) → post r σ1 → s_St G σ1 H0 H locs → W p l e rm_X5_findSteps s m args below meth c H locs cells slots Q (F0 m pc ls [.int r])) : ∀ (n : Nat) (x4 : Int32) (x5 : Int32) (x6 : Int32) (x7 : Int32), ∀ {σ : Sg} {H : Heap} {locs : List Loc} {ls : Array Slot}, s_St G σ H0 H locs → lv_has ls 10 [(0, .ref (G.2.2 + 90)), (1, .int x1), (2, .ref (G.2.2 + 5)), (3, .ref (G.2.2 + 1)), (4, .int x4), (5, .int x5), (6, .int x6), (7, .int x7)] → BX5_findSteps_31 x1 post n x4 x5 x6 x7 σ → W p l e rm_X5_findSteps s m args below meth c H locs cells slots Q (F0 m 31 ls []) := by
  intro n
  induction n with
  | zero =>
    intro x4 x5 x6 x7  σ H locs ls S hl h
    exact absurd h (fun h => h)
  | succ n ih0 =>
    have ih : ∀ (x4 : Int32) (x5 : Int32) (x6 : Int32) (x7 : Int32), ∀ (σ : Sg) (H : Heap) (locs : List Loc) (ls : Array Slot), s_St G σ H0 H locs → lv_has ls 10 [(0, .ref (G.2.2 + 90)), (1, .int x1), (2, .ref (G.2.2 + 5)), (3, .ref (G.2.2 + 1)), (4, .int x4), (5, .int x5), (6, .int x6), (7, .int x7)] → BX5_findSteps_31 x1 post n x4 x5 x6 x7 σ → W p l e rm_X5_findSteps s m args below meth c H locs cells slots Q (F0 m 31 ls []) := fun x4 x5 x6 x7  _ _ _ _ => ih0 x4 x5 x6 x7 
    intro x4 x5 x6 x7  σ H locs ls S hl h
    refine lv_iload C.1 C.2.1 dX5_findSteps_31 (lv_at hl 7 rfl) ?_
    refine lv_aload_n C.1 C.2.1 dX5_findSteps_33 rfl (lv_at hl 2 rfl) ?_
    refine gn_X1_2 C nf_X5_73 kd_5 S dX5_findSteps_34 ?_
    refine lv_icmp_ge (tgt := 122) C.1 C.2.1 dX5_findSteps_37 (by decide) (fun c8 => ?_) (fun c8 => ?_)
    · replace h := h.1 c8
      refine lv_iload C.1 C.2.1 dX5_findSteps_122 (lv_at hl 6 rfl) ?_
      exact hR _ _ _ _ _ _ dX5_findSteps_124 h S
    · replace h := h.2 c8
      refine lv_iload C.1 C.2.1 dX5_findSteps_40 (lv_at hl 5 rfl) ?_
      refine lv_iload C.1 C.2.1 dX5_findSteps_42 (lv_at hl 7 rfl) ?_
      refine k_i (r_SN (As := [.int x5, .int x7]) (rest := []) C hml (c_X6_bitOf l G x5 x7 σ _ h) kM_X6_bitOf st_X6_bitOf nm_X5_74 ⟨rfl, rfl⟩ ⟨Nat.le_of_ble_eq_true rfl, Nat.le_of_ble_eq_true rfl⟩ hcs S rfl hl.1 rfl (Nat.le_of_ble_eq_true rfl) dX5_findSteps_44) S (fun r10 σ9 H locs h S => ?_)
      refine lv_iconst (v := (1 : Int32)) C.1 C.2.1 dX5_findSteps_47 (by decide) ?_
      refine lv_icmp_ne (tgt := 66) C.1 C.2.1 dX5_findSteps_48 (by decide) (fun c11 => ?_) (fun c11 => ?_)
      · replace h := h.1 c11
        refine lv_bipush (v := (-9 : Int32)) C.1 C.2.1 dX5_findSteps_66 (by decide) ?_
        exact TX5_findSteps_68 C hml hcs hR ih x4 x5 x6 x7 ((-9 : Int32)) S (lv_sub hl [0, 1, 2, 3, 4, 5, 6, 7] rfl) h
      · replace h := h.2 c11
        refine lv_aload_n C.1 C.2.1 dX5_findSteps_51 rfl (lv_at hl 3 rfl) ?_
        refine lv_aload_n C.1 C.2.1 dX5_findSteps_52 rfl (lv_at hl 2 rfl) ?_
        refine lv_iload C.1 C.2.1 dX5_findSteps_53 (lv_at hl 7 rfl) ?_
        refine k_r (kd := 3) (r_VN (As := [.int x7]) (rest := [.ref (G.2.2 + 1)]) C hml (c_X1_at l G 5 x7 σ9 _ kd_5 h) kM_X1_at im_X1_at se_X1_at nm_X5_78 ⟨rfl, rfl⟩ ⟨Nat.le_of_ble_eq_true rfl, Nat.le_of_ble_eq_true rfl⟩ hcs S kd_5 (by decide) (T := TX1) (N := 4) rfl rfl hl.1 rfl (Nat.le_of_ble_eq_true rfl) dX5_findSteps_55) S (fun q13 σ12 H locs hq13 h S => ?_)
        replace h := h hq13
        refine lv_iload C.1 C.2.1 dX5_findSteps_58 (lv_at hl 4 rfl) ?_
        refine k_i (r_VN (As := [.ref (G.2.2 + q13), .int x4]) (rest := []) C hml (c_X0_endOf l G 1 q13 x4 σ12 _ kd_1 hq13 h) kM_X0_endOf im_X0_endOf se_X0_endOf nm_X5_82 ⟨rfl, rfl⟩ ⟨Nat.le_of_ble_eq_true rfl, Nat.le_of_ble_eq_true rfl⟩ hcs S kd_1 (by decide) (T := TX0) (N := 2) rfl rfl hl.1 rfl (Nat.le_of_ble_eq_true rfl) dX5_findSteps_60) S (fun r15 σ14 H locs h S => ?_)
        refine lv_goto (tgt := 68) C.1 C.2.1 dX5_findSteps_63 (by decide) ?_
        exact TX5_findSteps_68 C hml hcs hR ih x4 x5 x6 x7 r15 S (lv_sub hl [0, 1, 2, 3, 4, 5, 6, 7] rfl) h
theorem kM_X5_findSteps : s_M yX5_findSteps cX5_findSteps 10 (some .int) 3 := ⟨co_X5_findSteps, in_X5, by decide, by decide, by decide +kernel⟩
set_option maxHeartbeats 4000000 in
set_option maxRecDepth 100000 in
theorem c_X5_findSteps (l : Launch) (G : s_G) (x1 : Int32) (σ : Sg) (post : Int32 → Sg → Prop) (h : wpX5_findSteps x1 σ post) : Met l yX5_findSteps (wsU yX5_findSteps cX5_findSteps 10 (some .int)) rm_X5_findSteps (va_Pc [.ref (G.2.2 + 90), .int x1, .ref (G.2.2 + 5), .ref (G.2.2 + 1)] (s_Pre G σ)) (va_Qi post (s_B G) (s_A G.2.2)) 0 0 (s_A G.2.2) := by
  refine Met.ofW (cc := cX5_findSteps) (maxL := 10) (ret := (some .int)) (by decide) rfl ?_
  intro p e s m args below meth c s₁ B hml hv
  obtain ⟨rfl, hP, hrok, hK, hN⟩ := hv
  have C : s_C G p s (([.ref (G.2.2 + 90), .int x1, .ref (G.2.2 + 5), .ref (G.2.2 + 1)] : List Value).toArray) m c RX5 cX5_findSteps := ⟨B.exec, B.bytes, findClass_of_methodNamed B.named, fun w hw => atoms_spec (ws := wsU yX5_findSteps cX5_findSteps 10 (some .int)) B.pre w (List.mem_cons_of_mem _ hw), hK, hN⟩
  have hr := B.returns
  have hlocks := B.notSynchronized
  have S : s_St G σ s.heap s.heap [] := ⟨hP, va_S.rf, hrok⟩
  have hcs : 0 ≤ (rm_X5_findSteps).cells ∧ 0 ≤ (rm_X5_findSteps).slots := ⟨Nat.le_refl 0, Nat.le_refl 0⟩
  have hR : ∀ (r : Int32) (σ1 : Sg) (H : Heap) (locs : List Loc) (pc : Nat) (ls : Array Slot), decode cX5_findSteps pc = .ok (.ireturn, 1) → post r σ1 → s_St G σ1 s.heap H locs → W p l e rm_X5_findSteps s m ([.ref (G.2.2 + 90), .int x1, .ref (G.2.2 + 5), .ref (G.2.2 + 1)] : List Value).toArray below meth c H locs 0 0 (MQ below (va_Qi post (s_B G) (s_A G.2.2)) ([.ref (G.2.2 + 90), .int x1, .ref (G.2.2 + 5), .ref (G.2.2 + 1)] : List Value).toArray s 0 0 (s_A G.2.2)) (F0 m pc ls [.int r]) := fun _ _ _ _ _ _ hd hp S => ret_i C hr hlocks hd hp S
  have hl := lv_entry ([.ref (G.2.2 + 90), .int x1, .ref (G.2.2 + 5), .ref (G.2.2 + 1)]) (n := 10) (Nat.le_of_ble_eq_true rfl)
  rw [lg_entry_eq]
  generalize (lg_sl ([.ref (G.2.2 + 90), .int x1, .ref (G.2.2 + 5), .ref (G.2.2 + 1)]) ++ List.replicate (10 - (lg_sl ([.ref (G.2.2 + 90), .int x1, .ref (G.2.2 + 5), .ref (G.2.2 + 1)])).length) Slot.unset).toArray = ls at hl ⊢
  have hl : lv_has ls 10 [(0, .ref (G.2.2 + 90)), (1, .int x1), (2, .ref (G.2.2 + 5)), (3, .ref (G.2.2 + 1))] := hl
  unfold wpX5_findSteps at h
  refine lv_aload_n C.1 C.2.1 dX5_findSteps_0 rfl (lv_at hl 0 rfl) ?_
  refine lv_iload_n C.1 C.2.1 dX5_findSteps_1 rfl (lv_at hl 1 rfl) ?_
  refine lv_aload_n C.1 C.2.1 dX5_findSteps_2 rfl (lv_at hl 2 rfl) ?_
  refine lv_aload_n C.1 C.2.1 dX5_findSteps_3 rfl (lv_at hl 3 rfl) ?_
  refine k_i (r_V (As := [.int x1, .ref (G.2.2 + 5), .ref (G.2.2 + 1)]) (rest := []) C hml (c_X5_startBehind l G x1 σ _ h) kM_X5_startBehind im_X5_startBehind se_X5_startBehind ml_X5_67 ⟨rfl, rfl⟩ ⟨Nat.le_of_ble_eq_true rfl, Nat.le_of_ble_eq_true rfl⟩ hcs S kd_90 (by decide) (T := TX5) (N := 8) rfl rfl hl.1 rfl (Nat.le_of_ble_eq_true rfl) dX5_findSteps_4) S (fun r17 σ16 H locs h S => ?_)
  refine lv_istore (lv' := [(4, .int r17), (0, .ref (G.2.2 + 90)), (1, .int x1), (2, .ref (G.2.2 + 5)), (3, .ref (G.2.2 + 1))]) C.1 C.2.1 dX5_findSteps_7 hl (by decide) rfl (fun ls hl => ?_)
  refine lv_iload C.1 C.2.1 dX5_findSteps_9 (lv_at hl 0 rfl) ?_
  refine lv_if_lt (tgt := 22) C.1 C.2.1 dX5_findSteps_11 (by decide) (fun c18 => ?_) (fun c18 => ?_)
  · replace h := h.1 c18
    refine lv_iconst (v := (0 : Int32)) C.1 C.2.1 dX5_findSteps_22 (by decide) ?_
    refine lv_istore (lv' := [(5, .int (0 : Int32)), (4, .int r17), (0, .ref (G.2.2 + 90)), (1, .int x1), (2, .ref (G.2.2 + 5)), (3, .ref (G.2.2 + 1))]) C.1 C.2.1 dX5_findSteps_23 hl (by decide) rfl (fun ls hl => ?_)
    refine lv_iconst (v := (0 : Int32)) C.1 C.2.1 dX5_findSteps_25 (by decide) ?_
    refine lv_istore (lv' := [(6, .int (0 : Int32)), (5, .int (0 : Int32)), (4, .int r17), (0, .ref (G.2.2 + 90)), (1, .int x1), (2, .ref (G.2.2 + 5)), (3, .ref (G.2.2 + 1))]) C.1 C.2.1 dX5_findSteps_26 hl (by decide) rfl (fun ls hl => ?_)
    refine lv_iconst (v := (0 : Int32)) C.1 C.2.1 dX5_findSteps_28 (by decide) ?_
    refine lv_istore (lv' := [(7, .int (0 : Int32)), (6, .int (0 : Int32)), (5, .int (0 : Int32)), (4, .int r17), (0, .ref (G.2.2 + 90)), (1, .int x1), (2, .ref (G.2.2 + 5)), (3, .ref (G.2.2 + 1))]) C.1 C.2.1 dX5_findSteps_29 hl (by decide) rfl (fun ls hl => ?_)
    obtain ⟨nf, h⟩ := h
    exact TX5_findSteps_31 C hml hcs hR nf r17 ((0 : Int32)) ((0 : Int32)) ((0 : Int32)) S (lv_sub hl [4, 5, 6, 7, 3, 2, 1, 0] rfl) h
  · replace h := h.2 c18
    refine lv_aload_n C.1 C.2.1 dX5_findSteps_14 rfl (lv_at hl 3 rfl) ?_
    refine lv_iload_n C.1 C.2.1 dX5_findSteps_15 rfl (lv_at hl 2 rfl) ?_
    refine k_i (r_VN (As := [.int x1]) (rest := []) C hml (c_X1_followers l G 5 x1 σ16 _ kd_5 h) kM_X1_followers im_X1_followers se_X1_followers nm_X5_70 ⟨rfl, rfl⟩ ⟨Nat.le_of_ble_eq_true rfl, Nat.le_of_ble_eq_true rfl⟩ hcs S kd_5 (by decide) (T := TX1) (N := 4) rfl rfl hl.1 rfl (Nat.le_of_ble_eq_true rfl) dX5_findSteps_16) S (fun r20 σ19 H locs h S => ?_)
    refine lv_goto (tgt := 23) C.1 C.2.1 dX5_findSteps_19 (by decide) ?_
    refine lv_istore (lv' := [(5, .int r20), (4, .int r17), (0, .ref (G.2.2 + 90)), (1, .int x1), (2, .ref (G.2.2 + 5)), (3, .ref (G.2.2 + 1))]) C.1 C.2.1 dX5_findSteps_23 hl (by decide) rfl (fun ls hl => ?_)
    refine lv_iconst (v := (0 : Int32)) C.1 C.2.1 dX5_findSteps_25 (by decide) ?_
    refine lv_istore (lv' := [(6, .int (0 : Int32)), (5, .int r20), (4, .int r17), (0, .ref (G.2.2 + 90)), (1, .int x1), (2, .ref (G.2.2 + 5)), (3, .ref (G.2.2 + 1))]) C.1 C.2.1 dX5_findSteps_26 hl (by decide) rfl (fun ls hl => ?_)
    refine lv_iconst (v := (0 : Int32)) C.1 C.2.1 dX5_findSteps_28 (by decide) ?_
    refine lv_istore (lv' := [(7, .int (0 : Int32)), (6, .int (0 : Int32)), (5, .int r20), (4, .int r17), (0, .ref (G.2.2 + 90)), (1, .int x1), (2, .ref (G.2.2 + 5)), (3, .ref (G.2.2 + 1))]) C.1 C.2.1 dX5_findSteps_29 hl (by decide) rfl (fun ls hl => ?_)
    obtain ⟨nf, h⟩ := h
    exact TX5_findSteps_31 C hml hcs hR nf r17 r20 ((0 : Int32)) ((0 : Int32)) S (lv_sub hl [4, 5, 6, 7, 3, 2, 1, 0] rfl) h
/-! X5_findEnds -/
abbrev rm_X5_findEnds : Room := { frames := 4, cells := 0, slots := 0, locals := 98 }
def BX5_findEnds_51  (post : Sg → Prop) : Nat → Int32 → Int32 → Sg → Prop
  | 0, _, _, _ => False
  | n + 1, x3, x4, σ => (((x3 ≤ x4) → post σ) ∧ ((¬ x3 ≤ x4) → ((((4096 : Int32) ≤ x4) → post σ) ∧ ((¬ (4096 : Int32) ≤ x4) → (vp_in x4 4096 ∧ (∀ σ3 : Sg, σ3 = setI σ 92 (x4).toNatClampNeg ((0 : Int32)) → wpX5_endOf x4 σ3 (fun r6 σ5 => (((r6 < 0) → BX5_findEnds_51 post n x3 ((x4 + 1)) σ5) ∧ ((¬ r6 < 0) → wpX5_findSteps x4 σ5 (fun r9 σ8 => (vp_in x4 4096 ∧ (∀ σ10 : Sg, σ10 = setI σ8 92 (x4).toNatClampNeg r9 → BX5_findEnds_51 post n x3 ((x4 + 1)) σ10))))))))))))
def BX5_findEnds_8  (post : Sg → Prop) : Nat → Int32 → Int32 → Sg → Prop
  | 0, _, _, _ => False
  | n + 1, x3, x4, σ => (((x3 ≤ x4) → ∃ nf, BX5_findEnds_51 post nf x3 ((0 : Int32)) σ) ∧ ((¬ x3 ≤ x4) → ((((4096 : Int32) ≤ x4) → ∃ nf, BX5_findEnds_51 post nf x3 ((0 : Int32)) σ) ∧ ((¬ (4096 : Int32) ≤ x4) → (((¬ x4 = 0) → (vp_in x4 4096 ∧ (∀ σ15 : Sg, σ15 = setI σ 91 (x4).toNatClampNeg ((-9 : Int32)) → BX5_findEnds_8 post n x3 ((x4 + 1)) σ15))) ∧ ((x4 = 0) → (vp_in x4 4096 ∧ (∀ σ17 : Sg, σ17 = setI σ 91 (x4).toNatClampNeg ((0 : Int32)) → BX5_findEnds_8 post n x3 ((x4 + 1)) σ17))))))))
def wpX5_findEnds  (σ : Sg) (post : Sg → Prop) : Prop := wpX1_tallies 5 σ (fun r20 σ19 => ∃ nf, BX5_findEnds_8 post nf r20 ((0 : Int32)) σ19)
set_option maxHeartbeats 4000000 in
set_option maxRecDepth 100000 in
theorem TX5_findEnds_51 (C : s_C G p s args m c RX5 cX5_findEnds) (hml : c.maxLocals = 5) (hcs : cells ≤ (rm_X5_findEnds).cells ∧ slots ≤ (rm_X5_findEnds).slots)  {post : Sg → Prop} (hR : ∀ (σ1 : Sg) (H : Heap) (locs : List Loc) (pc : Nat) (ls : Array Slot), decode cX5_findEnds pc = .ok (.return_, 1) → post σ1 → s_St G σ1 H0 H locs → W p l e rm_X5_findEnds s m args below meth c H locs cells slots Q (F0 m pc ls [])) : ∀ (n : Nat) (x3 : Int32) (x4 : Int32), ∀ {σ : Sg} {H : Heap} {locs : List Loc} {ls : Array Slot}, s_St G σ H0 H locs → lv_has ls 5 [(0, .ref (G.2.2 + 90)), (1, .ref (G.2.2 + 5)), (2, .ref (G.2.2 + 1)), (3, .int x3), (4, .int x4)] → BX5_findEnds_51 post n x3 x4 σ → W p l e rm_X5_findEnds s m args below meth c H locs cells slots Q (F0 m 51 ls []) := by
  intro n
  induction n with
  | zero =>
    intro x3 x4  σ H locs ls S hl h
    exact absurd h (fun h => h)
  | succ n ih0 =>
    have ih : ∀ (x3 : Int32) (x4 : Int32), ∀ (σ : Sg) (H : Heap) (locs : List Loc) (ls : Array Slot), s_St G σ H0 H locs → lv_has ls 5 [(0, .ref (G.2.2 + 90)), (1, .ref (G.2.2 + 5)), (2, .ref (G.2.2 + 1)), (3, .int x3), (4, .int x4)] → BX5_findEnds_51 post n x3 x4 σ → W p l e rm_X5_findEnds s m args below meth c H locs cells slots Q (F0 m 51 ls []) := fun x3 x4  _ _ _ _ => ih0 x3 x4 
    intro x3 x4  σ H locs ls S hl h
    refine lv_iload C.1 C.2.1 dX5_findEnds_51 (lv_at hl 4 rfl) ?_
    refine lv_iload_n C.1 C.2.1 dX5_findEnds_53 rfl (lv_at hl 3 rfl) ?_
    refine lv_icmp_ge (tgt := 105) C.1 C.2.1 dX5_findEnds_54 (by decide) (fun c1 => ?_) (fun c1 => ?_)
    · replace h := h.1 c1
      exact hR _ _ _ _ _ dX5_findEnds_105 h S
    · replace h := h.2 c1
      refine lv_iload C.1 C.2.1 dX5_findEnds_57 (lv_at hl 4 rfl) ?_
      refine lv_aload_n C.1 C.2.1 dX5_findEnds_59 rfl (lv_at hl 0 rfl) ?_
      refine g_X5_1 C fl_X5_15 kd_90 S fn_90_1 dX5_findEnds_60 ?_
      refine a_len8 C kd_92 S (v := (4096 : Int32)) (by rw [ln_92]; rfl) dX5_findEnds_63 ?_
      refine lv_icmp_ge (tgt := 105) C.1 C.2.1 dX5_findEnds_64 (by decide) (fun c2 => ?_) (fun c2 => ?_)
      · replace h := h.1 c2
        exact hR _ _ _ _ _ dX5_findEnds_105 h S
      · replace h := h.2 c2
        refine lv_aload_n C.1 C.2.1 dX5_findEnds_67 rfl (lv_at hl 0 rfl) ?_
        refine g_X5_1 C fl_X5_15 kd_90 S fn_90_1 dX5_findEnds_68 ?_
        refine lv_iload C.1 C.2.1 dX5_findEnds_71 (lv_at hl 4 rfl) ?_
        refine lv_iconst (v := (0 : Int32)) C.1 C.2.1 dX5_findEnds_73 (by decide) ?_
        refine a_ist C kd_92 S ln_92 h.1 dX5_findEnds_74 (fun σ3 H locs e4 S => ?_)
        replace h := h.2 σ3 e4
        refine lv_aload_n C.1 C.2.1 dX5_findEnds_75 rfl (lv_at hl 0 rfl) ?_
        refine lv_iload C.1 C.2.1 dX5_findEnds_76 (lv_at hl 4 rfl) ?_
        refine k_i (r_V (As := [.int x4]) (rest := []) C hml (c_X5_endOf l G x4 σ3 _ h) kM_X5_endOf im_X5_endOf se_X5_endOf ml_X5_59 ⟨rfl, rfl⟩ ⟨Nat.le_of_ble_eq_true rfl, Nat.le_of_ble_eq_true rfl⟩ hcs S kd_90 (by decide) (T := TX5) (N := 8) rfl rfl hl.1 rfl (Nat.le_of_ble_eq_true rfl) dX5_findEnds_78) S (fun r6 σ5 H locs h S => ?_)
        refine lv_if_lt (tgt := 99) C.1 C.2.1 dX5_findEnds_81 (by decide) (fun c7 => ?_) (fun c7 => ?_)
        · replace h := h.1 c7
          refine lv_iinc (v := (x4 + 1)) (lv' := [(4, .int (x4 + 1)), (0, .ref (G.2.2 + 90)), (1, .ref (G.2.2 + 5)), (2, .ref (G.2.2 + 1)), (3, .int x3)]) C.1 C.2.1 dX5_findEnds_99 hl (k := 4) rfl rfl (by decide) rfl (fun ls hl => ?_)
          refine lv_goto (tgt := 51) C.1 C.2.1 dX5_findEnds_102 (by decide) ?_
          exact ih x3 ((x4 + 1)) _ _ _ _ S (lv_sub hl [1, 2, 3, 4, 0] rfl) h
        · replace h := h.2 c7
          refine lv_aload_n C.1 C.2.1 dX5_findEnds_84 rfl (lv_at hl 0 rfl) ?_
          refine g_X5_1 C fl_X5_15 kd_90 S fn_90_1 dX5_findEnds_85 ?_
          refine lv_iload C.1 C.2.1 dX5_findEnds_88 (lv_at hl 4 rfl) ?_
          refine lv_aload_n C.1 C.2.1 dX5_findEnds_90 rfl (lv_at hl 0 rfl) ?_
          refine lv_iload C.1 C.2.1 dX5_findEnds_91 (lv_at hl 4 rfl) ?_
          refine lv_aload_n C.1 C.2.1 dX5_findEnds_93 rfl (lv_at hl 1 rfl) ?_
          refine lv_aload_n C.1 C.2.1 dX5_findEnds_94 rfl (lv_at hl 2 rfl) ?_
          refine k_i (r_V (As := [.int x4, .ref (G.2.2 + 5), .ref (G.2.2 + 1)]) (rest := [.int x4, .ref (G.2.2 + 92)]) C hml (c_X5_findSteps l G x4 σ5 _ h) kM_X5_findSteps im_X5_findSteps se_X5_findSteps ml_X5_63 ⟨rfl, rfl⟩ ⟨Nat.le_of_ble_eq_true rfl, Nat.le_of_ble_eq_true rfl⟩ hcs S kd_90 (by decide) (T := TX5) (N := 8) rfl rfl hl.1 rfl (Nat.le_of_ble_eq_true rfl) dX5_findEnds_95) S (fun r9 σ8 H locs h S => ?_)
          refine a_ist C kd_92 S ln_92 h.1 dX5_findEnds_98 (fun σ10 H locs e11 S => ?_)
          replace h := h.2 σ10 e11
          refine lv_iinc (v := (x4 + 1)) (lv' := [(4, .int (x4 + 1)), (0, .ref (G.2.2 + 90)), (1, .ref (G.2.2 + 5)), (2, .ref (G.2.2 + 1)), (3, .int x3)]) C.1 C.2.1 dX5_findEnds_99 hl (k := 4) rfl rfl (by decide) rfl (fun ls hl => ?_)
          refine lv_goto (tgt := 51) C.1 C.2.1 dX5_findEnds_102 (by decide) ?_
          exact ih x3 ((x4 + 1)) _ _ _ _ S (lv_sub hl [1, 2, 3, 4, 0] rfl) h
set_option maxHeartbeats 4000000 in
set_option maxRecDepth 100000 in
theorem TX5_findEnds_8 (C : s_C G p s args m c RX5 cX5_findEnds) (hml : c.maxLocals = 5) (hcs : cells ≤ (rm_X5_findEnds).cells ∧ slots ≤ (rm_X5_findEnds).slots)  {post : Sg → Prop} (hR : ∀ (σ1 : Sg) (H : Heap) (locs : List Loc) (pc : Nat) (ls : Array Slot), decode cX5_findEnds pc = .ok (.return_, 1) → post σ1 → s_St G σ1 H0 H locs → W p l e rm_X5_findEnds s m args below meth c H locs cells slots Q (F0 m pc ls [])) : ∀ (n : Nat) (x3 : Int32) (x4 : Int32), ∀ {σ : Sg} {H : Heap} {locs : List Loc} {ls : Array Slot}, s_St G σ H0 H locs → lv_has ls 5 [(0, .ref (G.2.2 + 90)), (1, .ref (G.2.2 + 5)), (2, .ref (G.2.2 + 1)), (3, .int x3), (4, .int x4)] → BX5_findEnds_8 post n x3 x4 σ → W p l e rm_X5_findEnds s m args below meth c H locs cells slots Q (F0 m 8 ls []) := by
  intro n
  induction n with
  | zero =>
    intro x3 x4  σ H locs ls S hl h
    exact absurd h (fun h => h)
  | succ n ih0 =>
    have ih : ∀ (x3 : Int32) (x4 : Int32), ∀ (σ : Sg) (H : Heap) (locs : List Loc) (ls : Array Slot), s_St G σ H0 H locs → lv_has ls 5 [(0, .ref (G.2.2 + 90)), (1, .ref (G.2.2 + 5)), (2, .ref (G.2.2 + 1)), (3, .int x3), (4, .int x4)] → BX5_findEnds_8 post n x3 x4 σ → W p l e rm_X5_findEnds s m args below meth c H locs cells slots Q (F0 m 8 ls []) := fun x3 x4  _ _ _ _ => ih0 x3 x4 
    intro x3 x4  σ H locs ls S hl h
    refine lv_iload C.1 C.2.1 dX5_findEnds_8 (lv_at hl 4 rfl) ?_
    refine lv_iload_n C.1 C.2.1 dX5_findEnds_10 rfl (lv_at hl 3 rfl) ?_
    refine lv_icmp_ge (tgt := 48) C.1 C.2.1 dX5_findEnds_11 (by decide) (fun c12 => ?_) (fun c12 => ?_)
    · replace h := h.1 c12
      refine lv_iconst (v := (0 : Int32)) C.1 C.2.1 dX5_findEnds_48 (by decide) ?_
      refine lv_istore (lv' := [(4, .int (0 : Int32)), (0, .ref (G.2.2 + 90)), (1, .ref (G.2.2 + 5)), (2, .ref (G.2.2 + 1)), (3, .int x3)]) C.1 C.2.1 dX5_findEnds_49 hl (by decide) rfl (fun ls hl => ?_)
      obtain ⟨nf, h⟩ := h
      exact TX5_findEnds_51 C hml hcs hR nf x3 ((0 : Int32)) S (lv_sub hl [1, 2, 3, 4, 0] rfl) h
    · replace h := h.2 c12
      refine lv_iload C.1 C.2.1 dX5_findEnds_14 (lv_at hl 4 rfl) ?_
      refine lv_aload_n C.1 C.2.1 dX5_findEnds_16 rfl (lv_at hl 0 rfl) ?_
      refine g_X5_0 C fl_X5_9 kd_90 S fn_90_0 dX5_findEnds_17 ?_
      refine a_len8 C kd_91 S (v := (4096 : Int32)) (by rw [ln_91]; rfl) dX5_findEnds_20 ?_
      refine lv_icmp_ge (tgt := 48) C.1 C.2.1 dX5_findEnds_21 (by decide) (fun c13 => ?_) (fun c13 => ?_)
      · replace h := h.1 c13
        refine lv_iconst (v := (0 : Int32)) C.1 C.2.1 dX5_findEnds_48 (by decide) ?_
        refine lv_istore (lv' := [(4, .int (0 : Int32)), (0, .ref (G.2.2 + 90)), (1, .ref (G.2.2 + 5)), (2, .ref (G.2.2 + 1)), (3, .int x3)]) C.1 C.2.1 dX5_findEnds_49 hl (by decide) rfl (fun ls hl => ?_)
        obtain ⟨nf, h⟩ := h
        exact TX5_findEnds_51 C hml hcs hR nf x3 ((0 : Int32)) S (lv_sub hl [1, 2, 3, 4, 0] rfl) h
      · replace h := h.2 c13
        refine lv_aload_n C.1 C.2.1 dX5_findEnds_24 rfl (lv_at hl 0 rfl) ?_
        refine g_X5_0 C fl_X5_9 kd_90 S fn_90_0 dX5_findEnds_25 ?_
        refine lv_iload C.1 C.2.1 dX5_findEnds_28 (lv_at hl 4 rfl) ?_
        refine lv_iload C.1 C.2.1 dX5_findEnds_30 (lv_at hl 4 rfl) ?_
        refine lv_if_ne (tgt := 39) C.1 C.2.1 dX5_findEnds_32 (by decide) (fun c14 => ?_) (fun c14 => ?_)
        · replace h := h.1 c14
          refine lv_bipush (v := (-9 : Int32)) C.1 C.2.1 dX5_findEnds_39 (by decide) ?_
          refine a_ist C kd_91 S ln_91 h.1 dX5_findEnds_41 (fun σ15 H locs e16 S => ?_)
          replace h := h.2 σ15 e16
          refine lv_iinc (v := (x4 + 1)) (lv' := [(4, .int (x4 + 1)), (0, .ref (G.2.2 + 90)), (1, .ref (G.2.2 + 5)), (2, .ref (G.2.2 + 1)), (3, .int x3)]) C.1 C.2.1 dX5_findEnds_42 hl (k := 4) rfl rfl (by decide) rfl (fun ls hl => ?_)
          refine lv_goto (tgt := 8) C.1 C.2.1 dX5_findEnds_45 (by decide) ?_
          exact ih x3 ((x4 + 1)) _ _ _ _ S (lv_sub hl [1, 2, 3, 4, 0] rfl) h
        · replace h := h.2 c14
          refine lv_iconst (v := (0 : Int32)) C.1 C.2.1 dX5_findEnds_35 (by decide) ?_
          refine lv_goto (tgt := 41) C.1 C.2.1 dX5_findEnds_36 (by decide) ?_
          refine a_ist C kd_91 S ln_91 h.1 dX5_findEnds_41 (fun σ17 H locs e18 S => ?_)
          replace h := h.2 σ17 e18
          refine lv_iinc (v := (x4 + 1)) (lv' := [(4, .int (x4 + 1)), (0, .ref (G.2.2 + 90)), (1, .ref (G.2.2 + 5)), (2, .ref (G.2.2 + 1)), (3, .int x3)]) C.1 C.2.1 dX5_findEnds_42 hl (k := 4) rfl rfl (by decide) rfl (fun ls hl => ?_)
          refine lv_goto (tgt := 8) C.1 C.2.1 dX5_findEnds_45 (by decide) ?_
          exact ih x3 ((x4 + 1)) _ _ _ _ S (lv_sub hl [1, 2, 3, 4, 0] rfl) h
theorem kM_X5_findEnds : s_M yX5_findEnds cX5_findEnds 5 none 2 := ⟨co_X5_findEnds, in_X5, by decide, by decide, by decide +kernel⟩
set_option maxHeartbeats 4000000 in
set_option maxRecDepth 100000 in
theorem c_X5_findEnds (l : Launch) (G : s_G)  (σ : Sg) (post : Sg → Prop) (h : wpX5_findEnds σ post) : Met l yX5_findEnds (wsU yX5_findEnds cX5_findEnds 5 none) rm_X5_findEnds (va_Pc [.ref (G.2.2 + 90), .ref (G.2.2 + 5), .ref (G.2.2 + 1)] (s_Pre G σ)) (va_Qv post (s_B G) (s_A G.2.2)) 0 0 (s_A G.2.2) := by
  refine Met.ofW (cc := cX5_findEnds) (maxL := 5) (ret := none) (by decide) rfl ?_
  intro p e s m args below meth c s₁ B hml hv
  obtain ⟨rfl, hP, hrok, hK, hN⟩ := hv
  have C : s_C G p s (([.ref (G.2.2 + 90), .ref (G.2.2 + 5), .ref (G.2.2 + 1)] : List Value).toArray) m c RX5 cX5_findEnds := ⟨B.exec, B.bytes, findClass_of_methodNamed B.named, fun w hw => atoms_spec (ws := wsU yX5_findEnds cX5_findEnds 5 none) B.pre w (List.mem_cons_of_mem _ hw), hK, hN⟩
  have hr := B.returns
  have hlocks := B.notSynchronized
  have S : s_St G σ s.heap s.heap [] := ⟨hP, va_S.rf, hrok⟩
  have hcs : 0 ≤ (rm_X5_findEnds).cells ∧ 0 ≤ (rm_X5_findEnds).slots := ⟨Nat.le_refl 0, Nat.le_refl 0⟩
  have hR : ∀ (σ1 : Sg) (H : Heap) (locs : List Loc) (pc : Nat) (ls : Array Slot), decode cX5_findEnds pc = .ok (.return_, 1) → post σ1 → s_St G σ1 s.heap H locs → W p l e rm_X5_findEnds s m ([.ref (G.2.2 + 90), .ref (G.2.2 + 5), .ref (G.2.2 + 1)] : List Value).toArray below meth c H locs 0 0 (MQ below (va_Qv post (s_B G) (s_A G.2.2)) ([.ref (G.2.2 + 90), .ref (G.2.2 + 5), .ref (G.2.2 + 1)] : List Value).toArray s 0 0 (s_A G.2.2)) (F0 m pc ls []) := fun _ _ _ _ _ hd hp S => ret_v C hr hlocks hd hp S
  have hl := lv_entry ([.ref (G.2.2 + 90), .ref (G.2.2 + 5), .ref (G.2.2 + 1)]) (n := 5) (Nat.le_of_ble_eq_true rfl)
  rw [lg_entry_eq]
  generalize (lg_sl ([.ref (G.2.2 + 90), .ref (G.2.2 + 5), .ref (G.2.2 + 1)]) ++ List.replicate (5 - (lg_sl ([.ref (G.2.2 + 90), .ref (G.2.2 + 5), .ref (G.2.2 + 1)])).length) Slot.unset).toArray = ls at hl ⊢
  have hl : lv_has ls 5 [(0, .ref (G.2.2 + 90)), (1, .ref (G.2.2 + 5)), (2, .ref (G.2.2 + 1))] := hl
  unfold wpX5_findEnds at h
  refine lv_aload_n C.1 C.2.1 dX5_findEnds_0 rfl (lv_at hl 1 rfl) ?_
  refine k_i (r_VN (As := []) (rest := []) C hml (c_X1_tallies l G 5 σ _ kd_5 h) kM_X1_tallies im_X1_tallies se_X1_tallies nm_X5_53 ⟨rfl, rfl⟩ ⟨Nat.le_of_ble_eq_true rfl, Nat.le_of_ble_eq_true rfl⟩ hcs S kd_5 (by decide) (T := TX1) (N := 4) rfl rfl hl.1 rfl (Nat.le_of_ble_eq_true rfl) dX5_findEnds_1) S (fun r20 σ19 H locs h S => ?_)
  refine lv_istore_n (lv' := [(3, .int r20), (0, .ref (G.2.2 + 90)), (1, .ref (G.2.2 + 5)), (2, .ref (G.2.2 + 1))]) C.1 C.2.1 dX5_findEnds_4 rfl hl (by decide) rfl (fun ls hl => ?_)
  refine lv_iconst (v := (0 : Int32)) C.1 C.2.1 dX5_findEnds_5 (by decide) ?_
  refine lv_istore (lv' := [(4, .int (0 : Int32)), (3, .int r20), (0, .ref (G.2.2 + 90)), (1, .ref (G.2.2 + 5)), (2, .ref (G.2.2 + 1))]) C.1 C.2.1 dX5_findEnds_6 hl (by decide) rfl (fun ls hl => ?_)
  obtain ⟨nf, h⟩ := h
  exact TX5_findEnds_8 C hml hcs hR nf r20 ((0 : Int32)) S (lv_sub hl [2, 3, 4, 1, 0] rfl) h
/-! X5_firstBehind -/
abbrev rm_X5_firstBehind : Room := { frames := 1, cells := 0, slots := 0, locals := 21 }
def BX5_firstBehind_2 (x1 : Int32) (post : Int32 → Sg → Prop) : Nat → Int32 → Sg → Prop
  | 0, _, _ => False
  | n + 1, x3, σ => ((((σ.1 5 2) ≤ x3) → post ((-9 : Int32)) σ) ∧ ((¬ (σ.1 5 2) ≤ x3) → wpX5_stepsFrom x1 σ (fun r3 σ2 => wpX6_bitOf r3 x3 σ2 (fun r5 σ4 => (((¬ r5 = (1 : Int32)) → BX5_firstBehind_2 x1 post n ((x3 + 1)) σ4) ∧ ((r5 = (1 : Int32)) → wpX6_withOneMore x1 x3 σ4 (fun r8 σ7 => wpX5_waysFrom r8 σ7 (fun r10 σ9 => ((((lg_cmp r10 (0 : Int64)) ≤ 0) → BX5_firstBehind_2 x1 post n ((x3 + 1)) σ9) ∧ ((¬ (lg_cmp r10 (0 : Int64)) ≤ 0) → post x3 σ9))))))))))
def wpX5_firstBehind (x1 : Int32) (σ : Sg) (post : Int32 → Sg → Prop) : Prop := ∃ nf, BX5_firstBehind_2 x1 post nf ((0 : Int32)) σ
set_option maxHeartbeats 4000000 in
set_option maxRecDepth 100000 in
theorem TX5_firstBehind_2 (C : s_C G p s args m c RX5 cX5_firstBehind) (hml : c.maxLocals = 4) (hcs : cells ≤ (rm_X5_firstBehind).cells ∧ slots ≤ (rm_X5_firstBehind).slots) {x1 : Int32} {post : Int32 → Sg → Prop} (hR : ∀ (r : Int32) (σ1 : Sg) (H : Heap) (locs : List Loc) (pc : Nat) (ls : Array Slot), decode cX5_firstBehind pc = .ok (.ireturn, 1) → post r σ1 → s_St G σ1 H0 H locs → W p l e rm_X5_firstBehind s m args below meth c H locs cells slots Q (F0 m pc ls [.int r])) : ∀ (n : Nat) (x3 : Int32), ∀ {σ : Sg} {H : Heap} {locs : List Loc} {ls : Array Slot}, s_St G σ H0 H locs → lv_has ls 4 [(0, .ref (G.2.2 + 90)), (1, .int x1), (2, .ref (G.2.2 + 5)), (3, .int x3)] → BX5_firstBehind_2 x1 post n x3 σ → W p l e rm_X5_firstBehind s m args below meth c H locs cells slots Q (F0 m 2 ls []) := by
  intro n
  induction n with
  | zero =>
    intro x3  σ H locs ls S hl h
    exact absurd h (fun h => h)
  | succ n ih0 =>
    have ih : ∀ (x3 : Int32), ∀ (σ : Sg) (H : Heap) (locs : List Loc) (ls : Array Slot), s_St G σ H0 H locs → lv_has ls 4 [(0, .ref (G.2.2 + 90)), (1, .int x1), (2, .ref (G.2.2 + 5)), (3, .int x3)] → BX5_firstBehind_2 x1 post n x3 σ → W p l e rm_X5_firstBehind s m args below meth c H locs cells slots Q (F0 m 2 ls []) := fun x3  _ _ _ _ => ih0 x3 
    intro x3  σ H locs ls S hl h
    refine lv_iload_n C.1 C.2.1 dX5_firstBehind_2 rfl (lv_at hl 3 rfl) ?_
    refine lv_aload_n C.1 C.2.1 dX5_firstBehind_3 rfl (lv_at hl 2 rfl) ?_
    refine gn_X1_2 C nf_X5_73 kd_5 S dX5_firstBehind_4 ?_
    refine lv_icmp_ge (tgt := 45) C.1 C.2.1 dX5_firstBehind_7 (by decide) (fun c1 => ?_) (fun c1 => ?_)
    · replace h := h.1 c1
      refine lv_bipush (v := (-9 : Int32)) C.1 C.2.1 dX5_firstBehind_45 (by decide) ?_
      exact hR _ _ _ _ _ _ dX5_firstBehind_47 h S
    · replace h := h.2 c1
      refine lv_aload_n C.1 C.2.1 dX5_firstBehind_10 rfl (lv_at hl 0 rfl) ?_
      refine lv_iload_n C.1 C.2.1 dX5_firstBehind_11 rfl (lv_at hl 1 rfl) ?_
      refine k_i (r_V (As := [.int x1]) (rest := []) C hml (c_X5_stepsFrom l G x1 σ _ h) kM_X5_stepsFrom im_X5_stepsFrom se_X5_stepsFrom ml_X5_111 ⟨rfl, rfl⟩ ⟨Nat.le_of_ble_eq_true rfl, Nat.le_of_ble_eq_true rfl⟩ hcs S kd_90 (by decide) (T := TX5) (N := 8) rfl rfl hl.1 rfl (Nat.le_of_ble_eq_true rfl) dX5_firstBehind_12) S (fun r3 σ2 H locs h S => ?_)
      refine lv_iload_n C.1 C.2.1 dX5_firstBehind_15 rfl (lv_at hl 3 rfl) ?_
      refine k_i (r_SN (As := [.int r3, .int x3]) (rest := []) C hml (c_X6_bitOf l G r3 x3 σ2 _ h) kM_X6_bitOf st_X6_bitOf nm_X5_74 ⟨rfl, rfl⟩ ⟨Nat.le_of_ble_eq_true rfl, Nat.le_of_ble_eq_true rfl⟩ hcs S rfl hl.1 rfl (Nat.le_of_ble_eq_true rfl) dX5_firstBehind_16) S (fun r5 σ4 H locs h S => ?_)
      refine lv_iconst (v := (1 : Int32)) C.1 C.2.1 dX5_firstBehind_19 (by decide) ?_
      refine lv_icmp_ne (tgt := 39) C.1 C.2.1 dX5_firstBehind_20 (by decide) (fun c6 => ?_) (fun c6 => ?_)
      · replace h := h.1 c6
        refine lv_iinc (v := (x3 + 1)) (lv' := [(3, .int (x3 + 1)), (0, .ref (G.2.2 + 90)), (1, .int x1), (2, .ref (G.2.2 + 5))]) C.1 C.2.1 dX5_firstBehind_39 hl (k := 3) rfl rfl (by decide) rfl (fun ls hl => ?_)
        refine lv_goto (tgt := 2) C.1 C.2.1 dX5_firstBehind_42 (by decide) ?_
        exact ih ((x3 + 1)) _ _ _ _ S (lv_sub hl [1, 2, 3, 0] rfl) h
      · replace h := h.2 c6
        refine lv_aload_n C.1 C.2.1 dX5_firstBehind_23 rfl (lv_at hl 0 rfl) ?_
        refine lv_iload_n C.1 C.2.1 dX5_firstBehind_24 rfl (lv_at hl 1 rfl) ?_
        refine lv_iload_n C.1 C.2.1 dX5_firstBehind_25 rfl (lv_at hl 3 rfl) ?_
        refine k_i (r_SN (As := [.int x1, .int x3]) (rest := [.ref (G.2.2 + 90)]) C hml (c_X6_withOneMore l G x1 x3 σ4 _ h) kM_X6_withOneMore st_X6_withOneMore nm_X5_87 ⟨rfl, rfl⟩ ⟨Nat.le_of_ble_eq_true rfl, Nat.le_of_ble_eq_true rfl⟩ hcs S rfl hl.1 rfl (Nat.le_of_ble_eq_true rfl) dX5_firstBehind_26) S (fun r8 σ7 H locs h S => ?_)
        refine k_l (r_V (As := [.int r8]) (rest := []) C hml (c_X5_waysFrom l G r8 σ7 _ h) kM_X5_waysFrom im_X5_waysFrom se_X5_waysFrom ml_X5_45 ⟨rfl, rfl⟩ ⟨Nat.le_of_ble_eq_true rfl, Nat.le_of_ble_eq_true rfl⟩ hcs S kd_90 (by decide) (T := TX5) (N := 8) rfl rfl hl.1 rfl (Nat.le_of_ble_eq_true rfl) dX5_firstBehind_29) S (fun r10 σ9 H locs h S => ?_)
        refine lv_lconst (v := (0 : Int64)) C.1 C.2.1 dX5_firstBehind_32 (by decide) ?_
        refine W.lcmp C.1 C.2.1 dX5_firstBehind_33 ?_
        refine lv_if_le (tgt := 39) C.1 C.2.1 dX5_firstBehind_34 (by decide) (fun c11 => ?_) (fun c11 => ?_)
        · replace h := h.1 c11
          refine lv_iinc (v := (x3 + 1)) (lv' := [(3, .int (x3 + 1)), (0, .ref (G.2.2 + 90)), (1, .int x1), (2, .ref (G.2.2 + 5))]) C.1 C.2.1 dX5_firstBehind_39 hl (k := 3) rfl rfl (by decide) rfl (fun ls hl => ?_)
          refine lv_goto (tgt := 2) C.1 C.2.1 dX5_firstBehind_42 (by decide) ?_
          exact ih ((x3 + 1)) _ _ _ _ S (lv_sub hl [1, 2, 3, 0] rfl) h
        · replace h := h.2 c11
          refine lv_iload_n C.1 C.2.1 dX5_firstBehind_37 rfl (lv_at hl 3 rfl) ?_
          exact hR _ _ _ _ _ _ dX5_firstBehind_38 h S
theorem kM_X5_firstBehind : s_M yX5_firstBehind cX5_firstBehind 4 (some .int) 2 := ⟨co_X5_firstBehind, in_X5, by decide, by decide, by decide +kernel⟩
set_option maxHeartbeats 4000000 in
set_option maxRecDepth 100000 in
theorem c_X5_firstBehind (l : Launch) (G : s_G) (x1 : Int32) (σ : Sg) (post : Int32 → Sg → Prop) (h : wpX5_firstBehind x1 σ post) : Met l yX5_firstBehind (wsU yX5_firstBehind cX5_firstBehind 4 (some .int)) rm_X5_firstBehind (va_Pc [.ref (G.2.2 + 90), .int x1, .ref (G.2.2 + 5)] (s_Pre G σ)) (va_Qi post (s_B G) (s_A G.2.2)) 0 0 (s_A G.2.2) := by
  refine Met.ofW (cc := cX5_firstBehind) (maxL := 4) (ret := (some .int)) (by decide) rfl ?_
  intro p e s m args below meth c s₁ B hml hv
  obtain ⟨rfl, hP, hrok, hK, hN⟩ := hv
  have C : s_C G p s (([.ref (G.2.2 + 90), .int x1, .ref (G.2.2 + 5)] : List Value).toArray) m c RX5 cX5_firstBehind := ⟨B.exec, B.bytes, findClass_of_methodNamed B.named, fun w hw => atoms_spec (ws := wsU yX5_firstBehind cX5_firstBehind 4 (some .int)) B.pre w (List.mem_cons_of_mem _ hw), hK, hN⟩
  have hr := B.returns
  have hlocks := B.notSynchronized
  have S : s_St G σ s.heap s.heap [] := ⟨hP, va_S.rf, hrok⟩
  have hcs : 0 ≤ (rm_X5_firstBehind).cells ∧ 0 ≤ (rm_X5_firstBehind).slots := ⟨Nat.le_refl 0, Nat.le_refl 0⟩
  have hR : ∀ (r : Int32) (σ1 : Sg) (H : Heap) (locs : List Loc) (pc : Nat) (ls : Array Slot), decode cX5_firstBehind pc = .ok (.ireturn, 1) → post r σ1 → s_St G σ1 s.heap H locs → W p l e rm_X5_firstBehind s m ([.ref (G.2.2 + 90), .int x1, .ref (G.2.2 + 5)] : List Value).toArray below meth c H locs 0 0 (MQ below (va_Qi post (s_B G) (s_A G.2.2)) ([.ref (G.2.2 + 90), .int x1, .ref (G.2.2 + 5)] : List Value).toArray s 0 0 (s_A G.2.2)) (F0 m pc ls [.int r]) := fun _ _ _ _ _ _ hd hp S => ret_i C hr hlocks hd hp S
  have hl := lv_entry ([.ref (G.2.2 + 90), .int x1, .ref (G.2.2 + 5)]) (n := 4) (Nat.le_of_ble_eq_true rfl)
  rw [lg_entry_eq]
  generalize (lg_sl ([.ref (G.2.2 + 90), .int x1, .ref (G.2.2 + 5)]) ++ List.replicate (4 - (lg_sl ([.ref (G.2.2 + 90), .int x1, .ref (G.2.2 + 5)])).length) Slot.unset).toArray = ls at hl ⊢
  have hl : lv_has ls 4 [(0, .ref (G.2.2 + 90)), (1, .int x1), (2, .ref (G.2.2 + 5))] := hl
  unfold wpX5_firstBehind at h
  refine lv_iconst (v := (0 : Int32)) C.1 C.2.1 dX5_firstBehind_0 (by decide) ?_
  refine lv_istore_n (lv' := [(3, .int (0 : Int32)), (0, .ref (G.2.2 + 90)), (1, .int x1), (2, .ref (G.2.2 + 5))]) C.1 C.2.1 dX5_firstBehind_1 rfl hl (by decide) rfl (fun ls hl => ?_)
  obtain ⟨nf, h⟩ := h
  exact TX5_firstBehind_2 C hml hcs hR nf ((0 : Int32)) S (lv_sub hl [1, 2, 3, 0] rfl) h
/-! X5_forget -/
abbrev rm_X5_forget : Room := { frames := 0, cells := 0, slots := 0, locals := 0 }
def wpX5_forget  (σ : Sg) (post : Sg → Prop) : Prop := (∀ σ1 : Sg, σ1 = setI σ 90 7 ((0 : Int32)) → post σ1)
theorem kM_X5_forget : s_M yX5_forget cX5_forget 1 none 0 := ⟨co_X5_forget, in_X5, by decide, by decide, by decide +kernel⟩
set_option maxHeartbeats 4000000 in
set_option maxRecDepth 100000 in
theorem c_X5_forget (l : Launch) (G : s_G)  (σ : Sg) (post : Sg → Prop) (h : wpX5_forget σ post) : Met l yX5_forget (wsU yX5_forget cX5_forget 1 none) rm_X5_forget (va_Pc [.ref (G.2.2 + 90)] (s_Pre G σ)) (va_Qv post (s_B G) (s_A G.2.2)) 0 0 (s_A G.2.2) := by
  refine Met.ofW (cc := cX5_forget) (maxL := 1) (ret := none) (by decide) rfl ?_
  intro p e s m args below meth c s₁ B hml hv
  obtain ⟨rfl, hP, hrok, hK, hN⟩ := hv
  have C : s_C G p s (([.ref (G.2.2 + 90)] : List Value).toArray) m c RX5 cX5_forget := ⟨B.exec, B.bytes, findClass_of_methodNamed B.named, fun w hw => atoms_spec (ws := wsU yX5_forget cX5_forget 1 none) B.pre w (List.mem_cons_of_mem _ hw), hK, hN⟩
  have hr := B.returns
  have hlocks := B.notSynchronized
  have S : s_St G σ s.heap s.heap [] := ⟨hP, va_S.rf, hrok⟩
  have hcs : 0 ≤ (rm_X5_forget).cells ∧ 0 ≤ (rm_X5_forget).slots := ⟨Nat.le_refl 0, Nat.le_refl 0⟩
  have hR : ∀ (σ1 : Sg) (H : Heap) (locs : List Loc) (pc : Nat) (ls : Array Slot), decode cX5_forget pc = .ok (.return_, 1) → post σ1 → s_St G σ1 s.heap H locs → W p l e rm_X5_forget s m ([.ref (G.2.2 + 90)] : List Value).toArray below meth c H locs 0 0 (MQ below (va_Qv post (s_B G) (s_A G.2.2)) ([.ref (G.2.2 + 90)] : List Value).toArray s 0 0 (s_A G.2.2)) (F0 m pc ls []) := fun _ _ _ _ _ hd hp S => ret_v C hr hlocks hd hp S
  have hl := lv_entry ([.ref (G.2.2 + 90)]) (n := 1) (Nat.le_of_ble_eq_true rfl)
  rw [lg_entry_eq]
  generalize (lg_sl ([.ref (G.2.2 + 90)]) ++ List.replicate (1 - (lg_sl ([.ref (G.2.2 + 90)])).length) Slot.unset).toArray = ls at hl ⊢
  have hl : lv_has ls 1 [(0, .ref (G.2.2 + 90))] := hl
  unfold wpX5_forget at h
  refine lv_aload_n C.1 C.2.1 dX5_forget_0 rfl (lv_at hl 0 rfl) ?_
  refine lv_iconst (v := (0 : Int32)) C.1 C.2.1 dX5_forget_1 (by decide) ?_
  refine p_X5_7 C fl_X5_31 kd_90 S rfl rfl dX5_forget_2 (fun σ1 H locs e2 S => ?_)
  replace h := h σ1 e2
  exact hR _ _ _ _ _ dX5_forget_5 h S
/-! X5_listFirst -/
abbrev rm_X5_listFirst : Room := { frames := 2, cells := 0, slots := 0, locals := 47 }
def BX5_listFirst_10  (post : Sg → Prop) : Nat → Int32 → Int32 → Sg → Prop
  | 0, _, _, _ => False
  | n + 1, x3, x4, σ => ((((18 : Int32) ≤ x4) → post σ) ∧ ((¬ (18 : Int32) ≤ x4) → ((((18 : Int32) ≤ x4) → post σ) ∧ ((¬ (18 : Int32) ≤ x4) → ((((18 : Int32) ≤ x4) → post σ) ∧ ((¬ (18 : Int32) ≤ x4) → wpX5_firstBehind x3 σ (fun r5 σ4 => (((0 ≤ r5) → wpX5_startBehind x3 σ4 (fun r8 σ7 => wpX6_withOneMore x3 r5 σ7 (fun r10 σ9 => (vp_in x4 18 ∧ (∀ σ11 : Sg, σ11 = setI σ9 94 (x4).toNatClampNeg r5 → (vp_in x4 18 ∧ (∀ σ13 : Sg, σ13 = setI σ11 95 (x4).toNatClampNeg r8 → wpX1_at 5 r5 σ13 (fun q16 σ15 => s_kd q16 = 3 → wpX5_endOf r10 σ15 (fun r18 σ17 => wpX0_numberIn 1 q16 r8 r18 σ17 (fun r20 σ19 => (vp_in x4 18 ∧ (∀ σ21 : Sg, σ21 = setI σ19 96 (x4).toNatClampNeg r20 → (∀ σ23 : Sg, σ23 = setI σ21 90 6 (((σ21.1 90 6) + (1 : Int32))) → BX5_listFirst_10 post n r10 ((x4 + 1)) σ23))))))))))))) ∧ ((¬ 0 ≤ r5) → post σ4)))))))))
def wpX5_listFirst  (σ : Sg) (post : Sg → Prop) : Prop := (∀ σ25 : Sg, σ25 = setI σ 90 6 ((0 : Int32)) → ∃ nf, BX5_listFirst_10 post nf ((0 : Int32)) ((0 : Int32)) σ25)
set_option maxHeartbeats 4000000 in
set_option maxRecDepth 100000 in
theorem TX5_listFirst_10 (C : s_C G p s args m c RX5 cX5_listFirst) (hml : c.maxLocals = 7) (hcs : cells ≤ (rm_X5_listFirst).cells ∧ slots ≤ (rm_X5_listFirst).slots)  {post : Sg → Prop} (hR : ∀ (σ1 : Sg) (H : Heap) (locs : List Loc) (pc : Nat) (ls : Array Slot), decode cX5_listFirst pc = .ok (.return_, 1) → post σ1 → s_St G σ1 H0 H locs → W p l e rm_X5_listFirst s m args below meth c H locs cells slots Q (F0 m pc ls [])) : ∀ (n : Nat) (x3 : Int32) (x4 : Int32), ∀ {σ : Sg} {H : Heap} {locs : List Loc} {ls : Array Slot}, s_St G σ H0 H locs → lv_has ls 7 [(0, .ref (G.2.2 + 90)), (1, .ref (G.2.2 + 5)), (2, .ref (G.2.2 + 1)), (3, .int x3), (4, .int x4)] → BX5_listFirst_10 post n x3 x4 σ → W p l e rm_X5_listFirst s m args below meth c H locs cells slots Q (F0 m 10 ls []) := by
  intro n
  induction n with
  | zero =>
    intro x3 x4  σ H locs ls S hl h
    exact absurd h (fun h => h)
  | succ n ih0 =>
    have ih : ∀ (x3 : Int32) (x4 : Int32), ∀ (σ : Sg) (H : Heap) (locs : List Loc) (ls : Array Slot), s_St G σ H0 H locs → lv_has ls 7 [(0, .ref (G.2.2 + 90)), (1, .ref (G.2.2 + 5)), (2, .ref (G.2.2 + 1)), (3, .int x3), (4, .int x4)] → BX5_listFirst_10 post n x3 x4 σ → W p l e rm_X5_listFirst s m args below meth c H locs cells slots Q (F0 m 10 ls []) := fun x3 x4  _ _ _ _ => ih0 x3 x4 
    intro x3 x4  σ H locs ls S hl h
    refine lv_iload C.1 C.2.1 dX5_listFirst_10 (lv_at hl 4 rfl) ?_
    refine lv_aload_n C.1 C.2.1 dX5_listFirst_12 rfl (lv_at hl 0 rfl) ?_
    refine g_X5_3 C fl_X5_22 kd_90 S fn_90_3 dX5_listFirst_13 ?_
    refine a_len8 C kd_94 S (v := (18 : Int32)) (by rw [ln_94]; rfl) dX5_listFirst_16 ?_
    refine lv_icmp_ge (tgt := 128) C.1 C.2.1 dX5_listFirst_17 (by decide) (fun c1 => ?_) (fun c1 => ?_)
    · replace h := h.1 c1
      exact hR _ _ _ _ _ dX5_listFirst_128 h S
    · replace h := h.2 c1
      refine lv_iload C.1 C.2.1 dX5_listFirst_20 (lv_at hl 4 rfl) ?_
      refine lv_aload_n C.1 C.2.1 dX5_listFirst_22 rfl (lv_at hl 0 rfl) ?_
      refine g_X5_4 C fl_X5_25 kd_90 S fn_90_4 dX5_listFirst_23 ?_
      refine a_len8 C kd_95 S (v := (18 : Int32)) (by rw [ln_95]; rfl) dX5_listFirst_26 ?_
      refine lv_icmp_ge (tgt := 128) C.1 C.2.1 dX5_listFirst_27 (by decide) (fun c2 => ?_) (fun c2 => ?_)
      · replace h := h.1 c2
        exact hR _ _ _ _ _ dX5_listFirst_128 h S
      · replace h := h.2 c2
        refine lv_iload C.1 C.2.1 dX5_listFirst_30 (lv_at hl 4 rfl) ?_
        refine lv_aload_n C.1 C.2.1 dX5_listFirst_32 rfl (lv_at hl 0 rfl) ?_
        refine g_X5_5 C fl_X5_28 kd_90 S fn_90_5 dX5_listFirst_33 ?_
        refine a_len8 C kd_96 S (v := (18 : Int32)) (by rw [ln_96]; rfl) dX5_listFirst_36 ?_
        refine lv_icmp_ge (tgt := 128) C.1 C.2.1 dX5_listFirst_37 (by decide) (fun c3 => ?_) (fun c3 => ?_)
        · replace h := h.1 c3
          exact hR _ _ _ _ _ dX5_listFirst_128 h S
        · replace h := h.2 c3
          refine lv_aload_n C.1 C.2.1 dX5_listFirst_40 rfl (lv_at hl 0 rfl) ?_
          refine lv_iload_n C.1 C.2.1 dX5_listFirst_41 rfl (lv_at hl 3 rfl) ?_
          refine lv_aload_n C.1 C.2.1 dX5_listFirst_42 rfl (lv_at hl 1 rfl) ?_
          refine k_i (r_V (As := [.int x3, .ref (G.2.2 + 5)]) (rest := []) C hml (c_X5_firstBehind l G x3 σ _ h) kM_X5_firstBehind im_X5_firstBehind se_X5_firstBehind ml_X5_114 ⟨rfl, rfl⟩ ⟨Nat.le_of_ble_eq_true rfl, Nat.le_of_ble_eq_true rfl⟩ hcs S kd_90 (by decide) (T := TX5) (N := 8) rfl rfl hl.1 rfl (Nat.le_of_ble_eq_true rfl) dX5_listFirst_43) S (fun r5 σ4 H locs h S => ?_)
          refine lv_istore (lv' := [(5, .int r5), (0, .ref (G.2.2 + 90)), (1, .ref (G.2.2 + 5)), (2, .ref (G.2.2 + 1)), (3, .int x3), (4, .int x4)]) C.1 C.2.1 dX5_listFirst_46 hl (by decide) rfl (fun ls hl => ?_)
          refine lv_iload C.1 C.2.1 dX5_listFirst_48 (lv_at hl 0 rfl) ?_
          refine lv_if_ge (tgt := 54) C.1 C.2.1 dX5_listFirst_50 (by decide) (fun c6 => ?_) (fun c6 => ?_)
          · replace h := h.1 c6
            refine lv_aload_n C.1 C.2.1 dX5_listFirst_54 rfl (lv_at hl 1 rfl) ?_
            refine lv_iload_n C.1 C.2.1 dX5_listFirst_55 rfl (lv_at hl 4 rfl) ?_
            refine lv_aload_n C.1 C.2.1 dX5_listFirst_56 rfl (lv_at hl 2 rfl) ?_
            refine lv_aload_n C.1 C.2.1 dX5_listFirst_57 rfl (lv_at hl 3 rfl) ?_
            refine k_i (r_V (As := [.int x3, .ref (G.2.2 + 5), .ref (G.2.2 + 1)]) (rest := []) C hml (c_X5_startBehind l G x3 σ4 _ h) kM_X5_startBehind im_X5_startBehind se_X5_startBehind ml_X5_67 ⟨rfl, rfl⟩ ⟨Nat.le_of_ble_eq_true rfl, Nat.le_of_ble_eq_true rfl⟩ hcs S kd_90 (by decide) (T := TX5) (N := 8) rfl rfl hl.1 rfl (Nat.le_of_ble_eq_true rfl) dX5_listFirst_58) S (fun r8 σ7 H locs h S => ?_)
            refine lv_istore (lv' := [(6, .int r8), (5, .int r5), (0, .ref (G.2.2 + 90)), (1, .ref (G.2.2 + 5)), (2, .ref (G.2.2 + 1)), (3, .int x3), (4, .int x4)]) C.1 C.2.1 dX5_listFirst_61 hl (by decide) rfl (fun ls hl => ?_)
            refine lv_iload_n C.1 C.2.1 dX5_listFirst_63 rfl (lv_at hl 5 rfl) ?_
            refine lv_iload C.1 C.2.1 dX5_listFirst_64 (lv_at hl 1 rfl) ?_
            refine k_i (r_SN (As := [.int x3, .int r5]) (rest := []) C hml (c_X6_withOneMore l G x3 r5 σ7 _ h) kM_X6_withOneMore st_X6_withOneMore nm_X5_87 ⟨rfl, rfl⟩ ⟨Nat.le_of_ble_eq_true rfl, Nat.le_of_ble_eq_true rfl⟩ hcs S rfl hl.1 rfl (Nat.le_of_ble_eq_true rfl) dX5_listFirst_66) S (fun r10 σ9 H locs h S => ?_)
            refine lv_istore_n (lv' := [(3, .int r10), (6, .int r8), (5, .int r5), (0, .ref (G.2.2 + 90)), (1, .ref (G.2.2 + 5)), (2, .ref (G.2.2 + 1)), (4, .int x4)]) C.1 C.2.1 dX5_listFirst_69 rfl hl (by decide) rfl (fun ls hl => ?_)
            refine lv_aload_n C.1 C.2.1 dX5_listFirst_70 rfl (lv_at hl 3 rfl) ?_
            refine g_X5_3 C fl_X5_22 kd_90 S fn_90_3 dX5_listFirst_71 ?_
            refine lv_iload C.1 C.2.1 dX5_listFirst_74 (lv_at hl 6 rfl) ?_
            refine lv_iload C.1 C.2.1 dX5_listFirst_76 (lv_at hl 2 rfl) ?_
            refine a_ist C kd_94 S ln_94 h.1 dX5_listFirst_78 (fun σ11 H locs e12 S => ?_)
            replace h := h.2 σ11 e12
            refine lv_aload_n C.1 C.2.1 dX5_listFirst_79 rfl (lv_at hl 3 rfl) ?_
            refine g_X5_4 C fl_X5_25 kd_90 S fn_90_4 dX5_listFirst_80 ?_
            refine lv_iload C.1 C.2.1 dX5_listFirst_83 (lv_at hl 6 rfl) ?_
            refine lv_iload C.1 C.2.1 dX5_listFirst_85 (lv_at hl 1 rfl) ?_
            refine a_ist C kd_95 S ln_95 h.1 dX5_listFirst_87 (fun σ13 H locs e14 S => ?_)
            replace h := h.2 σ13 e14
            refine lv_aload_n C.1 C.2.1 dX5_listFirst_88 rfl (lv_at hl 3 rfl) ?_
            refine g_X5_5 C fl_X5_28 kd_90 S fn_90_5 dX5_listFirst_89 ?_
            refine lv_iload C.1 C.2.1 dX5_listFirst_92 (lv_at hl 6 rfl) ?_
            refine lv_aload_n C.1 C.2.1 dX5_listFirst_94 rfl (lv_at hl 5 rfl) ?_
            refine lv_aload_n C.1 C.2.1 dX5_listFirst_95 rfl (lv_at hl 4 rfl) ?_
            refine lv_iload C.1 C.2.1 dX5_listFirst_96 (lv_at hl 2 rfl) ?_
            refine k_r (kd := 3) (r_VN (As := [.int r5]) (rest := [.ref (G.2.2 + 1), .int x4, .ref (G.2.2 + 96)]) C hml (c_X1_at l G 5 r5 σ13 _ kd_5 h) kM_X1_at im_X1_at se_X1_at nm_X5_78 ⟨rfl, rfl⟩ ⟨Nat.le_of_ble_eq_true rfl, Nat.le_of_ble_eq_true rfl⟩ hcs S kd_5 (by decide) (T := TX1) (N := 4) rfl rfl hl.1 rfl (Nat.le_of_ble_eq_true rfl) dX5_listFirst_98) S (fun q16 σ15 H locs hq16 h S => ?_)
            replace h := h hq16
            refine lv_iload C.1 C.2.1 dX5_listFirst_101 (lv_at hl 1 rfl) ?_
            refine lv_aload_n C.1 C.2.1 dX5_listFirst_103 rfl (lv_at hl 3 rfl) ?_
            refine lv_iload_n C.1 C.2.1 dX5_listFirst_104 rfl (lv_at hl 0 rfl) ?_
            refine k_i (r_V (As := [.int r10]) (rest := [.int r8, .ref (G.2.2 + q16), .ref (G.2.2 + 1), .int x4, .ref (G.2.2 + 96)]) C hml (c_X5_endOf l G r10 σ15 _ h) kM_X5_endOf im_X5_endOf se_X5_endOf ml_X5_59 ⟨rfl, rfl⟩ ⟨Nat.le_of_ble_eq_true rfl, Nat.le_of_ble_eq_true rfl⟩ hcs S kd_90 (by decide) (T := TX5) (N := 8) rfl rfl hl.1 rfl (Nat.le_of_ble_eq_true rfl) dX5_listFirst_105) S (fun r18 σ17 H locs h S => ?_)
            refine k_i (r_VN (As := [.ref (G.2.2 + q16), .int r8, .int r18]) (rest := [.int x4, .ref (G.2.2 + 96)]) C hml (c_X0_numberIn l G 1 q16 r8 r18 σ17 _ kd_1 hq16 h) kM_X0_numberIn im_X0_numberIn se_X0_numberIn nm_X5_118 ⟨rfl, rfl⟩ ⟨Nat.le_of_ble_eq_true rfl, Nat.le_of_ble_eq_true rfl⟩ hcs S kd_1 (by decide) (T := TX0) (N := 2) rfl rfl hl.1 rfl (Nat.le_of_ble_eq_true rfl) dX5_listFirst_108) S (fun r20 σ19 H locs h S => ?_)
            refine a_ist C kd_96 S ln_96 h.1 dX5_listFirst_111 (fun σ21 H locs e22 S => ?_)
            replace h := h.2 σ21 e22
            refine lv_aload_n C.1 C.2.1 dX5_listFirst_112 rfl (lv_at hl 3 rfl) ?_
            refine lv_dup C.1 C.2.1 dX5_listFirst_113 rfl ?_
            refine g_X5_6 C fl_X5_49 kd_90 S dX5_listFirst_114 ?_
            refine lv_iconst (v := (1 : Int32)) C.1 C.2.1 dX5_listFirst_117 (by decide) ?_
            refine lv_iadd C.1 C.2.1 dX5_listFirst_118 ?_
            refine p_X5_6 C fl_X5_49 kd_90 S dX5_listFirst_119 (fun σ23 H locs e24 S => ?_)
            replace h := h σ23 e24
            refine lv_iinc (v := (x4 + 1)) (lv' := [(4, .int (x4 + 1)), (3, .int r10), (6, .int r8), (5, .int r5), (0, .ref (G.2.2 + 90)), (1, .ref (G.2.2 + 5)), (2, .ref (G.2.2 + 1))]) C.1 C.2.1 dX5_listFirst_122 hl (k := 6) rfl rfl (by decide) rfl (fun ls hl => ?_)
            refine lv_goto (tgt := 10) C.1 C.2.1 dX5_listFirst_125 (by decide) ?_
            exact ih r10 ((x4 + 1)) _ _ _ _ S (lv_sub hl [4, 5, 6, 1, 0] rfl) h
          · replace h := h.2 c6
            exact hR _ _ _ _ _ dX5_listFirst_53 h S
theorem kM_X5_listFirst : s_M yX5_listFirst cX5_listFirst 7 none 2 := ⟨co_X5_listFirst, in_X5, by decide, by decide, by decide +kernel⟩
set_option maxHeartbeats 4000000 in
set_option maxRecDepth 100000 in
theorem c_X5_listFirst (l : Launch) (G : s_G)  (σ : Sg) (post : Sg → Prop) (h : wpX5_listFirst σ post) : Met l yX5_listFirst (wsU yX5_listFirst cX5_listFirst 7 none) rm_X5_listFirst (va_Pc [.ref (G.2.2 + 90), .ref (G.2.2 + 5), .ref (G.2.2 + 1)] (s_Pre G σ)) (va_Qv post (s_B G) (s_A G.2.2)) 0 0 (s_A G.2.2) := by
  refine Met.ofW (cc := cX5_listFirst) (maxL := 7) (ret := none) (by decide) rfl ?_
  intro p e s m args below meth c s₁ B hml hv
  obtain ⟨rfl, hP, hrok, hK, hN⟩ := hv
  have C : s_C G p s (([.ref (G.2.2 + 90), .ref (G.2.2 + 5), .ref (G.2.2 + 1)] : List Value).toArray) m c RX5 cX5_listFirst := ⟨B.exec, B.bytes, findClass_of_methodNamed B.named, fun w hw => atoms_spec (ws := wsU yX5_listFirst cX5_listFirst 7 none) B.pre w (List.mem_cons_of_mem _ hw), hK, hN⟩
  have hr := B.returns
  have hlocks := B.notSynchronized
  have S : s_St G σ s.heap s.heap [] := ⟨hP, va_S.rf, hrok⟩
  have hcs : 0 ≤ (rm_X5_listFirst).cells ∧ 0 ≤ (rm_X5_listFirst).slots := ⟨Nat.le_refl 0, Nat.le_refl 0⟩
  have hR : ∀ (σ1 : Sg) (H : Heap) (locs : List Loc) (pc : Nat) (ls : Array Slot), decode cX5_listFirst pc = .ok (.return_, 1) → post σ1 → s_St G σ1 s.heap H locs → W p l e rm_X5_listFirst s m ([.ref (G.2.2 + 90), .ref (G.2.2 + 5), .ref (G.2.2 + 1)] : List Value).toArray below meth c H locs 0 0 (MQ below (va_Qv post (s_B G) (s_A G.2.2)) ([.ref (G.2.2 + 90), .ref (G.2.2 + 5), .ref (G.2.2 + 1)] : List Value).toArray s 0 0 (s_A G.2.2)) (F0 m pc ls []) := fun _ _ _ _ _ hd hp S => ret_v C hr hlocks hd hp S
  have hl := lv_entry ([.ref (G.2.2 + 90), .ref (G.2.2 + 5), .ref (G.2.2 + 1)]) (n := 7) (Nat.le_of_ble_eq_true rfl)
  rw [lg_entry_eq]
  generalize (lg_sl ([.ref (G.2.2 + 90), .ref (G.2.2 + 5), .ref (G.2.2 + 1)]) ++ List.replicate (7 - (lg_sl ([.ref (G.2.2 + 90), .ref (G.2.2 + 5), .ref (G.2.2 + 1)])).length) Slot.unset).toArray = ls at hl ⊢
  have hl : lv_has ls 7 [(0, .ref (G.2.2 + 90)), (1, .ref (G.2.2 + 5)), (2, .ref (G.2.2 + 1))] := hl
  unfold wpX5_listFirst at h
  refine lv_aload_n C.1 C.2.1 dX5_listFirst_0 rfl (lv_at hl 0 rfl) ?_
  refine lv_iconst (v := (0 : Int32)) C.1 C.2.1 dX5_listFirst_1 (by decide) ?_
  refine p_X5_6 C fl_X5_49 kd_90 S dX5_listFirst_2 (fun σ25 H locs e26 S => ?_)
  replace h := h σ25 e26
  refine lv_iconst (v := (0 : Int32)) C.1 C.2.1 dX5_listFirst_5 (by decide) ?_
  refine lv_istore_n (lv' := [(3, .int (0 : Int32)), (0, .ref (G.2.2 + 90)), (1, .ref (G.2.2 + 5)), (2, .ref (G.2.2 + 1))]) C.1 C.2.1 dX5_listFirst_6 rfl hl (by decide) rfl (fun ls hl => ?_)
  refine lv_iconst (v := (0 : Int32)) C.1 C.2.1 dX5_listFirst_7 (by decide) ?_
  refine lv_istore (lv' := [(4, .int (0 : Int32)), (3, .int (0 : Int32)), (0, .ref (G.2.2 + 90)), (1, .ref (G.2.2 + 5)), (2, .ref (G.2.2 + 1))]) C.1 C.2.1 dX5_listFirst_8 hl (by decide) rfl (fun ls hl => ?_)
  obtain ⟨nf, h⟩ := h
  exact TX5_listFirst_10 C hml hcs hR nf ((0 : Int32)) ((0 : Int32)) S (lv_sub hl [2, 3, 4, 1, 0] rfl) h
/-! X5_learn -/
abbrev rm_X5_learn : Room := { frames := 5, cells := 0, slots := 0, locals := 122 }
def wpX5_learn  (σ : Sg) (post : Sg → Prop) : Prop := ((((σ.1 90 7) = 0) → wpX5_findEnds σ (fun σ2 => wpX5_countWays σ2 (fun σ3 => wpX5_listFirst σ3 (fun σ4 => (∀ σ5 : Sg, σ5 = setI σ4 90 7 ((1 : Int32)) → post σ5))))) ∧ ((¬ (σ.1 90 7) = 0) → post σ))
theorem kM_X5_learn : s_M yX5_learn cX5_learn 3 none 2 := ⟨co_X5_learn, in_X5, by decide, by decide, by decide +kernel⟩
set_option maxHeartbeats 4000000 in
set_option maxRecDepth 100000 in
theorem c_X5_learn (l : Launch) (G : s_G)  (σ : Sg) (post : Sg → Prop) (h : wpX5_learn σ post) : Met l yX5_learn (wsU yX5_learn cX5_learn 3 none) rm_X5_learn (va_Pc [.ref (G.2.2 + 90), .ref (G.2.2 + 5), .ref (G.2.2 + 1)] (s_Pre G σ)) (va_Qv post (s_B G) (s_A G.2.2)) 0 0 (s_A G.2.2) := by
  refine Met.ofW (cc := cX5_learn) (maxL := 3) (ret := none) (by decide) rfl ?_
  intro p e s m args below meth c s₁ B hml hv
  obtain ⟨rfl, hP, hrok, hK, hN⟩ := hv
  have C : s_C G p s (([.ref (G.2.2 + 90), .ref (G.2.2 + 5), .ref (G.2.2 + 1)] : List Value).toArray) m c RX5 cX5_learn := ⟨B.exec, B.bytes, findClass_of_methodNamed B.named, fun w hw => atoms_spec (ws := wsU yX5_learn cX5_learn 3 none) B.pre w (List.mem_cons_of_mem _ hw), hK, hN⟩
  have hr := B.returns
  have hlocks := B.notSynchronized
  have S : s_St G σ s.heap s.heap [] := ⟨hP, va_S.rf, hrok⟩
  have hcs : 0 ≤ (rm_X5_learn).cells ∧ 0 ≤ (rm_X5_learn).slots := ⟨Nat.le_refl 0, Nat.le_refl 0⟩
  have hR : ∀ (σ1 : Sg) (H : Heap) (locs : List Loc) (pc : Nat) (ls : Array Slot), decode cX5_learn pc = .ok (.return_, 1) → post σ1 → s_St G σ1 s.heap H locs → W p l e rm_X5_learn s m ([.ref (G.2.2 + 90), .ref (G.2.2 + 5), .ref (G.2.2 + 1)] : List Value).toArray below meth c H locs 0 0 (MQ below (va_Qv post (s_B G) (s_A G.2.2)) ([.ref (G.2.2 + 90), .ref (G.2.2 + 5), .ref (G.2.2 + 1)] : List Value).toArray s 0 0 (s_A G.2.2)) (F0 m pc ls []) := fun _ _ _ _ _ hd hp S => ret_v C hr hlocks hd hp S
  have hl := lv_entry ([.ref (G.2.2 + 90), .ref (G.2.2 + 5), .ref (G.2.2 + 1)]) (n := 3) (Nat.le_of_ble_eq_true rfl)
  rw [lg_entry_eq]
  generalize (lg_sl ([.ref (G.2.2 + 90), .ref (G.2.2 + 5), .ref (G.2.2 + 1)]) ++ List.replicate (3 - (lg_sl ([.ref (G.2.2 + 90), .ref (G.2.2 + 5), .ref (G.2.2 + 1)])).length) Slot.unset).toArray = ls at hl ⊢
  have hl : lv_has ls 3 [(0, .ref (G.2.2 + 90)), (1, .ref (G.2.2 + 5)), (2, .ref (G.2.2 + 1))] := hl
  unfold wpX5_learn at h
  refine lv_aload_n C.1 C.2.1 dX5_learn_0 rfl (lv_at hl 0 rfl) ?_
  refine g_X5_7 C fl_X5_31 kd_90 S dX5_learn_1 ?_
  refine lv_if_eq (tgt := 8) C.1 C.2.1 dX5_learn_4 (by decide) (fun c1 => ?_) (fun c1 => ?_)
  · replace h := h.1 c1
    refine lv_aload_n C.1 C.2.1 dX5_learn_8 rfl (lv_at hl 0 rfl) ?_
    refine lv_aload_n C.1 C.2.1 dX5_learn_9 rfl (lv_at hl 1 rfl) ?_
    refine lv_aload_n C.1 C.2.1 dX5_learn_10 rfl (lv_at hl 2 rfl) ?_
    refine k_v (r_V (As := [.ref (G.2.2 + 5), .ref (G.2.2 + 1)]) (rest := []) C hml (c_X5_findEnds l G σ _ h) kM_X5_findEnds im_X5_findEnds se_X5_findEnds ml_X5_35 ⟨rfl, rfl⟩ ⟨Nat.le_of_ble_eq_true rfl, Nat.le_of_ble_eq_true rfl⟩ hcs S kd_90 (by decide) (T := TX5) (N := 8) rfl rfl hl.1 rfl (Nat.le_of_ble_eq_true rfl) dX5_learn_11) S (fun σ2 H locs h S => ?_)
    refine lv_aload_n C.1 C.2.1 dX5_learn_14 rfl (lv_at hl 0 rfl) ?_
    refine lv_aload_n C.1 C.2.1 dX5_learn_15 rfl (lv_at hl 1 rfl) ?_
    refine lv_aload_n C.1 C.2.1 dX5_learn_16 rfl (lv_at hl 2 rfl) ?_
    refine k_v (r_V (As := [.ref (G.2.2 + 5), .ref (G.2.2 + 1)]) (rest := []) C hml (c_X5_countWays l G σ2 _ h) kM_X5_countWays im_X5_countWays se_X5_countWays ml_X5_39 ⟨rfl, rfl⟩ ⟨Nat.le_of_ble_eq_true rfl, Nat.le_of_ble_eq_true rfl⟩ hcs S kd_90 (by decide) (T := TX5) (N := 8) rfl rfl hl.1 rfl (Nat.le_of_ble_eq_true rfl) dX5_learn_17) S (fun σ3 H locs h S => ?_)
    refine lv_aload_n C.1 C.2.1 dX5_learn_20 rfl (lv_at hl 0 rfl) ?_
    refine lv_aload_n C.1 C.2.1 dX5_learn_21 rfl (lv_at hl 1 rfl) ?_
    refine lv_aload_n C.1 C.2.1 dX5_learn_22 rfl (lv_at hl 2 rfl) ?_
    refine k_v (r_V (As := [.ref (G.2.2 + 5), .ref (G.2.2 + 1)]) (rest := []) C hml (c_X5_listFirst l G σ3 _ h) kM_X5_listFirst im_X5_listFirst se_X5_listFirst ml_X5_42 ⟨rfl, rfl⟩ ⟨Nat.le_of_ble_eq_true rfl, Nat.le_of_ble_eq_true rfl⟩ hcs S kd_90 (by decide) (T := TX5) (N := 8) rfl rfl hl.1 rfl (Nat.le_of_ble_eq_true rfl) dX5_learn_23) S (fun σ4 H locs h S => ?_)
    refine lv_aload_n C.1 C.2.1 dX5_learn_26 rfl (lv_at hl 0 rfl) ?_
    refine lv_iconst (v := (1 : Int32)) C.1 C.2.1 dX5_learn_27 (by decide) ?_
    refine p_X5_7 C fl_X5_31 kd_90 S rfl rfl dX5_learn_28 (fun σ5 H locs e6 S => ?_)
    replace h := h σ5 e6
    exact hR _ _ _ _ _ dX5_learn_31 h S
  · replace h := h.2 c1
    exact hR _ _ _ _ _ dX5_learn_7 h S
/-! X5_membersGoingOn -/
abbrev rm_X5_membersGoingOn : Room := { frames := 3, cells := 0, slots := 0, locals := 68 }
def BX5_membersGoingOn_8  (post : Int32 → Sg → Prop) : Nat → Int32 → Int32 → Int32 → Sg → Prop
  | 0, _, _, _, _ => False
  | n + 1, x3, x4, x5, σ => wpX1_tallies 5 σ (fun r2 σ1 => (((r2 ≤ x5) → (((x3 = 0) → post ((-9 : Int32)) σ1) ∧ ((¬ x3 = 0) → post x4 σ1))) ∧ ((¬ r2 ≤ x5) → wpX5_endOf x5 σ1 (fun r6 σ5 => (((¬ r6 = (σ5.1 1 1)) → BX5_membersGoingOn_8 post n x3 x4 ((x5 + 1)) σ5) ∧ ((r6 = (σ5.1 1 1)) → wpX1_followers 5 x5 σ5 (fun r9 σ8 => BX5_membersGoingOn_8 post n ((1 : Int32)) ((x4 ||| r9)) ((x5 + 1)) σ8)))))))
def wpX5_membersGoingOn  (σ : Sg) (post : Int32 → Sg → Prop) : Prop := ∃ nf, BX5_membersGoingOn_8 post nf ((0 : Int32)) ((0 : Int32)) ((0 : Int32)) σ
set_option maxHeartbeats 4000000 in
set_option maxRecDepth 100000 in
theorem TX5_membersGoingOn_8 (C : s_C G p s args m c RX5 cX5_membersGoingOn) (hml : c.maxLocals = 6) (hcs : cells ≤ (rm_X5_membersGoingOn).cells ∧ slots ≤ (rm_X5_membersGoingOn).slots)  {post : Int32 → Sg → Prop} (hR : ∀ (r : Int32) (σ1 : Sg) (H : Heap) (locs : List Loc) (pc : Nat) (ls : Array Slot), decode cX5_membersGoingOn pc = .ok (.ireturn, 1) → post r σ1 → s_St G σ1 H0 H locs → W p l e rm_X5_membersGoingOn s m args below meth c H locs cells slots Q (F0 m pc ls [.int r])) : ∀ (n : Nat) (x3 : Int32) (x4 : Int32) (x5 : Int32), ∀ {σ : Sg} {H : Heap} {locs : List Loc} {ls : Array Slot}, s_St G σ H0 H locs → lv_has ls 6 [(0, .ref (G.2.2 + 90)), (1, .ref (G.2.2 + 5)), (2, .ref (G.2.2 + 1)), (3, .int x3), (4, .int x4), (5, .int x5)] → BX5_membersGoingOn_8 post n x3 x4 x5 σ → W p l e rm_X5_membersGoingOn s m args below meth c H locs cells slots Q (F0 m 8 ls []) := by
  intro n
  induction n with
  | zero =>
    intro x3 x4 x5  σ H locs ls S hl h
    exact absurd h (fun h => h)
  | succ n ih0 =>
    have ih : ∀ (x3 : Int32) (x4 : Int32) (x5 : Int32), ∀ (σ : Sg) (H : Heap) (locs : List Loc) (ls : Array Slot), s_St G σ H0 H locs → lv_has ls 6 [(0, .ref (G.2.2 + 90)), (1, .ref (G.2.2 + 5)), (2, .ref (G.2.2 + 1)), (3, .int x3), (4, .int x4), (5, .int x5)] → BX5_membersGoingOn_8 post n x3 x4 x5 σ → W p l e rm_X5_membersGoingOn s m args below meth c H locs cells slots Q (F0 m 8 ls []) := fun x3 x4 x5  _ _ _ _ => ih0 x3 x4 x5 
    intro x3 x4 x5  σ H locs ls S hl h
    refine lv_iload C.1 C.2.1 dX5_membersGoingOn_8 (lv_at hl 5 rfl) ?_
    refine lv_aload_n C.1 C.2.1 dX5_membersGoingOn_10 rfl (lv_at hl 1 rfl) ?_
    refine k_i (r_VN (As := []) (rest := [.int x5]) C hml (c_X1_tallies l G 5 σ _ kd_5 h) kM_X1_tallies im_X1_tallies se_X1_tallies nm_X5_53 ⟨rfl, rfl⟩ ⟨Nat.le_of_ble_eq_true rfl, Nat.le_of_ble_eq_true rfl⟩ hcs S kd_5 (by decide) (T := TX1) (N := 4) rfl rfl hl.1 rfl (Nat.le_of_ble_eq_true rfl) dX5_membersGoingOn_11) S (fun r2 σ1 H locs h S => ?_)
    refine lv_icmp_ge (tgt := 49) C.1 C.2.1 dX5_membersGoingOn_14 (by decide) (fun c3 => ?_) (fun c3 => ?_)
    · replace h := h.1 c3
      refine lv_iload_n C.1 C.2.1 dX5_membersGoingOn_49 rfl (lv_at hl 3 rfl) ?_
      refine lv_if_eq (tgt := 58) C.1 C.2.1 dX5_membersGoingOn_50 (by decide) (fun c4 => ?_) (fun c4 => ?_)
      · replace h := h.1 c4
        refine lv_bipush (v := (-9 : Int32)) C.1 C.2.1 dX5_membersGoingOn_58 (by decide) ?_
        exact hR _ _ _ _ _ _ dX5_membersGoingOn_60 h S
      · replace h := h.2 c4
        refine lv_iload C.1 C.2.1 dX5_membersGoingOn_53 (lv_at hl 4 rfl) ?_
        refine lv_goto (tgt := 60) C.1 C.2.1 dX5_membersGoingOn_55 (by decide) ?_
        exact hR _ _ _ _ _ _ dX5_membersGoingOn_60 h S
    · replace h := h.2 c3
      refine lv_aload_n C.1 C.2.1 dX5_membersGoingOn_17 rfl (lv_at hl 0 rfl) ?_
      refine lv_iload C.1 C.2.1 dX5_membersGoingOn_18 (lv_at hl 5 rfl) ?_
      refine k_i (r_V (As := [.int x5]) (rest := []) C hml (c_X5_endOf l G x5 σ1 _ h) kM_X5_endOf im_X5_endOf se_X5_endOf ml_X5_59 ⟨rfl, rfl⟩ ⟨Nat.le_of_ble_eq_true rfl, Nat.le_of_ble_eq_true rfl⟩ hcs S kd_90 (by decide) (T := TX5) (N := 8) rfl rfl hl.1 rfl (Nat.le_of_ble_eq_true rfl) dX5_membersGoingOn_20) S (fun r6 σ5 H locs h S => ?_)
      refine lv_aload_n C.1 C.2.1 dX5_membersGoingOn_23 rfl (lv_at hl 2 rfl) ?_
      refine gn_X0_1 C nf_X5_104 kd_1 S dX5_membersGoingOn_24 ?_
      refine lv_icmp_ne (tgt := 43) C.1 C.2.1 dX5_membersGoingOn_27 (by decide) (fun c7 => ?_) (fun c7 => ?_)
      · replace h := h.1 c7
        refine lv_iinc (v := (x5 + 1)) (lv' := [(5, .int (x5 + 1)), (0, .ref (G.2.2 + 90)), (1, .ref (G.2.2 + 5)), (2, .ref (G.2.2 + 1)), (3, .int x3), (4, .int x4)]) C.1 C.2.1 dX5_membersGoingOn_43 hl (k := 5) rfl rfl (by decide) rfl (fun ls hl => ?_)
        refine lv_goto (tgt := 8) C.1 C.2.1 dX5_membersGoingOn_46 (by decide) ?_
        exact ih x3 x4 ((x5 + 1)) _ _ _ _ S (lv_sub hl [1, 2, 3, 4, 5, 0] rfl) h
      · replace h := h.2 c7
        refine lv_iconst (v := (1 : Int32)) C.1 C.2.1 dX5_membersGoingOn_30 (by decide) ?_
        refine lv_istore_n (lv' := [(3, .int (1 : Int32)), (0, .ref (G.2.2 + 90)), (1, .ref (G.2.2 + 5)), (2, .ref (G.2.2 + 1)), (4, .int x4), (5, .int x5)]) C.1 C.2.1 dX5_membersGoingOn_31 rfl hl (by decide) rfl (fun ls hl => ?_)
        refine lv_iload C.1 C.2.1 dX5_membersGoingOn_32 (lv_at hl 4 rfl) ?_
        refine lv_aload_n C.1 C.2.1 dX5_membersGoingOn_34 rfl (lv_at hl 2 rfl) ?_
        refine lv_iload C.1 C.2.1 dX5_membersGoingOn_35 (lv_at hl 5 rfl) ?_
        refine k_i (r_VN (As := [.int x5]) (rest := [.int x4]) C hml (c_X1_followers l G 5 x5 σ5 _ kd_5 h) kM_X1_followers im_X1_followers se_X1_followers nm_X5_70 ⟨rfl, rfl⟩ ⟨Nat.le_of_ble_eq_true rfl, Nat.le_of_ble_eq_true rfl⟩ hcs S kd_5 (by decide) (T := TX1) (N := 4) rfl rfl hl.1 rfl (Nat.le_of_ble_eq_true rfl) dX5_membersGoingOn_37) S (fun r9 σ8 H locs h S => ?_)
        refine lv_ior C.1 C.2.1 dX5_membersGoingOn_40 ?_
        refine lv_istore (lv' := [(4, .int (x4 ||| r9)), (3, .int (1 : Int32)), (0, .ref (G.2.2 + 90)), (1, .ref (G.2.2 + 5)), (2, .ref (G.2.2 + 1)), (5, .int x5)]) C.1 C.2.1 dX5_membersGoingOn_41 hl (by decide) rfl (fun ls hl => ?_)
        refine lv_iinc (v := (x5 + 1)) (lv' := [(5, .int (x5 + 1)), (4, .int (x4 ||| r9)), (3, .int (1 : Int32)), (0, .ref (G.2.2 + 90)), (1, .ref (G.2.2 + 5)), (2, .ref (G.2.2 + 1))]) C.1 C.2.1 dX5_membersGoingOn_43 hl (k := 5) rfl rfl (by decide) rfl (fun ls hl => ?_)
        refine lv_goto (tgt := 8) C.1 C.2.1 dX5_membersGoingOn_46 (by decide) ?_
        exact ih ((1 : Int32)) ((x4 ||| r9)) ((x5 + 1)) _ _ _ _ S (lv_sub hl [3, 4, 5, 2, 1, 0] rfl) h
theorem kM_X5_membersGoingOn : s_M yX5_membersGoingOn cX5_membersGoingOn 6 (some .int) 2 := ⟨co_X5_membersGoingOn, in_X5, by decide, by decide, by decide +kernel⟩
set_option maxHeartbeats 4000000 in
set_option maxRecDepth 100000 in
theorem c_X5_membersGoingOn (l : Launch) (G : s_G)  (σ : Sg) (post : Int32 → Sg → Prop) (h : wpX5_membersGoingOn σ post) : Met l yX5_membersGoingOn (wsU yX5_membersGoingOn cX5_membersGoingOn 6 (some .int)) rm_X5_membersGoingOn (va_Pc [.ref (G.2.2 + 90), .ref (G.2.2 + 5), .ref (G.2.2 + 1)] (s_Pre G σ)) (va_Qi post (s_B G) (s_A G.2.2)) 0 0 (s_A G.2.2) := by
  refine Met.ofW (cc := cX5_membersGoingOn) (maxL := 6) (ret := (some .int)) (by decide) rfl ?_
  intro p e s m args below meth c s₁ B hml hv
  obtain ⟨rfl, hP, hrok, hK, hN⟩ := hv
  have C : s_C G p s (([.ref (G.2.2 + 90), .ref (G.2.2 + 5), .ref (G.2.2 + 1)] : List Value).toArray) m c RX5 cX5_membersGoingOn := ⟨B.exec, B.bytes, findClass_of_methodNamed B.named, fun w hw => atoms_spec (ws := wsU yX5_membersGoingOn cX5_membersGoingOn 6 (some .int)) B.pre w (List.mem_cons_of_mem _ hw), hK, hN⟩
  have hr := B.returns
  have hlocks := B.notSynchronized
  have S : s_St G σ s.heap s.heap [] := ⟨hP, va_S.rf, hrok⟩
  have hcs : 0 ≤ (rm_X5_membersGoingOn).cells ∧ 0 ≤ (rm_X5_membersGoingOn).slots := ⟨Nat.le_refl 0, Nat.le_refl 0⟩
  have hR : ∀ (r : Int32) (σ1 : Sg) (H : Heap) (locs : List Loc) (pc : Nat) (ls : Array Slot), decode cX5_membersGoingOn pc = .ok (.ireturn, 1) → post r σ1 → s_St G σ1 s.heap H locs → W p l e rm_X5_membersGoingOn s m ([.ref (G.2.2 + 90), .ref (G.2.2 + 5), .ref (G.2.2 + 1)] : List Value).toArray below meth c H locs 0 0 (MQ below (va_Qi post (s_B G) (s_A G.2.2)) ([.ref (G.2.2 + 90), .ref (G.2.2 + 5), .ref (G.2.2 + 1)] : List Value).toArray s 0 0 (s_A G.2.2)) (F0 m pc ls [.int r]) := fun _ _ _ _ _ _ hd hp S => ret_i C hr hlocks hd hp S
  have hl := lv_entry ([.ref (G.2.2 + 90), .ref (G.2.2 + 5), .ref (G.2.2 + 1)]) (n := 6) (Nat.le_of_ble_eq_true rfl)
  rw [lg_entry_eq]
  generalize (lg_sl ([.ref (G.2.2 + 90), .ref (G.2.2 + 5), .ref (G.2.2 + 1)]) ++ List.replicate (6 - (lg_sl ([.ref (G.2.2 + 90), .ref (G.2.2 + 5), .ref (G.2.2 + 1)])).length) Slot.unset).toArray = ls at hl ⊢
  have hl : lv_has ls 6 [(0, .ref (G.2.2 + 90)), (1, .ref (G.2.2 + 5)), (2, .ref (G.2.2 + 1))] := hl
  unfold wpX5_membersGoingOn at h
  refine lv_iconst (v := (0 : Int32)) C.1 C.2.1 dX5_membersGoingOn_0 (by decide) ?_
  refine lv_istore_n (lv' := [(3, .int (0 : Int32)), (0, .ref (G.2.2 + 90)), (1, .ref (G.2.2 + 5)), (2, .ref (G.2.2 + 1))]) C.1 C.2.1 dX5_membersGoingOn_1 rfl hl (by decide) rfl (fun ls hl => ?_)
  refine lv_iconst (v := (0 : Int32)) C.1 C.2.1 dX5_membersGoingOn_2 (by decide) ?_
  refine lv_istore (lv' := [(4, .int (0 : Int32)), (3, .int (0 : Int32)), (0, .ref (G.2.2 + 90)), (1, .ref (G.2.2 + 5)), (2, .ref (G.2.2 + 1))]) C.1 C.2.1 dX5_membersGoingOn_3 hl (by decide) rfl (fun ls hl => ?_)
  refine lv_iconst (v := (0 : Int32)) C.1 C.2.1 dX5_membersGoingOn_5 (by decide) ?_
  refine lv_istore (lv' := [(5, .int (0 : Int32)), (4, .int (0 : Int32)), (3, .int (0 : Int32)), (0, .ref (G.2.2 + 90)), (1, .ref (G.2.2 + 5)), (2, .ref (G.2.2 + 1))]) C.1 C.2.1 dX5_membersGoingOn_6 hl (by decide) rfl (fun ls hl => ?_)
  obtain ⟨nf, h⟩ := h
  exact TX5_membersGoingOn_8 C hml hcs hR nf ((0 : Int32)) ((0 : Int32)) ((0 : Int32)) S (lv_sub hl [3, 4, 5, 2, 1, 0] rfl) h
/-! X5_numberAt -/
abbrev rm_X5_numberAt : Room := { frames := 0, cells := 0, slots := 0, locals := 0 }
def wpX5_numberAt (x1 : Int32) (σ : Sg) (post : Int32 → Sg → Prop) : Prop := (((x1 < 0) → post ((-9 : Int32)) σ) ∧ ((¬ x1 < 0) → ((((σ.1 90 6) ≤ x1) → post ((-9 : Int32)) σ) ∧ ((¬ (σ.1 90 6) ≤ x1) → ((((18 : Int32) ≤ x1) → post ((-9 : Int32)) σ) ∧ ((¬ (18 : Int32) ≤ x1) → (vp_in x1 18 ∧ post ((σ.1 96 (x1).toNatClampNeg)) σ)))))))
theorem kM_X5_numberAt : s_M yX5_numberAt cX5_numberAt 2 (some .int) 1 := ⟨co_X5_numberAt, in_X5, by decide, by decide, by decide +kernel⟩
set_option maxHeartbeats 4000000 in
set_option maxRecDepth 100000 in
theorem c_X5_numberAt (l : Launch) (G : s_G) (x1 : Int32) (σ : Sg) (post : Int32 → Sg → Prop) (h : wpX5_numberAt x1 σ post) : Met l yX5_numberAt (wsU yX5_numberAt cX5_numberAt 2 (some .int)) rm_X5_numberAt (va_Pc [.ref (G.2.2 + 90), .int x1] (s_Pre G σ)) (va_Qi post (s_B G) (s_A G.2.2)) 0 0 (s_A G.2.2) := by
  refine Met.ofW (cc := cX5_numberAt) (maxL := 2) (ret := (some .int)) (by decide) rfl ?_
  intro p e s m args below meth c s₁ B hml hv
  obtain ⟨rfl, hP, hrok, hK, hN⟩ := hv
  have C : s_C G p s (([.ref (G.2.2 + 90), .int x1] : List Value).toArray) m c RX5 cX5_numberAt := ⟨B.exec, B.bytes, findClass_of_methodNamed B.named, fun w hw => atoms_spec (ws := wsU yX5_numberAt cX5_numberAt 2 (some .int)) B.pre w (List.mem_cons_of_mem _ hw), hK, hN⟩
  have hr := B.returns
  have hlocks := B.notSynchronized
  have S : s_St G σ s.heap s.heap [] := ⟨hP, va_S.rf, hrok⟩
  have hcs : 0 ≤ (rm_X5_numberAt).cells ∧ 0 ≤ (rm_X5_numberAt).slots := ⟨Nat.le_refl 0, Nat.le_refl 0⟩
  have hR : ∀ (r : Int32) (σ1 : Sg) (H : Heap) (locs : List Loc) (pc : Nat) (ls : Array Slot), decode cX5_numberAt pc = .ok (.ireturn, 1) → post r σ1 → s_St G σ1 s.heap H locs → W p l e rm_X5_numberAt s m ([.ref (G.2.2 + 90), .int x1] : List Value).toArray below meth c H locs 0 0 (MQ below (va_Qi post (s_B G) (s_A G.2.2)) ([.ref (G.2.2 + 90), .int x1] : List Value).toArray s 0 0 (s_A G.2.2)) (F0 m pc ls [.int r]) := fun _ _ _ _ _ _ hd hp S => ret_i C hr hlocks hd hp S
  have hl := lv_entry ([.ref (G.2.2 + 90), .int x1]) (n := 2) (Nat.le_of_ble_eq_true rfl)
  rw [lg_entry_eq]
  generalize (lg_sl ([.ref (G.2.2 + 90), .int x1]) ++ List.replicate (2 - (lg_sl ([.ref (G.2.2 + 90), .int x1])).length) Slot.unset).toArray = ls at hl ⊢
  have hl : lv_has ls 2 [(0, .ref (G.2.2 + 90)), (1, .int x1)] := hl
  unfold wpX5_numberAt at h
  refine lv_iload_n C.1 C.2.1 dX5_numberAt_0 rfl (lv_at hl 1 rfl) ?_
  refine lv_if_lt (tgt := 30) C.1 C.2.1 dX5_numberAt_1 (by decide) (fun c1 => ?_) (fun c1 => ?_)
  · replace h := h.1 c1
    refine lv_bipush (v := (-9 : Int32)) C.1 C.2.1 dX5_numberAt_30 (by decide) ?_
    exact hR _ _ _ _ _ _ dX5_numberAt_32 h S
  · replace h := h.2 c1
    refine lv_iload_n C.1 C.2.1 dX5_numberAt_4 rfl (lv_at hl 1 rfl) ?_
    refine lv_aload_n C.1 C.2.1 dX5_numberAt_5 rfl (lv_at hl 0 rfl) ?_
    refine g_X5_6 C fl_X5_49 kd_90 S dX5_numberAt_6 ?_
    refine lv_icmp_ge (tgt := 30) C.1 C.2.1 dX5_numberAt_9 (by decide) (fun c2 => ?_) (fun c2 => ?_)
    · replace h := h.1 c2
      refine lv_bipush (v := (-9 : Int32)) C.1 C.2.1 dX5_numberAt_30 (by decide) ?_
      exact hR _ _ _ _ _ _ dX5_numberAt_32 h S
    · replace h := h.2 c2
      refine lv_iload_n C.1 C.2.1 dX5_numberAt_12 rfl (lv_at hl 1 rfl) ?_
      refine lv_aload_n C.1 C.2.1 dX5_numberAt_13 rfl (lv_at hl 0 rfl) ?_
      refine g_X5_5 C fl_X5_28 kd_90 S fn_90_5 dX5_numberAt_14 ?_
      refine a_len8 C kd_96 S (v := (18 : Int32)) (by rw [ln_96]; rfl) dX5_numberAt_17 ?_
      refine lv_icmp_ge (tgt := 30) C.1 C.2.1 dX5_numberAt_18 (by decide) (fun c3 => ?_) (fun c3 => ?_)
      · replace h := h.1 c3
        refine lv_bipush (v := (-9 : Int32)) C.1 C.2.1 dX5_numberAt_30 (by decide) ?_
        exact hR _ _ _ _ _ _ dX5_numberAt_32 h S
      · replace h := h.2 c3
        refine lv_aload_n C.1 C.2.1 dX5_numberAt_21 rfl (lv_at hl 0 rfl) ?_
        refine g_X5_5 C fl_X5_28 kd_90 S fn_90_5 dX5_numberAt_22 ?_
        refine lv_iload_n C.1 C.2.1 dX5_numberAt_25 rfl (lv_at hl 1 rfl) ?_
        refine a_ild C kd_96 S ln_96 h.1 dX5_numberAt_26 ?_
        replace h := h.2
        refine lv_goto (tgt := 32) C.1 C.2.1 dX5_numberAt_27 (by decide) ?_
        exact hR _ _ _ _ _ _ dX5_numberAt_32 h S
end M4
