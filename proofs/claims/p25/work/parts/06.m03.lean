section M3
variable {p : Program} {l : Launch} {e : Env} {R : Room} {s : State} {m : MethodId} {args : Array Value} {below : List Frame} {meth : Method} {c : Code} {H0 : Heap} {cells slots : Nat} {Q : State → Prop} {G : s_G}
/-! X6_orders -/
abbrev rm_X6_orders : Room := { frames := 5, cells := 0, slots := 0, locals := 121 }
def wpX6_orders (x1 : Int32) (σ : Sg) (post : Int64 → Sg → Prop) : Prop := (((x1 < (-1 : Int32)) → post ((-1 : Int64)) σ) ∧ ((¬ x1 < (-1 : Int32)) → (((x1 ≤ (18 : Int32)) → wpX4_learn x1 σ (fun σ3 => wpX4_countFrom ((0 : Int32)) σ3 (fun r5 σ4 => post r5 σ4))) ∧ ((¬ x1 ≤ (18 : Int32)) → post ((-1 : Int64)) σ))))
theorem kM_X6_orders : s_M yX6_orders cX6_orders 2 (some .long) 1 := ⟨co_X6_orders, in_X6, by decide, by decide, by decide +kernel⟩
set_option maxHeartbeats 4000000 in
set_option maxRecDepth 100000 in
theorem c_X6_orders (l : Launch) (G : s_G) (x1 : Int32) (σ : Sg) (post : Int64 → Sg → Prop) (h : wpX6_orders x1 σ post) : Met l yX6_orders (wsU yX6_orders cX6_orders 2 (some .long)) rm_X6_orders (va_Pc [.ref (G.2.2 + 0), .int x1] (s_Pre G σ)) (va_Ql post (s_B G) (s_A G.2.2)) 0 0 (s_A G.2.2) := by
  refine Met.ofW (cc := cX6_orders) (maxL := 2) (ret := (some .long)) (by decide) rfl ?_
  intro p e s m args below meth c s₁ B hml hv
  obtain ⟨rfl, hP, hrok, hK, hN⟩ := hv
  have C : s_C G p s (([.ref (G.2.2 + 0), .int x1] : List Value).toArray) m c RX6 cX6_orders := ⟨B.exec, B.bytes, findClass_of_methodNamed B.named, fun w hw => atoms_spec (ws := wsU yX6_orders cX6_orders 2 (some .long)) B.pre w (List.mem_cons_of_mem _ hw), hK, hN⟩
  have hr := B.returns
  have hlocks := B.notSynchronized
  have S : s_St G σ s.heap s.heap [] := ⟨hP, va_S.rf, hrok⟩
  have hcs : 0 ≤ (rm_X6_orders).cells ∧ 0 ≤ (rm_X6_orders).slots := ⟨Nat.le_refl 0, Nat.le_refl 0⟩
  have hR : ∀ (r : Int64) (σ1 : Sg) (H : Heap) (locs : List Loc) (pc : Nat) (ls : Array Slot), decode cX6_orders pc = .ok (.lreturn, 1) → post r σ1 → s_St G σ1 s.heap H locs → W p l e rm_X6_orders s m ([.ref (G.2.2 + 0), .int x1] : List Value).toArray below meth c H locs 0 0 (MQ below (va_Ql post (s_B G) (s_A G.2.2)) ([.ref (G.2.2 + 0), .int x1] : List Value).toArray s 0 0 (s_A G.2.2)) (F0 m pc ls [.long r]) := fun _ _ _ _ _ _ hd hp S => ret_l C hr hlocks hd hp S
  have hl := lv_entry ([.ref (G.2.2 + 0), .int x1]) (n := 2) (Nat.le_of_ble_eq_true rfl)
  rw [lg_entry_eq]
  generalize (lg_sl ([.ref (G.2.2 + 0), .int x1]) ++ List.replicate (2 - (lg_sl ([.ref (G.2.2 + 0), .int x1])).length) Slot.unset).toArray = ls at hl ⊢
  have hl : lv_has ls 2 [(0, .ref (G.2.2 + 0)), (1, .int x1)] := hl
  unfold wpX6_orders at h
  refine lv_iload_n C.1 C.2.1 dX6_orders_0 rfl (lv_at hl 1 rfl) ?_
  refine lv_iconst (v := (-1 : Int32)) C.1 C.2.1 dX6_orders_1 (by decide) ?_
  refine lv_icmp_lt (tgt := 11) C.1 C.2.1 dX6_orders_2 (by decide) (fun c1 => ?_) (fun c1 => ?_)
  · replace h := h.1 c1
    refine lv_ldc2 (v := (-1 : Int64)) C.1 C.2.1 C.2.2.1 (C.2.2.2.1 _ cl_X6_213) dX6_orders_11 ?_
    exact hR _ _ _ _ _ _ dX6_orders_14 h S
  · replace h := h.2 c1
    refine lv_iload_n C.1 C.2.1 dX6_orders_5 rfl (lv_at hl 1 rfl) ?_
    refine lv_bipush (v := (18 : Int32)) C.1 C.2.1 dX6_orders_6 (by decide) ?_
    refine lv_icmp_le (tgt := 15) C.1 C.2.1 dX6_orders_8 (by decide) (fun c2 => ?_) (fun c2 => ?_)
    · replace h := h.1 c2
      refine lv_aload_n C.1 C.2.1 dX6_orders_15 rfl (lv_at hl 0 rfl) ?_
      refine g_X6_7 C fl_X6_51 kd_0 S fn_0_7 dX6_orders_16 ?_
      refine lv_aload_n C.1 C.2.1 dX6_orders_19 rfl (lv_at hl 0 rfl) ?_
      refine g_X6_2 C fl_X6_22 kd_0 S fn_0_2 dX6_orders_20 ?_
      refine lv_iload_n C.1 C.2.1 dX6_orders_23 rfl (lv_at hl 1 rfl) ?_
      refine k_v (r_VN (As := [.ref (G.2.2 + 5), .int x1]) (rest := []) C hml (c_X4_learn l G x1 σ _ h) kM_X4_learn im_X4_learn se_X4_learn nm_X6_215 ⟨rfl, rfl⟩ ⟨Nat.le_of_ble_eq_true rfl, Nat.le_of_ble_eq_true rfl⟩ hcs S.v kd_97 (by decide) (T := TX4) (N := 2) rfl rfl hl.1 rfl (Nat.le_of_ble_eq_true rfl) dX6_orders_24) S (fun σ3 H locs h S => ?_)
      refine lv_aload_n C.1 C.2.1 dX6_orders_27 rfl (lv_at hl 0 rfl) ?_
      refine g_X6_7 C fl_X6_51 kd_0 S fn_0_7 dX6_orders_28 ?_
      refine lv_iconst (v := (0 : Int32)) C.1 C.2.1 dX6_orders_31 (by decide) ?_
      refine k_l (r_VN (As := [.int (0 : Int32)]) (rest := []) C hml (c_X4_countFrom l G ((0 : Int32)) σ3 _ h) kM_X4_countFrom im_X4_countFrom se_X4_countFrom nm_X6_218 ⟨rfl, rfl⟩ ⟨Nat.le_of_ble_eq_true rfl, Nat.le_of_ble_eq_true rfl⟩ hcs S.v kd_97 (by decide) (T := TX4) (N := 2) rfl rfl hl.1 rfl (Nat.le_of_ble_eq_true rfl) dX6_orders_32) S (fun r5 σ4 H locs h S => ?_)
      exact hR _ _ _ _ _ _ dX6_orders_35 h S
    · replace h := h.2 c2
      refine lv_ldc2 (v := (-1 : Int64)) C.1 C.2.1 C.2.2.1 (C.2.2.2.1 _ cl_X6_213) dX6_orders_11 ?_
      exact hR _ _ _ _ _ _ dX6_orders_14 h S
/-! X6_readings -/
abbrev rm_X6_readings : Room := { frames := 6, cells := 0, slots := 0, locals := 144 }
def wpX6_readings  (σ : Sg) (post : Int32 → Sg → Prop) : Prop := wpX5_learn σ (fun σ1 => wpX5_waysFrom ((0 : Int32)) σ1 (fun r3 σ2 => post ((((if (1000000 : Int64) < r3 then (1000000 : Int64) else r3)).toInt32)) σ2))
theorem kM_X6_readings : s_M yX6_readings cX6_readings 1 (some .int) 0 := ⟨co_X6_readings, in_X6, by decide, by decide, by decide +kernel⟩
set_option maxHeartbeats 4000000 in
set_option maxRecDepth 100000 in
theorem c_X6_readings (l : Launch) (G : s_G)  (σ : Sg) (post : Int32 → Sg → Prop) (h : wpX6_readings σ post) : Met l yX6_readings (wsU yX6_readings cX6_readings 1 (some .int)) rm_X6_readings (va_Pc [.ref (G.2.2 + 0)] (s_Pre G σ)) (va_Qi post (s_B G) (s_A G.2.2)) 0 0 (s_A G.2.2) := by
  refine Met.ofW (cc := cX6_readings) (maxL := 1) (ret := (some .int)) (by decide) rfl ?_
  intro p e s m args below meth c s₁ B hml hv
  obtain ⟨rfl, hP, hrok, hK, hN⟩ := hv
  have C : s_C G p s (([.ref (G.2.2 + 0)] : List Value).toArray) m c RX6 cX6_readings := ⟨B.exec, B.bytes, findClass_of_methodNamed B.named, fun w hw => atoms_spec (ws := wsU yX6_readings cX6_readings 1 (some .int)) B.pre w (List.mem_cons_of_mem _ hw), hK, hN⟩
  have hr := B.returns
  have hlocks := B.notSynchronized
  have S : s_St G σ s.heap s.heap [] := ⟨hP, va_S.rf, hrok⟩
  have hcs : 0 ≤ (rm_X6_readings).cells ∧ 0 ≤ (rm_X6_readings).slots := ⟨Nat.le_refl 0, Nat.le_refl 0⟩
  have hR : ∀ (r : Int32) (σ1 : Sg) (H : Heap) (locs : List Loc) (pc : Nat) (ls : Array Slot), decode cX6_readings pc = .ok (.ireturn, 1) → post r σ1 → s_St G σ1 s.heap H locs → W p l e rm_X6_readings s m ([.ref (G.2.2 + 0)] : List Value).toArray below meth c H locs 0 0 (MQ below (va_Qi post (s_B G) (s_A G.2.2)) ([.ref (G.2.2 + 0)] : List Value).toArray s 0 0 (s_A G.2.2)) (F0 m pc ls [.int r]) := fun _ _ _ _ _ _ hd hp S => ret_i C hr hlocks hd hp S
  have hl := lv_entry ([.ref (G.2.2 + 0)]) (n := 1) (Nat.le_of_ble_eq_true rfl)
  rw [lg_entry_eq]
  generalize (lg_sl ([.ref (G.2.2 + 0)]) ++ List.replicate (1 - (lg_sl ([.ref (G.2.2 + 0)])).length) Slot.unset).toArray = ls at hl ⊢
  have hl : lv_has ls 1 [(0, .ref (G.2.2 + 0))] := hl
  unfold wpX6_readings at h
  refine lv_aload_n C.1 C.2.1 dX6_readings_0 rfl (lv_at hl 0 rfl) ?_
  refine g_X6_6 C fl_X6_44 kd_0 S fn_0_6 dX6_readings_1 ?_
  refine lv_aload_n C.1 C.2.1 dX6_readings_4 rfl (lv_at hl 0 rfl) ?_
  refine g_X6_2 C fl_X6_22 kd_0 S fn_0_2 dX6_readings_5 ?_
  refine lv_aload_n C.1 C.2.1 dX6_readings_8 rfl (lv_at hl 0 rfl) ?_
  refine g_X6_0 C fl_X6_10 kd_0 S fn_0_0 dX6_readings_9 ?_
  refine k_v (r_VN (As := [.ref (G.2.2 + 5), .ref (G.2.2 + 1)]) (rest := []) C hml (c_X5_learn l G σ _ h) kM_X5_learn im_X5_learn se_X5_learn nm_X6_164 ⟨rfl, rfl⟩ ⟨Nat.le_of_ble_eq_true rfl, Nat.le_of_ble_eq_true rfl⟩ hcs S.v kd_90 (by decide) (T := TX5) (N := 8) rfl rfl hl.1 rfl (Nat.le_of_ble_eq_true rfl) dX6_readings_12) S (fun σ1 H locs h S => ?_)
  refine lv_aload_n C.1 C.2.1 dX6_readings_15 rfl (lv_at hl 0 rfl) ?_
  refine g_X6_6 C fl_X6_44 kd_0 S fn_0_6 dX6_readings_16 ?_
  refine lv_iconst (v := (0 : Int32)) C.1 C.2.1 dX6_readings_19 (by decide) ?_
  refine k_l (r_VN (As := [.int (0 : Int32)]) (rest := []) C hml (c_X5_waysFrom l G ((0 : Int32)) σ1 _ h) kM_X5_waysFrom im_X5_waysFrom se_X5_waysFrom nm_X6_176 ⟨rfl, rfl⟩ ⟨Nat.le_of_ble_eq_true rfl, Nat.le_of_ble_eq_true rfl⟩ hcs S.v kd_90 (by decide) (T := TX5) (N := 8) rfl rfl hl.1 rfl (Nat.le_of_ble_eq_true rfl) dX6_readings_20) S (fun r3 σ2 H locs h S => ?_)
  refine lv_ldc2 (v := (1000000 : Int64)) C.1 C.2.1 C.2.2.1 (C.2.2.2.1 _ cl_X6_180) dX6_readings_23 ?_
  refine va_mmin_long C.1 C.2.1 (hml.trans hl.1.symm) C.2.2.1 (C.2.2.2.1 _ ml_X6_182) (C.2.2.2.1 _ st_minl) (C.2.2.2.1 _ in_math) (C.2.2.2.1 _ co_minl) (Nat.le_of_ble_eq_true rfl) (Nat.le_of_ble_eq_true rfl) hcs.1 hcs.2 dX6_readings_26 ?_
  refine lv_l2i C.1 C.2.1 dX6_readings_29 rfl ?_
  exact hR _ _ _ _ _ _ dX6_readings_30 h S
/-! X1_countClashingPairs -/
abbrev rm_X1_countClashingPairs : Room := { frames := 3, cells := 0, slots := 0, locals := 66 }
def BX1_countClashingPairs_4 (k0 : Nat) (post : Int32 → Sg → Prop) : Nat → Int32 → Int32 → Sg → Prop
  | 0, _, _, _ => False
  | n + 1, x1, x2, σ => ((((σ.1 k0 2) ≤ x2) → post ((x1 / (2 : Int32))) σ) ∧ ((¬ (σ.1 k0 2) ≤ x2) → wpX1_clashesOf k0 x2 σ (fun r3 σ2 => wpJ6_bitCount_0f7a4 r3 σ2 (fun r5 σ4 => BX1_countClashingPairs_4 k0 post n ((x1 + r5)) ((x2 + 1)) σ4))))
def wpX1_countClashingPairs (k0 : Nat) (σ : Sg) (post : Int32 → Sg → Prop) : Prop := ∃ nf, BX1_countClashingPairs_4 k0 post nf ((0 : Int32)) ((0 : Int32)) σ
set_option maxHeartbeats 4000000 in
set_option maxRecDepth 100000 in
theorem TX1_countClashingPairs_4 (C : s_C G p s args m c RX1 cX1_countClashingPairs) (hml : c.maxLocals = 3) (hcs : cells ≤ (rm_X1_countClashingPairs).cells ∧ slots ≤ (rm_X1_countClashingPairs).slots) {k0 : Nat} (hk0 : s_kd k0 = 1) {post : Int32 → Sg → Prop} (hR : ∀ (r : Int32) (σ1 : Sg) (H : Heap) (locs : List Loc) (pc : Nat) (ls : Array Slot), decode cX1_countClashingPairs pc = .ok (.ireturn, 1) → post r σ1 → s_St G σ1 H0 H locs → W p l e rm_X1_countClashingPairs s m args below meth c H locs cells slots Q (F0 m pc ls [.int r])) : ∀ (n : Nat) (x1 : Int32) (x2 : Int32), ∀ {σ : Sg} {H : Heap} {locs : List Loc} {ls : Array Slot}, s_St G σ H0 H locs → lv_has ls 3 [(0, .ref (G.2.2 + k0)), (1, .int x1), (2, .int x2)] → BX1_countClashingPairs_4 k0 post n x1 x2 σ → W p l e rm_X1_countClashingPairs s m args below meth c H locs cells slots Q (F0 m 4 ls []) := by
  intro n
  induction n with
  | zero =>
    intro x1 x2  σ H locs ls S hl h
    exact absurd h (fun h => h)
  | succ n ih0 =>
    have ih : ∀ (x1 : Int32) (x2 : Int32), ∀ (σ : Sg) (H : Heap) (locs : List Loc) (ls : Array Slot), s_St G σ H0 H locs → lv_has ls 3 [(0, .ref (G.2.2 + k0)), (1, .int x1), (2, .int x2)] → BX1_countClashingPairs_4 k0 post n x1 x2 σ → W p l e rm_X1_countClashingPairs s m args below meth c H locs cells slots Q (F0 m 4 ls []) := fun x1 x2  _ _ _ _ => ih0 x1 x2 
    intro x1 x2  σ H locs ls S hl h
    refine lv_iload_n C.1 C.2.1 dX1_countClashingPairs_4 rfl (lv_at hl 2 rfl) ?_
    refine lv_aload_n C.1 C.2.1 dX1_countClashingPairs_5 rfl (lv_at hl 0 rfl) ?_
    refine g_X1_2 C fl_X1_22 hk0 S dX1_countClashingPairs_6 ?_
    refine lv_icmp_ge (tgt := 29) C.1 C.2.1 dX1_countClashingPairs_9 (by decide) (fun c1 => ?_) (fun c1 => ?_)
    · replace h := h.1 c1
      refine lv_iload_n C.1 C.2.1 dX1_countClashingPairs_29 rfl (lv_at hl 1 rfl) ?_
      refine lv_iconst (v := (2 : Int32)) C.1 C.2.1 dX1_countClashingPairs_30 (by decide) ?_
      refine lv_idiv C.1 C.2.1 dX1_countClashingPairs_31 (by decide) ?_
      exact hR _ _ _ _ _ _ dX1_countClashingPairs_32 h S
    · replace h := h.2 c1
      refine lv_iload_n C.1 C.2.1 dX1_countClashingPairs_12 rfl (lv_at hl 1 rfl) ?_
      refine lv_aload_n C.1 C.2.1 dX1_countClashingPairs_13 rfl (lv_at hl 0 rfl) ?_
      refine lv_iload_n C.1 C.2.1 dX1_countClashingPairs_14 rfl (lv_at hl 2 rfl) ?_
      refine k_i (r_V (As := [.int x2]) (rest := [.int x1]) C hml (c_X1_clashesOf l G k0 x2 σ _ hk0 h) kM_X1_clashesOf im_X1_clashesOf se_X1_clashesOf ml_X1_81 ⟨rfl, rfl⟩ ⟨Nat.le_of_ble_eq_true rfl, Nat.le_of_ble_eq_true rfl⟩ hcs S.v hk0 (by decide) (T := TX1) (N := 4) rfl rfl hl.1 rfl (Nat.le_of_ble_eq_true rfl) dX1_countClashingPairs_15) S (fun r3 σ2 H locs h S => ?_)
      refine k_i (r_S (As := [.int r3]) (rest := [.int x1]) C hml (c_J6_bitCount_0f7a4 l G r3 σ2 _ h) kM_J6_bitCount_0f7a4 st_J6_bitCount_0f7a4 ml_X1_71 ⟨rfl, rfl⟩ ⟨Nat.le_of_ble_eq_true rfl, Nat.le_of_ble_eq_true rfl⟩ hcs S.v rfl hl.1 rfl (Nat.le_of_ble_eq_true rfl) dX1_countClashingPairs_18) S (fun r5 σ4 H locs h S => ?_)
      refine lv_iadd C.1 C.2.1 dX1_countClashingPairs_21 ?_
      refine lv_istore_n (lv' := [(1, .int (x1 + r5)), (0, .ref (G.2.2 + k0)), (2, .int x2)]) C.1 C.2.1 dX1_countClashingPairs_22 rfl hl (by decide) rfl (fun ls hl => ?_)
      refine lv_iinc (v := (x2 + 1)) (lv' := [(2, .int (x2 + 1)), (1, .int (x1 + r5)), (0, .ref (G.2.2 + k0))]) C.1 C.2.1 dX1_countClashingPairs_23 hl (k := 2) rfl rfl (by decide) rfl (fun ls hl => ?_)
      refine lv_goto (tgt := 4) C.1 C.2.1 dX1_countClashingPairs_26 (by decide) ?_
      exact ih ((x1 + r5)) ((x2 + 1)) _ _ _ _ S (lv_sub hl [2, 1, 0] rfl) h
theorem kM_X1_countClashingPairs : s_M yX1_countClashingPairs cX1_countClashingPairs 3 (some .int) 0 := ⟨co_X1_countClashingPairs, in_X1, by decide, by decide, by decide +kernel⟩
set_option maxHeartbeats 4000000 in
set_option maxRecDepth 100000 in
theorem c_X1_countClashingPairs (l : Launch) (G : s_G) (k0 : Nat) (σ : Sg) (post : Int32 → Sg → Prop) (hk0 : s_kd k0 = 1) (h : wpX1_countClashingPairs k0 σ post) : Met l yX1_countClashingPairs (wsU yX1_countClashingPairs cX1_countClashingPairs 3 (some .int)) rm_X1_countClashingPairs (va_Pc [.ref (G.2.2 + k0)] (s_Pre G σ)) (va_Qi post (s_B G) (s_A G.2.2)) 0 0 (s_A G.2.2) := by
  refine Met.ofW (cc := cX1_countClashingPairs) (maxL := 3) (ret := (some .int)) (by decide) rfl ?_
  intro p e s m args below meth c s₁ B hml hv
  obtain ⟨rfl, hP, hrok, hK, hN⟩ := hv
  have C : s_C G p s (([.ref (G.2.2 + k0)] : List Value).toArray) m c RX1 cX1_countClashingPairs := ⟨B.exec, B.bytes, findClass_of_methodNamed B.named, fun w hw => atoms_spec (ws := wsU yX1_countClashingPairs cX1_countClashingPairs 3 (some .int)) B.pre w (List.mem_cons_of_mem _ hw), hK, hN⟩
  have hr := B.returns
  have hlocks := B.notSynchronized
  have S : s_St G σ s.heap s.heap [] := ⟨hP, va_S.rf, hrok⟩
  have hcs : 0 ≤ (rm_X1_countClashingPairs).cells ∧ 0 ≤ (rm_X1_countClashingPairs).slots := ⟨Nat.le_refl 0, Nat.le_refl 0⟩
  have hR : ∀ (r : Int32) (σ1 : Sg) (H : Heap) (locs : List Loc) (pc : Nat) (ls : Array Slot), decode cX1_countClashingPairs pc = .ok (.ireturn, 1) → post r σ1 → s_St G σ1 s.heap H locs → W p l e rm_X1_countClashingPairs s m ([.ref (G.2.2 + k0)] : List Value).toArray below meth c H locs 0 0 (MQ below (va_Qi post (s_B G) (s_A G.2.2)) ([.ref (G.2.2 + k0)] : List Value).toArray s 0 0 (s_A G.2.2)) (F0 m pc ls [.int r]) := fun _ _ _ _ _ _ hd hp S => ret_i C hr hlocks hd hp S
  have hl := lv_entry ([.ref (G.2.2 + k0)]) (n := 3) (Nat.le_of_ble_eq_true rfl)
  rw [lg_entry_eq]
  generalize (lg_sl ([.ref (G.2.2 + k0)]) ++ List.replicate (3 - (lg_sl ([.ref (G.2.2 + k0)])).length) Slot.unset).toArray = ls at hl ⊢
  have hl : lv_has ls 3 [(0, .ref (G.2.2 + k0))] := hl
  unfold wpX1_countClashingPairs at h
  refine lv_iconst (v := (0 : Int32)) C.1 C.2.1 dX1_countClashingPairs_0 (by decide) ?_
  refine lv_istore_n (lv' := [(1, .int (0 : Int32)), (0, .ref (G.2.2 + k0))]) C.1 C.2.1 dX1_countClashingPairs_1 rfl hl (by decide) rfl (fun ls hl => ?_)
  refine lv_iconst (v := (0 : Int32)) C.1 C.2.1 dX1_countClashingPairs_2 (by decide) ?_
  refine lv_istore_n (lv' := [(2, .int (0 : Int32)), (1, .int (0 : Int32)), (0, .ref (G.2.2 + k0))]) C.1 C.2.1 dX1_countClashingPairs_3 rfl hl (by decide) rfl (fun ls hl => ?_)
  obtain ⟨nf, h⟩ := h
  exact TX1_countClashingPairs_4 C hml hcs hk0 hR nf ((0 : Int32)) ((0 : Int32)) S (lv_sub hl [2, 1, 0] rfl) h
/-! X1_countRules -/
abbrev rm_X1_countRules : Room := { frames := 1, cells := 0, slots := 0, locals := 21 }
def BX1_countRules_4 (k0 : Nat) (post : Int32 → Sg → Prop) : Nat → Int32 → Int32 → Sg → Prop
  | 0, _, _, _ => False
  | n + 1, x1, x2, σ => ((((σ.1 k0 2) ≤ x2) → post x1 σ) ∧ ((¬ (σ.1 k0 2) ≤ x2) → wpX1_at k0 x2 σ (fun q3 σ2 => s_kd q3 = 3 → wpJ6_bitCount_0f7a4 ((σ2.1 q3 5)) σ2 (fun r5 σ4 => BX1_countRules_4 k0 post n ((x1 + r5)) ((x2 + 1)) σ4))))
def wpX1_countRules (k0 : Nat) (σ : Sg) (post : Int32 → Sg → Prop) : Prop := ∃ nf, BX1_countRules_4 k0 post nf ((0 : Int32)) ((0 : Int32)) σ
set_option maxHeartbeats 4000000 in
set_option maxRecDepth 100000 in
theorem TX1_countRules_4 (C : s_C G p s args m c RX1 cX1_countRules) (hml : c.maxLocals = 3) (hcs : cells ≤ (rm_X1_countRules).cells ∧ slots ≤ (rm_X1_countRules).slots) {k0 : Nat} (hk0 : s_kd k0 = 1) {post : Int32 → Sg → Prop} (hR : ∀ (r : Int32) (σ1 : Sg) (H : Heap) (locs : List Loc) (pc : Nat) (ls : Array Slot), decode cX1_countRules pc = .ok (.ireturn, 1) → post r σ1 → s_St G σ1 H0 H locs → W p l e rm_X1_countRules s m args below meth c H locs cells slots Q (F0 m pc ls [.int r])) : ∀ (n : Nat) (x1 : Int32) (x2 : Int32), ∀ {σ : Sg} {H : Heap} {locs : List Loc} {ls : Array Slot}, s_St G σ H0 H locs → lv_has ls 3 [(0, .ref (G.2.2 + k0)), (1, .int x1), (2, .int x2)] → BX1_countRules_4 k0 post n x1 x2 σ → W p l e rm_X1_countRules s m args below meth c H locs cells slots Q (F0 m 4 ls []) := by
  intro n
  induction n with
  | zero =>
    intro x1 x2  σ H locs ls S hl h
    exact absurd h (fun h => h)
  | succ n ih0 =>
    have ih : ∀ (x1 : Int32) (x2 : Int32), ∀ (σ : Sg) (H : Heap) (locs : List Loc) (ls : Array Slot), s_St G σ H0 H locs → lv_has ls 3 [(0, .ref (G.2.2 + k0)), (1, .int x1), (2, .int x2)] → BX1_countRules_4 k0 post n x1 x2 σ → W p l e rm_X1_countRules s m args below meth c H locs cells slots Q (F0 m 4 ls []) := fun x1 x2  _ _ _ _ => ih0 x1 x2 
    intro x1 x2  σ H locs ls S hl h
    refine lv_iload_n C.1 C.2.1 dX1_countRules_4 rfl (lv_at hl 2 rfl) ?_
    refine lv_aload_n C.1 C.2.1 dX1_countRules_5 rfl (lv_at hl 0 rfl) ?_
    refine g_X1_2 C fl_X1_22 hk0 S dX1_countRules_6 ?_
    refine lv_icmp_ge (tgt := 32) C.1 C.2.1 dX1_countRules_9 (by decide) (fun c1 => ?_) (fun c1 => ?_)
    · replace h := h.1 c1
      refine lv_iload_n C.1 C.2.1 dX1_countRules_32 rfl (lv_at hl 1 rfl) ?_
      exact hR _ _ _ _ _ _ dX1_countRules_33 h S
    · replace h := h.2 c1
      refine lv_iload_n C.1 C.2.1 dX1_countRules_12 rfl (lv_at hl 1 rfl) ?_
      refine lv_aload_n C.1 C.2.1 dX1_countRules_13 rfl (lv_at hl 0 rfl) ?_
      refine lv_iload_n C.1 C.2.1 dX1_countRules_14 rfl (lv_at hl 2 rfl) ?_
      refine k_r (kd := 3) (r_V (As := [.int x2]) (rest := [.int x1]) C hml (c_X1_at l G k0 x2 σ _ hk0 h) kM_X1_at im_X1_at se_X1_at ml_X1_29 ⟨rfl, rfl⟩ ⟨Nat.le_of_ble_eq_true rfl, Nat.le_of_ble_eq_true rfl⟩ hcs S.v hk0 (by decide) (T := TX1) (N := 4) rfl rfl hl.1 rfl (Nat.le_of_ble_eq_true rfl) dX1_countRules_15) S (fun q3 σ2 H locs hq3 h S => ?_)
      replace h := h hq3
      refine gn_X3_5 C nf_X1_52 hq3 S dX1_countRules_18 ?_
      refine k_i (r_S (As := [.int (σ2.1 q3 5)]) (rest := [.int x1]) C hml (c_J6_bitCount_0f7a4 l G ((σ2.1 q3 5)) σ2 _ h) kM_J6_bitCount_0f7a4 st_J6_bitCount_0f7a4 ml_X1_71 ⟨rfl, rfl⟩ ⟨Nat.le_of_ble_eq_true rfl, Nat.le_of_ble_eq_true rfl⟩ hcs S.v rfl hl.1 rfl (Nat.le_of_ble_eq_true rfl) dX1_countRules_21) S (fun r5 σ4 H locs h S => ?_)
      refine lv_iadd C.1 C.2.1 dX1_countRules_24 ?_
      refine lv_istore_n (lv' := [(1, .int (x1 + r5)), (0, .ref (G.2.2 + k0)), (2, .int x2)]) C.1 C.2.1 dX1_countRules_25 rfl hl (by decide) rfl (fun ls hl => ?_)
      refine lv_iinc (v := (x2 + 1)) (lv' := [(2, .int (x2 + 1)), (1, .int (x1 + r5)), (0, .ref (G.2.2 + k0))]) C.1 C.2.1 dX1_countRules_26 hl (k := 2) rfl rfl (by decide) rfl (fun ls hl => ?_)
      refine lv_goto (tgt := 4) C.1 C.2.1 dX1_countRules_29 (by decide) ?_
      exact ih ((x1 + r5)) ((x2 + 1)) _ _ _ _ S (lv_sub hl [2, 1, 0] rfl) h
theorem kM_X1_countRules : s_M yX1_countRules cX1_countRules 3 (some .int) 0 := ⟨co_X1_countRules, in_X1, by decide, by decide, by decide +kernel⟩
set_option maxHeartbeats 4000000 in
set_option maxRecDepth 100000 in
theorem c_X1_countRules (l : Launch) (G : s_G) (k0 : Nat) (σ : Sg) (post : Int32 → Sg → Prop) (hk0 : s_kd k0 = 1) (h : wpX1_countRules k0 σ post) : Met l yX1_countRules (wsU yX1_countRules cX1_countRules 3 (some .int)) rm_X1_countRules (va_Pc [.ref (G.2.2 + k0)] (s_Pre G σ)) (va_Qi post (s_B G) (s_A G.2.2)) 0 0 (s_A G.2.2) := by
  refine Met.ofW (cc := cX1_countRules) (maxL := 3) (ret := (some .int)) (by decide) rfl ?_
  intro p e s m args below meth c s₁ B hml hv
  obtain ⟨rfl, hP, hrok, hK, hN⟩ := hv
  have C : s_C G p s (([.ref (G.2.2 + k0)] : List Value).toArray) m c RX1 cX1_countRules := ⟨B.exec, B.bytes, findClass_of_methodNamed B.named, fun w hw => atoms_spec (ws := wsU yX1_countRules cX1_countRules 3 (some .int)) B.pre w (List.mem_cons_of_mem _ hw), hK, hN⟩
  have hr := B.returns
  have hlocks := B.notSynchronized
  have S : s_St G σ s.heap s.heap [] := ⟨hP, va_S.rf, hrok⟩
  have hcs : 0 ≤ (rm_X1_countRules).cells ∧ 0 ≤ (rm_X1_countRules).slots := ⟨Nat.le_refl 0, Nat.le_refl 0⟩
  have hR : ∀ (r : Int32) (σ1 : Sg) (H : Heap) (locs : List Loc) (pc : Nat) (ls : Array Slot), decode cX1_countRules pc = .ok (.ireturn, 1) → post r σ1 → s_St G σ1 s.heap H locs → W p l e rm_X1_countRules s m ([.ref (G.2.2 + k0)] : List Value).toArray below meth c H locs 0 0 (MQ below (va_Qi post (s_B G) (s_A G.2.2)) ([.ref (G.2.2 + k0)] : List Value).toArray s 0 0 (s_A G.2.2)) (F0 m pc ls [.int r]) := fun _ _ _ _ _ _ hd hp S => ret_i C hr hlocks hd hp S
  have hl := lv_entry ([.ref (G.2.2 + k0)]) (n := 3) (Nat.le_of_ble_eq_true rfl)
  rw [lg_entry_eq]
  generalize (lg_sl ([.ref (G.2.2 + k0)]) ++ List.replicate (3 - (lg_sl ([.ref (G.2.2 + k0)])).length) Slot.unset).toArray = ls at hl ⊢
  have hl : lv_has ls 3 [(0, .ref (G.2.2 + k0))] := hl
  unfold wpX1_countRules at h
  refine lv_iconst (v := (0 : Int32)) C.1 C.2.1 dX1_countRules_0 (by decide) ?_
  refine lv_istore_n (lv' := [(1, .int (0 : Int32)), (0, .ref (G.2.2 + k0))]) C.1 C.2.1 dX1_countRules_1 rfl hl (by decide) rfl (fun ls hl => ?_)
  refine lv_iconst (v := (0 : Int32)) C.1 C.2.1 dX1_countRules_2 (by decide) ?_
  refine lv_istore_n (lv' := [(2, .int (0 : Int32)), (1, .int (0 : Int32)), (0, .ref (G.2.2 + k0))]) C.1 C.2.1 dX1_countRules_3 rfl hl (by decide) rfl (fun ls hl => ?_)
  obtain ⟨nf, h⟩ := h
  exact TX1_countRules_4 C hml hcs hk0 hR nf ((0 : Int32)) ((0 : Int32)) S (lv_sub hl [2, 1, 0] rfl) h
/-! X1_leastOccurrences -/
abbrev rm_X1_leastOccurrences : Room := { frames := 1, cells := 0, slots := 0, locals := 21 }
def BX1_leastOccurrences_4 (k0 : Nat) (post : Int32 → Sg → Prop) : Nat → Int32 → Int32 → Sg → Prop
  | 0, _, _, _ => False
  | n + 1, x1, x2, σ => ((((σ.1 k0 2) ≤ x2) → post x1 σ) ∧ ((¬ (σ.1 k0 2) ≤ x2) → wpX1_at k0 x2 σ (fun q3 σ2 => s_kd q3 = 3 → BX1_leastOccurrences_4 k0 post n ((x1 + (σ2.1 q3 2))) ((x2 + 1)) σ2)))
def wpX1_leastOccurrences (k0 : Nat) (σ : Sg) (post : Int32 → Sg → Prop) : Prop := ∃ nf, BX1_leastOccurrences_4 k0 post nf ((0 : Int32)) ((0 : Int32)) σ
set_option maxHeartbeats 4000000 in
set_option maxRecDepth 100000 in
theorem TX1_leastOccurrences_4 (C : s_C G p s args m c RX1 cX1_leastOccurrences) (hml : c.maxLocals = 3) (hcs : cells ≤ (rm_X1_leastOccurrences).cells ∧ slots ≤ (rm_X1_leastOccurrences).slots) {k0 : Nat} (hk0 : s_kd k0 = 1) {post : Int32 → Sg → Prop} (hR : ∀ (r : Int32) (σ1 : Sg) (H : Heap) (locs : List Loc) (pc : Nat) (ls : Array Slot), decode cX1_leastOccurrences pc = .ok (.ireturn, 1) → post r σ1 → s_St G σ1 H0 H locs → W p l e rm_X1_leastOccurrences s m args below meth c H locs cells slots Q (F0 m pc ls [.int r])) : ∀ (n : Nat) (x1 : Int32) (x2 : Int32), ∀ {σ : Sg} {H : Heap} {locs : List Loc} {ls : Array Slot}, s_St G σ H0 H locs → lv_has ls 3 [(0, .ref (G.2.2 + k0)), (1, .int x1), (2, .int x2)] → BX1_leastOccurrences_4 k0 post n x1 x2 σ → W p l e rm_X1_leastOccurrences s m args below meth c H locs cells slots Q (F0 m 4 ls []) := by
  intro n
  induction n with
  | zero =>
    intro x1 x2  σ H locs ls S hl h
    exact absurd h (fun h => h)
  | succ n ih0 =>
    have ih : ∀ (x1 : Int32) (x2 : Int32), ∀ (σ : Sg) (H : Heap) (locs : List Loc) (ls : Array Slot), s_St G σ H0 H locs → lv_has ls 3 [(0, .ref (G.2.2 + k0)), (1, .int x1), (2, .int x2)] → BX1_leastOccurrences_4 k0 post n x1 x2 σ → W p l e rm_X1_leastOccurrences s m args below meth c H locs cells slots Q (F0 m 4 ls []) := fun x1 x2  _ _ _ _ => ih0 x1 x2 
    intro x1 x2  σ H locs ls S hl h
    refine lv_iload_n C.1 C.2.1 dX1_leastOccurrences_4 rfl (lv_at hl 2 rfl) ?_
    refine lv_aload_n C.1 C.2.1 dX1_leastOccurrences_5 rfl (lv_at hl 0 rfl) ?_
    refine g_X1_2 C fl_X1_22 hk0 S dX1_leastOccurrences_6 ?_
    refine lv_icmp_ge (tgt := 29) C.1 C.2.1 dX1_leastOccurrences_9 (by decide) (fun c1 => ?_) (fun c1 => ?_)
    · replace h := h.1 c1
      refine lv_iload_n C.1 C.2.1 dX1_leastOccurrences_29 rfl (lv_at hl 1 rfl) ?_
      exact hR _ _ _ _ _ _ dX1_leastOccurrences_30 h S
    · replace h := h.2 c1
      refine lv_iload_n C.1 C.2.1 dX1_leastOccurrences_12 rfl (lv_at hl 1 rfl) ?_
      refine lv_aload_n C.1 C.2.1 dX1_leastOccurrences_13 rfl (lv_at hl 0 rfl) ?_
      refine lv_iload_n C.1 C.2.1 dX1_leastOccurrences_14 rfl (lv_at hl 2 rfl) ?_
      refine k_r (kd := 3) (r_V (As := [.int x2]) (rest := [.int x1]) C hml (c_X1_at l G k0 x2 σ _ hk0 h) kM_X1_at im_X1_at se_X1_at ml_X1_29 ⟨rfl, rfl⟩ ⟨Nat.le_of_ble_eq_true rfl, Nat.le_of_ble_eq_true rfl⟩ hcs S.v hk0 (by decide) (T := TX1) (N := 4) rfl rfl hl.1 rfl (Nat.le_of_ble_eq_true rfl) dX1_leastOccurrences_15) S (fun q3 σ2 H locs hq3 h S => ?_)
      replace h := h hq3
      refine gn_X3_2 C nf_X1_43 hq3 S dX1_leastOccurrences_18 ?_
      refine lv_iadd C.1 C.2.1 dX1_leastOccurrences_21 ?_
      refine lv_istore_n (lv' := [(1, .int (x1 + (σ2.1 q3 2))), (0, .ref (G.2.2 + k0)), (2, .int x2)]) C.1 C.2.1 dX1_leastOccurrences_22 rfl hl (by decide) rfl (fun ls hl => ?_)
      refine lv_iinc (v := (x2 + 1)) (lv' := [(2, .int (x2 + 1)), (1, .int (x1 + (σ2.1 q3 2))), (0, .ref (G.2.2 + k0))]) C.1 C.2.1 dX1_leastOccurrences_23 hl (k := 2) rfl rfl (by decide) rfl (fun ls hl => ?_)
      refine lv_goto (tgt := 4) C.1 C.2.1 dX1_leastOccurrences_26 (by decide) ?_
      exact ih ((x1 + (σ2.1 q3 2))) ((x2 + 1)) _ _ _ _ S (lv_sub hl [2, 1, 0] rfl) h
theorem kM_X1_leastOccurrences : s_M yX1_leastOccurrences cX1_leastOccurrences 3 (some .int) 0 := ⟨co_X1_leastOccurrences, in_X1, by decide, by decide, by decide +kernel⟩
set_option maxHeartbeats 4000000 in
set_option maxRecDepth 100000 in
theorem c_X1_leastOccurrences (l : Launch) (G : s_G) (k0 : Nat) (σ : Sg) (post : Int32 → Sg → Prop) (hk0 : s_kd k0 = 1) (h : wpX1_leastOccurrences k0 σ post) : Met l yX1_leastOccurrences (wsU yX1_leastOccurrences cX1_leastOccurrences 3 (some .int)) rm_X1_leastOccurrences (va_Pc [.ref (G.2.2 + k0)] (s_Pre G σ)) (va_Qi post (s_B G) (s_A G.2.2)) 0 0 (s_A G.2.2) := by
  refine Met.ofW (cc := cX1_leastOccurrences) (maxL := 3) (ret := (some .int)) (by decide) rfl ?_
  intro p e s m args below meth c s₁ B hml hv
  obtain ⟨rfl, hP, hrok, hK, hN⟩ := hv
  have C : s_C G p s (([.ref (G.2.2 + k0)] : List Value).toArray) m c RX1 cX1_leastOccurrences := ⟨B.exec, B.bytes, findClass_of_methodNamed B.named, fun w hw => atoms_spec (ws := wsU yX1_leastOccurrences cX1_leastOccurrences 3 (some .int)) B.pre w (List.mem_cons_of_mem _ hw), hK, hN⟩
  have hr := B.returns
  have hlocks := B.notSynchronized
  have S : s_St G σ s.heap s.heap [] := ⟨hP, va_S.rf, hrok⟩
  have hcs : 0 ≤ (rm_X1_leastOccurrences).cells ∧ 0 ≤ (rm_X1_leastOccurrences).slots := ⟨Nat.le_refl 0, Nat.le_refl 0⟩
  have hR : ∀ (r : Int32) (σ1 : Sg) (H : Heap) (locs : List Loc) (pc : Nat) (ls : Array Slot), decode cX1_leastOccurrences pc = .ok (.ireturn, 1) → post r σ1 → s_St G σ1 s.heap H locs → W p l e rm_X1_leastOccurrences s m ([.ref (G.2.2 + k0)] : List Value).toArray below meth c H locs 0 0 (MQ below (va_Qi post (s_B G) (s_A G.2.2)) ([.ref (G.2.2 + k0)] : List Value).toArray s 0 0 (s_A G.2.2)) (F0 m pc ls [.int r]) := fun _ _ _ _ _ _ hd hp S => ret_i C hr hlocks hd hp S
  have hl := lv_entry ([.ref (G.2.2 + k0)]) (n := 3) (Nat.le_of_ble_eq_true rfl)
  rw [lg_entry_eq]
  generalize (lg_sl ([.ref (G.2.2 + k0)]) ++ List.replicate (3 - (lg_sl ([.ref (G.2.2 + k0)])).length) Slot.unset).toArray = ls at hl ⊢
  have hl : lv_has ls 3 [(0, .ref (G.2.2 + k0))] := hl
  unfold wpX1_leastOccurrences at h
  refine lv_iconst (v := (0 : Int32)) C.1 C.2.1 dX1_leastOccurrences_0 (by decide) ?_
  refine lv_istore_n (lv' := [(1, .int (0 : Int32)), (0, .ref (G.2.2 + k0))]) C.1 C.2.1 dX1_leastOccurrences_1 rfl hl (by decide) rfl (fun ls hl => ?_)
  refine lv_iconst (v := (0 : Int32)) C.1 C.2.1 dX1_leastOccurrences_2 (by decide) ?_
  refine lv_istore_n (lv' := [(2, .int (0 : Int32)), (1, .int (0 : Int32)), (0, .ref (G.2.2 + k0))]) C.1 C.2.1 dX1_leastOccurrences_3 rfl hl (by decide) rfl (fun ls hl => ?_)
  obtain ⟨nf, h⟩ := h
  exact TX1_leastOccurrences_4 C hml hcs hk0 hR nf ((0 : Int32)) ((0 : Int32)) S (lv_sub hl [2, 1, 0] rfl) h
/-! X1_mostOccurrences -/
abbrev rm_X1_mostOccurrences : Room := { frames := 1, cells := 0, slots := 0, locals := 21 }
def BX1_mostOccurrences_4 (k0 : Nat) (post : Int32 → Sg → Prop) : Nat → Int32 → Int32 → Sg → Prop
  | 0, _, _, _ => False
  | n + 1, x1, x2, σ => ((((σ.1 k0 2) ≤ x2) → post x1 σ) ∧ ((¬ (σ.1 k0 2) ≤ x2) → wpX1_at k0 x2 σ (fun q3 σ2 => s_kd q3 = 3 → BX1_mostOccurrences_4 k0 post n ((x1 + (σ2.1 q3 3))) ((x2 + 1)) σ2)))
def wpX1_mostOccurrences (k0 : Nat) (σ : Sg) (post : Int32 → Sg → Prop) : Prop := ∃ nf, BX1_mostOccurrences_4 k0 post nf ((0 : Int32)) ((0 : Int32)) σ
set_option maxHeartbeats 4000000 in
set_option maxRecDepth 100000 in
theorem TX1_mostOccurrences_4 (C : s_C G p s args m c RX1 cX1_mostOccurrences) (hml : c.maxLocals = 3) (hcs : cells ≤ (rm_X1_mostOccurrences).cells ∧ slots ≤ (rm_X1_mostOccurrences).slots) {k0 : Nat} (hk0 : s_kd k0 = 1) {post : Int32 → Sg → Prop} (hR : ∀ (r : Int32) (σ1 : Sg) (H : Heap) (locs : List Loc) (pc : Nat) (ls : Array Slot), decode cX1_mostOccurrences pc = .ok (.ireturn, 1) → post r σ1 → s_St G σ1 H0 H locs → W p l e rm_X1_mostOccurrences s m args below meth c H locs cells slots Q (F0 m pc ls [.int r])) : ∀ (n : Nat) (x1 : Int32) (x2 : Int32), ∀ {σ : Sg} {H : Heap} {locs : List Loc} {ls : Array Slot}, s_St G σ H0 H locs → lv_has ls 3 [(0, .ref (G.2.2 + k0)), (1, .int x1), (2, .int x2)] → BX1_mostOccurrences_4 k0 post n x1 x2 σ → W p l e rm_X1_mostOccurrences s m args below meth c H locs cells slots Q (F0 m 4 ls []) := by
  intro n
  induction n with
  | zero =>
    intro x1 x2  σ H locs ls S hl h
    exact absurd h (fun h => h)
  | succ n ih0 =>
    have ih : ∀ (x1 : Int32) (x2 : Int32), ∀ (σ : Sg) (H : Heap) (locs : List Loc) (ls : Array Slot), s_St G σ H0 H locs → lv_has ls 3 [(0, .ref (G.2.2 + k0)), (1, .int x1), (2, .int x2)] → BX1_mostOccurrences_4 k0 post n x1 x2 σ → W p l e rm_X1_mostOccurrences s m args below meth c H locs cells slots Q (F0 m 4 ls []) := fun x1 x2  _ _ _ _ => ih0 x1 x2 
    intro x1 x2  σ H locs ls S hl h
    refine lv_iload_n C.1 C.2.1 dX1_mostOccurrences_4 rfl (lv_at hl 2 rfl) ?_
    refine lv_aload_n C.1 C.2.1 dX1_mostOccurrences_5 rfl (lv_at hl 0 rfl) ?_
    refine g_X1_2 C fl_X1_22 hk0 S dX1_mostOccurrences_6 ?_
    refine lv_icmp_ge (tgt := 29) C.1 C.2.1 dX1_mostOccurrences_9 (by decide) (fun c1 => ?_) (fun c1 => ?_)
    · replace h := h.1 c1
      refine lv_iload_n C.1 C.2.1 dX1_mostOccurrences_29 rfl (lv_at hl 1 rfl) ?_
      exact hR _ _ _ _ _ _ dX1_mostOccurrences_30 h S
    · replace h := h.2 c1
      refine lv_iload_n C.1 C.2.1 dX1_mostOccurrences_12 rfl (lv_at hl 1 rfl) ?_
      refine lv_aload_n C.1 C.2.1 dX1_mostOccurrences_13 rfl (lv_at hl 0 rfl) ?_
      refine lv_iload_n C.1 C.2.1 dX1_mostOccurrences_14 rfl (lv_at hl 2 rfl) ?_
      refine k_r (kd := 3) (r_V (As := [.int x2]) (rest := [.int x1]) C hml (c_X1_at l G k0 x2 σ _ hk0 h) kM_X1_at im_X1_at se_X1_at ml_X1_29 ⟨rfl, rfl⟩ ⟨Nat.le_of_ble_eq_true rfl, Nat.le_of_ble_eq_true rfl⟩ hcs S.v hk0 (by decide) (T := TX1) (N := 4) rfl rfl hl.1 rfl (Nat.le_of_ble_eq_true rfl) dX1_mostOccurrences_15) S (fun q3 σ2 H locs hq3 h S => ?_)
      replace h := h hq3
      refine gn_X3_3 C nf_X1_46 hq3 S dX1_mostOccurrences_18 ?_
      refine lv_iadd C.1 C.2.1 dX1_mostOccurrences_21 ?_
      refine lv_istore_n (lv' := [(1, .int (x1 + (σ2.1 q3 3))), (0, .ref (G.2.2 + k0)), (2, .int x2)]) C.1 C.2.1 dX1_mostOccurrences_22 rfl hl (by decide) rfl (fun ls hl => ?_)
      refine lv_iinc (v := (x2 + 1)) (lv' := [(2, .int (x2 + 1)), (1, .int (x1 + (σ2.1 q3 3))), (0, .ref (G.2.2 + k0))]) C.1 C.2.1 dX1_mostOccurrences_23 hl (k := 2) rfl rfl (by decide) rfl (fun ls hl => ?_)
      refine lv_goto (tgt := 4) C.1 C.2.1 dX1_mostOccurrences_26 (by decide) ?_
      exact ih ((x1 + (σ2.1 q3 3))) ((x2 + 1)) _ _ _ _ S (lv_sub hl [2, 1, 0] rfl) h
theorem kM_X1_mostOccurrences : s_M yX1_mostOccurrences cX1_mostOccurrences 3 (some .int) 0 := ⟨co_X1_mostOccurrences, in_X1, by decide, by decide, by decide +kernel⟩
set_option maxHeartbeats 4000000 in
set_option maxRecDepth 100000 in
theorem c_X1_mostOccurrences (l : Launch) (G : s_G) (k0 : Nat) (σ : Sg) (post : Int32 → Sg → Prop) (hk0 : s_kd k0 = 1) (h : wpX1_mostOccurrences k0 σ post) : Met l yX1_mostOccurrences (wsU yX1_mostOccurrences cX1_mostOccurrences 3 (some .int)) rm_X1_mostOccurrences (va_Pc [.ref (G.2.2 + k0)] (s_Pre G σ)) (va_Qi post (s_B G) (s_A G.2.2)) 0 0 (s_A G.2.2) := by
  refine Met.ofW (cc := cX1_mostOccurrences) (maxL := 3) (ret := (some .int)) (by decide) rfl ?_
  intro p e s m args below meth c s₁ B hml hv
  obtain ⟨rfl, hP, hrok, hK, hN⟩ := hv
  have C : s_C G p s (([.ref (G.2.2 + k0)] : List Value).toArray) m c RX1 cX1_mostOccurrences := ⟨B.exec, B.bytes, findClass_of_methodNamed B.named, fun w hw => atoms_spec (ws := wsU yX1_mostOccurrences cX1_mostOccurrences 3 (some .int)) B.pre w (List.mem_cons_of_mem _ hw), hK, hN⟩
  have hr := B.returns
  have hlocks := B.notSynchronized
  have S : s_St G σ s.heap s.heap [] := ⟨hP, va_S.rf, hrok⟩
  have hcs : 0 ≤ (rm_X1_mostOccurrences).cells ∧ 0 ≤ (rm_X1_mostOccurrences).slots := ⟨Nat.le_refl 0, Nat.le_refl 0⟩
  have hR : ∀ (r : Int32) (σ1 : Sg) (H : Heap) (locs : List Loc) (pc : Nat) (ls : Array Slot), decode cX1_mostOccurrences pc = .ok (.ireturn, 1) → post r σ1 → s_St G σ1 s.heap H locs → W p l e rm_X1_mostOccurrences s m ([.ref (G.2.2 + k0)] : List Value).toArray below meth c H locs 0 0 (MQ below (va_Qi post (s_B G) (s_A G.2.2)) ([.ref (G.2.2 + k0)] : List Value).toArray s 0 0 (s_A G.2.2)) (F0 m pc ls [.int r]) := fun _ _ _ _ _ _ hd hp S => ret_i C hr hlocks hd hp S
  have hl := lv_entry ([.ref (G.2.2 + k0)]) (n := 3) (Nat.le_of_ble_eq_true rfl)
  rw [lg_entry_eq]
  generalize (lg_sl ([.ref (G.2.2 + k0)]) ++ List.replicate (3 - (lg_sl ([.ref (G.2.2 + k0)])).length) Slot.unset).toArray = ls at hl ⊢
  have hl : lv_has ls 3 [(0, .ref (G.2.2 + k0))] := hl
  unfold wpX1_mostOccurrences at h
  refine lv_iconst (v := (0 : Int32)) C.1 C.2.1 dX1_mostOccurrences_0 (by decide) ?_
  refine lv_istore_n (lv' := [(1, .int (0 : Int32)), (0, .ref (G.2.2 + k0))]) C.1 C.2.1 dX1_mostOccurrences_1 rfl hl (by decide) rfl (fun ls hl => ?_)
  refine lv_iconst (v := (0 : Int32)) C.1 C.2.1 dX1_mostOccurrences_2 (by decide) ?_
  refine lv_istore_n (lv' := [(2, .int (0 : Int32)), (1, .int (0 : Int32)), (0, .ref (G.2.2 + k0))]) C.1 C.2.1 dX1_mostOccurrences_3 rfl hl (by decide) rfl (fun ls hl => ?_)
  obtain ⟨nf, h⟩ := h
  exact TX1_mostOccurrences_4 C hml hcs hk0 hR nf ((0 : Int32)) ((0 : Int32)) S (lv_sub hl [2, 1, 0] rfl) h
/-! X6_told -/
abbrev rm_X6_told : Room := { frames := 4, cells := 0, slots := 0, locals := 88 }
def wpX6_told (x1 : Int32) (σ : Sg) (post : Int32 → Sg → Prop) : Prop := ((((x1).toInt < 0 ∨ 7 < (x1).toInt) → post ((-1 : Int32)) σ) ∧ ((x1 = 0) → post ((σ.1 5 2)) σ) ∧ ((x1 = 1) → post ((σ.1 5 3)) σ) ∧ ((x1 = 2) → wpX1_countRules 5 σ (fun r3 σ2 => post r3 σ2)) ∧ ((x1 = 3) → wpX1_countClashingPairs 5 σ (fun r5 σ4 => post r5 σ4)) ∧ ((x1 = 4) → post ((σ.1 1 1)) σ) ∧ ((x1 = 5) → post ((σ.1 14 1)) σ) ∧ ((x1 = 6) → wpX1_leastOccurrences 5 σ (fun r7 σ6 => post r7 σ6)) ∧ ((x1 = 7) → wpX1_mostOccurrences 5 σ (fun r9 σ8 => post r9 σ8)))
theorem kM_X6_told : s_M yX6_told cX6_told 2 (some .int) 1 := ⟨co_X6_told, in_X6, by decide, by decide, by decide +kernel⟩
set_option maxHeartbeats 4000000 in
set_option maxRecDepth 100000 in
theorem c_X6_told (l : Launch) (G : s_G) (x1 : Int32) (σ : Sg) (post : Int32 → Sg → Prop) (h : wpX6_told x1 σ post) : Met l yX6_told (wsU yX6_told cX6_told 2 (some .int)) rm_X6_told (va_Pc [.ref (G.2.2 + 0), .int x1] (s_Pre G σ)) (va_Qi post (s_B G) (s_A G.2.2)) 0 0 (s_A G.2.2) := by
  refine Met.ofW (cc := cX6_told) (maxL := 2) (ret := (some .int)) (by decide) rfl ?_
  intro p e s m args below meth c s₁ B hml hv
  obtain ⟨rfl, hP, hrok, hK, hN⟩ := hv
  have C : s_C G p s (([.ref (G.2.2 + 0), .int x1] : List Value).toArray) m c RX6 cX6_told := ⟨B.exec, B.bytes, findClass_of_methodNamed B.named, fun w hw => atoms_spec (ws := wsU yX6_told cX6_told 2 (some .int)) B.pre w (List.mem_cons_of_mem _ hw), hK, hN⟩
  have hr := B.returns
  have hlocks := B.notSynchronized
  have S : s_St G σ s.heap s.heap [] := ⟨hP, va_S.rf, hrok⟩
  have hcs : 0 ≤ (rm_X6_told).cells ∧ 0 ≤ (rm_X6_told).slots := ⟨Nat.le_refl 0, Nat.le_refl 0⟩
  have hR : ∀ (r : Int32) (σ1 : Sg) (H : Heap) (locs : List Loc) (pc : Nat) (ls : Array Slot), decode cX6_told pc = .ok (.ireturn, 1) → post r σ1 → s_St G σ1 s.heap H locs → W p l e rm_X6_told s m ([.ref (G.2.2 + 0), .int x1] : List Value).toArray below meth c H locs 0 0 (MQ below (va_Qi post (s_B G) (s_A G.2.2)) ([.ref (G.2.2 + 0), .int x1] : List Value).toArray s 0 0 (s_A G.2.2)) (F0 m pc ls [.int r]) := fun _ _ _ _ _ _ hd hp S => ret_i C hr hlocks hd hp S
  have hl := lv_entry ([.ref (G.2.2 + 0), .int x1]) (n := 2) (Nat.le_of_ble_eq_true rfl)
  rw [lg_entry_eq]
  generalize (lg_sl ([.ref (G.2.2 + 0), .int x1]) ++ List.replicate (2 - (lg_sl ([.ref (G.2.2 + 0), .int x1])).length) Slot.unset).toArray = ls at hl ⊢
  have hl : lv_has ls 2 [(0, .ref (G.2.2 + 0)), (1, .int x1)] := hl
  unfold wpX6_told at h
  refine lv_iload_n C.1 C.2.1 dX6_told_0 rfl (lv_at hl 1 rfl) ?_
  rcases (sw_0_7 x1) with c1 | c1 | c1 | c1 | c1 | c1 | c1 | c1 | c1
  · replace h := h.1 c1
    refine lv_tableOut (tgt := 112) C.1 C.2.1 dX6_told_1 c1 (by decide) ?_
    refine lv_iconst (v := (-1 : Int32)) C.1 C.2.1 dX6_told_112 (by decide) ?_
    exact hR _ _ _ _ _ _ dX6_told_113 h S
  · replace h := h.2.1 c1
    refine lv_tableIn (tgt := 48) (off := 47) C.1 C.2.1 dX6_told_1 (by rw [c1]; decide) (by rw [c1]; decide) (by rw [c1]; decide) (by decide) ?_
    refine lv_aload_n C.1 C.2.1 dX6_told_48 rfl (lv_at hl 0 rfl) ?_
    refine g_X6_2 C fl_X6_22 kd_0 S fn_0_2 dX6_told_49 ?_
    refine gn_X1_2 C nf_X6_79 kd_5 S dX6_told_52 ?_
    exact hR _ _ _ _ _ _ dX6_told_55 h S
  · replace h := h.2.2.1 c1
    refine lv_tableIn (tgt := 56) (off := 55) C.1 C.2.1 dX6_told_1 (by rw [c1]; decide) (by rw [c1]; decide) (by rw [c1]; decide) (by decide) ?_
    refine lv_aload_n C.1 C.2.1 dX6_told_56 rfl (lv_at hl 0 rfl) ?_
    refine g_X6_2 C fl_X6_22 kd_0 S fn_0_2 dX6_told_57 ?_
    refine gn_X1_3 C nf_X6_114 kd_5 S dX6_told_60 ?_
    exact hR _ _ _ _ _ _ dX6_told_63 h S
  · replace h := h.2.2.2.1 c1
    refine lv_tableIn (tgt := 64) (off := 63) C.1 C.2.1 dX6_told_1 (by rw [c1]; decide) (by rw [c1]; decide) (by rw [c1]; decide) (by decide) ?_
    refine lv_aload_n C.1 C.2.1 dX6_told_64 rfl (lv_at hl 0 rfl) ?_
    refine g_X6_2 C fl_X6_22 kd_0 S fn_0_2 dX6_told_65 ?_
    refine k_i (r_VN (As := []) (rest := []) C hml (c_X1_countRules l G 5 σ _ kd_5 h) kM_X1_countRules im_X1_countRules se_X1_countRules nm_X6_139 ⟨rfl, rfl⟩ ⟨Nat.le_of_ble_eq_true rfl, Nat.le_of_ble_eq_true rfl⟩ hcs S.v kd_5 (by decide) (T := TX1) (N := 4) rfl rfl hl.1 rfl (Nat.le_of_ble_eq_true rfl) dX6_told_68) S (fun r3 σ2 H locs h S => ?_)
    exact hR _ _ _ _ _ _ dX6_told_71 h S
  · replace h := h.2.2.2.2.1 c1
    refine lv_tableIn (tgt := 72) (off := 71) C.1 C.2.1 dX6_told_1 (by rw [c1]; decide) (by rw [c1]; decide) (by rw [c1]; decide) (by decide) ?_
    refine lv_aload_n C.1 C.2.1 dX6_told_72 rfl (lv_at hl 0 rfl) ?_
    refine g_X6_2 C fl_X6_22 kd_0 S fn_0_2 dX6_told_73 ?_
    refine k_i (r_VN (As := []) (rest := []) C hml (c_X1_countClashingPairs l G 5 σ _ kd_5 h) kM_X1_countClashingPairs im_X1_countClashingPairs se_X1_countClashingPairs nm_X6_142 ⟨rfl, rfl⟩ ⟨Nat.le_of_ble_eq_true rfl, Nat.le_of_ble_eq_true rfl⟩ hcs S.v kd_5 (by decide) (T := TX1) (N := 4) rfl rfl hl.1 rfl (Nat.le_of_ble_eq_true rfl) dX6_told_76) S (fun r5 σ4 H locs h S => ?_)
    exact hR _ _ _ _ _ _ dX6_told_79 h S
  · replace h := h.2.2.2.2.2.1 c1
    refine lv_tableIn (tgt := 80) (off := 79) C.1 C.2.1 dX6_told_1 (by rw [c1]; decide) (by rw [c1]; decide) (by rw [c1]; decide) (by decide) ?_
    refine lv_aload_n C.1 C.2.1 dX6_told_80 rfl (lv_at hl 0 rfl) ?_
    refine g_X6_0 C fl_X6_10 kd_0 S fn_0_0 dX6_told_81 ?_
    refine gn_X0_1 C nf_X6_62 kd_1 S dX6_told_84 ?_
    exact hR _ _ _ _ _ _ dX6_told_87 h S
  · replace h := h.2.2.2.2.2.2.1 c1
    refine lv_tableIn (tgt := 88) (off := 87) C.1 C.2.1 dX6_told_1 (by rw [c1]; decide) (by rw [c1]; decide) (by rw [c1]; decide) (by decide) ?_
    refine lv_aload_n C.1 C.2.1 dX6_told_88 rfl (lv_at hl 0 rfl) ?_
    refine g_X6_3 C fl_X6_29 kd_0 S fn_0_3 dX6_told_89 ?_
    refine gn_X2_1 C nf_X6_127 kd_14 S dX6_told_92 ?_
    exact hR _ _ _ _ _ _ dX6_told_95 h S
  · replace h := h.2.2.2.2.2.2.2.1 c1
    refine lv_tableIn (tgt := 96) (off := 95) C.1 C.2.1 dX6_told_1 (by rw [c1]; decide) (by rw [c1]; decide) (by rw [c1]; decide) (by decide) ?_
    refine lv_aload_n C.1 C.2.1 dX6_told_96 rfl (lv_at hl 0 rfl) ?_
    refine g_X6_2 C fl_X6_22 kd_0 S fn_0_2 dX6_told_97 ?_
    refine k_i (r_VN (As := []) (rest := []) C hml (c_X1_leastOccurrences l G 5 σ _ kd_5 h) kM_X1_leastOccurrences im_X1_leastOccurrences se_X1_leastOccurrences nm_X6_145 ⟨rfl, rfl⟩ ⟨Nat.le_of_ble_eq_true rfl, Nat.le_of_ble_eq_true rfl⟩ hcs S.v kd_5 (by decide) (T := TX1) (N := 4) rfl rfl hl.1 rfl (Nat.le_of_ble_eq_true rfl) dX6_told_100) S (fun r7 σ6 H locs h S => ?_)
    exact hR _ _ _ _ _ _ dX6_told_103 h S
  · replace h := h.2.2.2.2.2.2.2.2 c1
    refine lv_tableIn (tgt := 104) (off := 103) C.1 C.2.1 dX6_told_1 (by rw [c1]; decide) (by rw [c1]; decide) (by rw [c1]; decide) (by decide) ?_
    refine lv_aload_n C.1 C.2.1 dX6_told_104 rfl (lv_at hl 0 rfl) ?_
    refine g_X6_2 C fl_X6_22 kd_0 S fn_0_2 dX6_told_105 ?_
    refine k_i (r_VN (As := []) (rest := []) C hml (c_X1_mostOccurrences l G 5 σ _ kd_5 h) kM_X1_mostOccurrences im_X1_mostOccurrences se_X1_mostOccurrences nm_X6_148 ⟨rfl, rfl⟩ ⟨Nat.le_of_ble_eq_true rfl, Nat.le_of_ble_eq_true rfl⟩ hcs S.v kd_5 (by decide) (T := TX1) (N := 4) rfl rfl hl.1 rfl (Nat.le_of_ble_eq_true rfl) dX6_told_108) S (fun r9 σ8 H locs h S => ?_)
    exact hR _ _ _ _ _ _ dX6_told_111 h S
/-! L_areAlike -/
abbrev rm_L_areAlike : Room := { frames := 7, cells := 0, slots := 0, locals := 164 }
def BL_areAlike_104  (K92 : Int32 → Int32 → Sg2 → Prop) (post : Int32 → Sg2 → Prop) : Nat → Int32 → Int32 → Int32 → Sg2 → Prop
  | 0, _, _, _, _ => False
  | n + 1, x2, x3, x4, σ => ((((10 : Int32) ≤ x4) → K92 x2 ((x3 + 1)) σ) ∧ ((¬ (10 : Int32) ≤ x4) → (((x2 = 0) → BL_areAlike_104 K92 post n ((0 : Int32)) x3 ((x4 + 1)) σ) ∧ ((¬ x2 = 0) → wpX6_member x3 x4 σ.1 (fun r4 σ3 => wpX6_member x3 x4 σ.2 (fun r6 σ5 => (((¬ r4 = r6) → BL_areAlike_104 K92 post n ((0 : Int32)) x3 ((x4 + 1)) (σ3, σ5)) ∧ ((r4 = r6) → BL_areAlike_104 K92 post n ((1 : Int32)) x3 ((x4 + 1)) (σ3, σ5)))))))))
def BL_areAlike_92  (post : Int32 → Sg2 → Prop) : Nat → Int32 → Int32 → Sg2 → Prop
  | 0, _, _, _ => False
  | n + 1, x2, x3, σ => wpX6_told ((0 : Int32)) σ.1 (fun r9 σ8 => (((r9 ≤ x3) → (narrow .boolean (.int x2) = .int x2 ∧ post x2 (σ8, σ.2))) ∧ ((¬ r9 ≤ x3) → ∃ nf, BL_areAlike_104 (BL_areAlike_92 post n) post nf x2 x3 ((0 : Int32)) (σ8, σ.2))))
def BL_areAlike_55  (post : Int32 → Sg2 → Prop) : Nat → Int32 → Int32 → Sg2 → Prop
  | 0, _, _, _ => False
  | n + 1, x2, x3, σ => ((((8 : Int32) ≤ x3) → ∃ nf, BL_areAlike_92 post nf x2 ((0 : Int32)) σ) ∧ ((¬ (8 : Int32) ≤ x3) → (((x2 = 0) → BL_areAlike_55 post n ((0 : Int32)) ((x3 + 1)) σ) ∧ ((¬ x2 = 0) → wpX6_told x3 σ.1 (fun r14 σ13 => wpX6_told x3 σ.2 (fun r16 σ15 => (((¬ r14 = r16) → BL_areAlike_55 post n ((0 : Int32)) ((x3 + 1)) (σ13, σ15)) ∧ ((r14 = r16) → BL_areAlike_55 post n ((1 : Int32)) ((x3 + 1)) (σ13, σ15)))))))))
def wpL_areAlike  (σ : Sg2) (post : Int32 → Sg2 → Prop) : Prop := wpX6_readings σ.1 (fun r19 σ18 => wpX6_readings σ.2 (fun r21 σ20 => (((¬ r19 = r21) → ∃ nf, BL_areAlike_55 post nf ((0 : Int32)) ((0 : Int32)) (σ18, σ20)) ∧ ((r19 = r21) → wpX6_fault σ18 (fun r24 σ23 => wpX6_fault σ20 (fun r26 σ25 => (((¬ r24 = r26) → ∃ nf, BL_areAlike_55 post nf ((0 : Int32)) ((0 : Int32)) (σ23, σ25)) ∧ ((r24 = r26) → wpX6_next σ23 (fun r29 σ28 => wpX6_next σ25 (fun r31 σ30 => (((¬ r29 = r31) → ∃ nf, BL_areAlike_55 post nf ((0 : Int32)) ((0 : Int32)) (σ28, σ30)) ∧ ((r29 = r31) → wpX6_orders ((-1 : Int32)) σ28 (fun r34 σ33 => wpX6_orders ((-1 : Int32)) σ30 (fun r36 σ35 => (((¬ (lg_cmp r34 r36) = 0) → ∃ nf, BL_areAlike_55 post nf ((0 : Int32)) ((0 : Int32)) (σ33, σ35)) ∧ (((lg_cmp r34 r36) = 0) → ∃ nf, BL_areAlike_55 post nf ((1 : Int32)) ((0 : Int32)) (σ33, σ35)))))))))))))))))
set_option maxHeartbeats 4000000 in
set_option maxRecDepth 100000 in
theorem TL_areAlike_104 (C : s_C G p s args m c RL cL_areAlike) (hml : c.maxLocals = 5) (hcs : cells ≤ (rm_L_areAlike).cells ∧ slots ≤ (rm_L_areAlike).slots)  {K92 : Int32 → Int32 → Sg2 → Prop} {post : Int32 → Sg2 → Prop} (hR : ∀ (r : Int32) (σ1 : Sg2) (H : Heap) (locs : List Loc) (pc : Nat) (ls : Array Slot), decode cL_areAlike pc = .ok (.ireturn, 1) → narrow .boolean (.int r) = .int r → post r σ1 → t_St G σ1 H0 H locs → W p l e rm_L_areAlike s m args below meth c H locs cells slots Q (F0 m pc ls [.int r])) (hK92 : ∀ (x2 : Int32) (x3 : Int32), ∀ (σ : Sg2) (H : Heap) (locs : List Loc) (ls : Array Slot), t_St G σ H0 H locs → lv_has ls 5 [(0, .ref (G.2.2 + 0)), (1, .ref (G.2.2 + 117 + 0)), (2, .int x2), (3, .int x3)] → K92 x2 x3 σ → W p l e rm_L_areAlike s m args below meth c H locs cells slots Q (F0 m 92 ls [])) : ∀ (n : Nat) (x2 : Int32) (x3 : Int32) (x4 : Int32), ∀ {σ : Sg2} {H : Heap} {locs : List Loc} {ls : Array Slot}, t_St G σ H0 H locs → lv_has ls 5 [(0, .ref (G.2.2 + 0)), (1, .ref (G.2.2 + 117 + 0)), (2, .int x2), (3, .int x3), (4, .int x4)] → BL_areAlike_104 K92 post n x2 x3 x4 σ → W p l e rm_L_areAlike s m args below meth c H locs cells slots Q (F0 m 104 ls []) := by
  intro n
  induction n with
  | zero =>
    intro x2 x3 x4  σ H locs ls S hl h
    exact absurd h (fun h => h)
  | succ n ih0 =>
    have ih : ∀ (x2 : Int32) (x3 : Int32) (x4 : Int32), ∀ (σ : Sg2) (H : Heap) (locs : List Loc) (ls : Array Slot), t_St G σ H0 H locs → lv_has ls 5 [(0, .ref (G.2.2 + 0)), (1, .ref (G.2.2 + 117 + 0)), (2, .int x2), (3, .int x3), (4, .int x4)] → BL_areAlike_104 K92 post n x2 x3 x4 σ → W p l e rm_L_areAlike s m args below meth c H locs cells slots Q (F0 m 104 ls []) := fun x2 x3 x4  _ _ _ _ => ih0 x2 x3 x4 
    intro x2 x3 x4  σ H locs ls S hl h
    refine lv_iload C.1 C.2.1 dL_areAlike_104 (lv_at hl 4 rfl) ?_
    refine lv_bipush (v := (10 : Int32)) C.1 C.2.1 dL_areAlike_106 (by decide) ?_
    refine lv_icmp_ge (tgt := 144) C.1 C.2.1 dL_areAlike_108 (by decide) (fun c1 => ?_) (fun c1 => ?_)
    · replace h := h.1 c1
      refine lv_iinc (v := (x3 + 1)) (lv' := [(3, .int (x3 + 1)), (0, .ref (G.2.2 + 0)), (1, .ref (G.2.2 + 117 + 0)), (2, .int x2), (4, .int x4)]) C.1 C.2.1 dL_areAlike_144 hl (k := 3) rfl rfl (by decide) rfl (fun ls hl => ?_)
      refine lv_goto (tgt := 92) C.1 C.2.1 dL_areAlike_147 (by decide) ?_
      exact hK92 x2 ((x3 + 1)) _ _ _ _ S (lv_sub hl [1, 2, 3, 0] rfl) h
    · replace h := h.2 c1
      refine lv_iload_n C.1 C.2.1 dL_areAlike_111 rfl (lv_at hl 2 rfl) ?_
      refine lv_if_eq (tgt := 136) C.1 C.2.1 dL_areAlike_112 (by decide) (fun c2 => ?_) (fun c2 => ?_)
      · replace h := h.1 c2
        refine lv_iconst (v := (0 : Int32)) C.1 C.2.1 dL_areAlike_136 (by decide) ?_
        refine lv_istore_n (lv' := [(2, .int (0 : Int32)), (0, .ref (G.2.2 + 0)), (1, .ref (G.2.2 + 117 + 0)), (3, .int x3), (4, .int x4)]) C.1 C.2.1 dL_areAlike_137 rfl hl (by decide) rfl (fun ls hl => ?_)
        refine lv_iinc (v := (x4 + 1)) (lv' := [(4, .int (x4 + 1)), (2, .int (0 : Int32)), (0, .ref (G.2.2 + 0)), (1, .ref (G.2.2 + 117 + 0)), (3, .int x3)]) C.1 C.2.1 dL_areAlike_138 hl (k := 4) rfl rfl (by decide) rfl (fun ls hl => ?_)
        refine lv_goto (tgt := 104) C.1 C.2.1 dL_areAlike_141 (by decide) ?_
        exact ih ((0 : Int32)) x3 ((x4 + 1)) _ _ _ _ S (lv_sub hl [2, 3, 1, 4, 0] rfl) h
      · replace h := h.2 c2
        refine lv_aload_n C.1 C.2.1 dL_areAlike_115 rfl (lv_at hl 0 rfl) ?_
        refine lv_iload_n C.1 C.2.1 dL_areAlike_116 rfl (lv_at hl 3 rfl) ?_
        refine lv_iload C.1 C.2.1 dL_areAlike_117 (lv_at hl 4 rfl) ?_
        refine t_i1 (r_V (G := G) (As := [.int x3, .int x4]) (rest := []) C hml (c_X6_member l G x3 x4 σ.1 _ h) kM_X6_member im_X6_member se_X6_member ml_L_60 ⟨rfl, rfl⟩ ⟨Nat.le_of_ble_eq_true rfl, Nat.le_of_ble_eq_true rfl⟩ hcs S.1 kd_0 (by decide) (T := TX6) (N := 8) rfl rfl hl.1 rfl (Nat.le_of_ble_eq_true rfl) dL_areAlike_119) S (fun r4 σ3 H locs h S => ?_)
        refine lv_aload_n C.1 C.2.1 dL_areAlike_122 rfl (lv_at hl 1 rfl) ?_
        refine lv_iload_n C.1 C.2.1 dL_areAlike_123 rfl (lv_at hl 3 rfl) ?_
        refine lv_iload C.1 C.2.1 dL_areAlike_124 (lv_at hl 4 rfl) ?_
        refine t_i2 (r_V (G := gq G) (As := [.int x3, .int x4]) (rest := [.int r4]) C.q hml (c_X6_member l (gq G) x3 x4 σ.2 _ h) kM_X6_member im_X6_member se_X6_member ml_L_60 ⟨rfl, rfl⟩ ⟨Nat.le_of_ble_eq_true rfl, Nat.le_of_ble_eq_true rfl⟩ hcs S.2.1 kd_0 (by decide) (T := TX6) (N := 8) rfl rfl hl.1 rfl (Nat.le_of_ble_eq_true rfl) dL_areAlike_126) S (fun r6 σ5 H locs h S => ?_)
        refine lv_icmp_ne (tgt := 136) C.1 C.2.1 dL_areAlike_129 (by decide) (fun c7 => ?_) (fun c7 => ?_)
        · replace h := h.1 c7
          refine lv_iconst (v := (0 : Int32)) C.1 C.2.1 dL_areAlike_136 (by decide) ?_
          refine lv_istore_n (lv' := [(2, .int (0 : Int32)), (0, .ref (G.2.2 + 0)), (1, .ref (G.2.2 + 117 + 0)), (3, .int x3), (4, .int x4)]) C.1 C.2.1 dL_areAlike_137 rfl hl (by decide) rfl (fun ls hl => ?_)
          refine lv_iinc (v := (x4 + 1)) (lv' := [(4, .int (x4 + 1)), (2, .int (0 : Int32)), (0, .ref (G.2.2 + 0)), (1, .ref (G.2.2 + 117 + 0)), (3, .int x3)]) C.1 C.2.1 dL_areAlike_138 hl (k := 4) rfl rfl (by decide) rfl (fun ls hl => ?_)
          refine lv_goto (tgt := 104) C.1 C.2.1 dL_areAlike_141 (by decide) ?_
          exact ih ((0 : Int32)) x3 ((x4 + 1)) _ _ _ _ S (lv_sub hl [2, 3, 1, 4, 0] rfl) h
        · replace h := h.2 c7
          refine lv_iconst (v := (1 : Int32)) C.1 C.2.1 dL_areAlike_132 (by decide) ?_
          refine lv_goto (tgt := 137) C.1 C.2.1 dL_areAlike_133 (by decide) ?_
          refine lv_istore_n (lv' := [(2, .int (1 : Int32)), (0, .ref (G.2.2 + 0)), (1, .ref (G.2.2 + 117 + 0)), (3, .int x3), (4, .int x4)]) C.1 C.2.1 dL_areAlike_137 rfl hl (by decide) rfl (fun ls hl => ?_)
          refine lv_iinc (v := (x4 + 1)) (lv' := [(4, .int (x4 + 1)), (2, .int (1 : Int32)), (0, .ref (G.2.2 + 0)), (1, .ref (G.2.2 + 117 + 0)), (3, .int x3)]) C.1 C.2.1 dL_areAlike_138 hl (k := 4) rfl rfl (by decide) rfl (fun ls hl => ?_)
          refine lv_goto (tgt := 104) C.1 C.2.1 dL_areAlike_141 (by decide) ?_
          exact ih ((1 : Int32)) x3 ((x4 + 1)) _ _ _ _ S (lv_sub hl [2, 3, 1, 4, 0] rfl) h
set_option maxHeartbeats 4000000 in
set_option maxRecDepth 100000 in
theorem TL_areAlike_92 (C : s_C G p s args m c RL cL_areAlike) (hml : c.maxLocals = 5) (hcs : cells ≤ (rm_L_areAlike).cells ∧ slots ≤ (rm_L_areAlike).slots)  {post : Int32 → Sg2 → Prop} (hR : ∀ (r : Int32) (σ1 : Sg2) (H : Heap) (locs : List Loc) (pc : Nat) (ls : Array Slot), decode cL_areAlike pc = .ok (.ireturn, 1) → narrow .boolean (.int r) = .int r → post r σ1 → t_St G σ1 H0 H locs → W p l e rm_L_areAlike s m args below meth c H locs cells slots Q (F0 m pc ls [.int r])) : ∀ (n : Nat) (x2 : Int32) (x3 : Int32), ∀ {σ : Sg2} {H : Heap} {locs : List Loc} {ls : Array Slot}, t_St G σ H0 H locs → lv_has ls 5 [(0, .ref (G.2.2 + 0)), (1, .ref (G.2.2 + 117 + 0)), (2, .int x2), (3, .int x3)] → BL_areAlike_92 post n x2 x3 σ → W p l e rm_L_areAlike s m args below meth c H locs cells slots Q (F0 m 92 ls []) := by
  intro n
  induction n with
  | zero =>
    intro x2 x3  σ H locs ls S hl h
    exact absurd h (fun h => h)
  | succ n ih0 =>
    have ih : ∀ (x2 : Int32) (x3 : Int32), ∀ (σ : Sg2) (H : Heap) (locs : List Loc) (ls : Array Slot), t_St G σ H0 H locs → lv_has ls 5 [(0, .ref (G.2.2 + 0)), (1, .ref (G.2.2 + 117 + 0)), (2, .int x2), (3, .int x3)] → BL_areAlike_92 post n x2 x3 σ → W p l e rm_L_areAlike s m args below meth c H locs cells slots Q (F0 m 92 ls []) := fun x2 x3  _ _ _ _ => ih0 x2 x3 
    intro x2 x3  σ H locs ls S hl h
    refine lv_iload_n C.1 C.2.1 dL_areAlike_92 rfl (lv_at hl 3 rfl) ?_
    refine lv_aload_n C.1 C.2.1 dL_areAlike_93 rfl (lv_at hl 0 rfl) ?_
    refine lv_iconst (v := (0 : Int32)) C.1 C.2.1 dL_areAlike_94 (by decide) ?_
    refine t_i1 (r_V (G := G) (As := [.int (0 : Int32)]) (rest := [.int x3]) C hml (c_X6_told l G ((0 : Int32)) σ.1 _ h) kM_X6_told im_X6_told se_X6_told ml_L_57 ⟨rfl, rfl⟩ ⟨Nat.le_of_ble_eq_true rfl, Nat.le_of_ble_eq_true rfl⟩ hcs S.1 kd_0 (by decide) (T := TX6) (N := 8) rfl rfl hl.1 rfl (Nat.le_of_ble_eq_true rfl) dL_areAlike_95) S (fun r9 σ8 H locs h S => ?_)
    refine lv_icmp_ge (tgt := 150) C.1 C.2.1 dL_areAlike_98 (by decide) (fun c10 => ?_) (fun c10 => ?_)
    · replace h := h.1 c10
      refine lv_iload_n C.1 C.2.1 dL_areAlike_150 rfl (lv_at hl 2 rfl) ?_
      exact hR _ _ _ _ _ _ dL_areAlike_151 h.1 h.2 S
    · replace h := h.2 c10
      refine lv_iconst (v := (0 : Int32)) C.1 C.2.1 dL_areAlike_101 (by decide) ?_
      refine lv_istore (lv' := [(4, .int (0 : Int32)), (0, .ref (G.2.2 + 0)), (1, .ref (G.2.2 + 117 + 0)), (2, .int x2), (3, .int x3)]) C.1 C.2.1 dL_areAlike_102 hl (by decide) rfl (fun ls hl => ?_)
      obtain ⟨nf, h⟩ := h
      exact TL_areAlike_104 C hml hcs hR ih nf x2 x3 ((0 : Int32)) S (lv_sub hl [1, 2, 3, 4, 0] rfl) h
set_option maxHeartbeats 4000000 in
set_option maxRecDepth 100000 in
theorem TL_areAlike_55 (C : s_C G p s args m c RL cL_areAlike) (hml : c.maxLocals = 5) (hcs : cells ≤ (rm_L_areAlike).cells ∧ slots ≤ (rm_L_areAlike).slots)  {post : Int32 → Sg2 → Prop} (hR : ∀ (r : Int32) (σ1 : Sg2) (H : Heap) (locs : List Loc) (pc : Nat) (ls : Array Slot), decode cL_areAlike pc = .ok (.ireturn, 1) → narrow .boolean (.int r) = .int r → post r σ1 → t_St G σ1 H0 H locs → W p l e rm_L_areAlike s m args below meth c H locs cells slots Q (F0 m pc ls [.int r])) : ∀ (n : Nat) (x2 : Int32) (x3 : Int32), ∀ {σ : Sg2} {H : Heap} {locs : List Loc} {ls : Array Slot}, t_St G σ H0 H locs → lv_has ls 5 [(0, .ref (G.2.2 + 0)), (1, .ref (G.2.2 + 117 + 0)), (2, .int x2), (3, .int x3)] → BL_areAlike_55 post n x2 x3 σ → W p l e rm_L_areAlike s m args below meth c H locs cells slots Q (F0 m 55 ls []) := by
  intro n
  induction n with
  | zero =>
    intro x2 x3  σ H locs ls S hl h
    exact absurd h (fun h => h)
  | succ n ih0 =>
    have ih : ∀ (x2 : Int32) (x3 : Int32), ∀ (σ : Sg2) (H : Heap) (locs : List Loc) (ls : Array Slot), t_St G σ H0 H locs → lv_has ls 5 [(0, .ref (G.2.2 + 0)), (1, .ref (G.2.2 + 117 + 0)), (2, .int x2), (3, .int x3)] → BL_areAlike_55 post n x2 x3 σ → W p l e rm_L_areAlike s m args below meth c H locs cells slots Q (F0 m 55 ls []) := fun x2 x3  _ _ _ _ => ih0 x2 x3 
    intro x2 x3  σ H locs ls S hl h
    refine lv_iload_n C.1 C.2.1 dL_areAlike_55 rfl (lv_at hl 3 rfl) ?_
    refine lv_bipush (v := (8 : Int32)) C.1 C.2.1 dL_areAlike_56 (by decide) ?_
    refine lv_icmp_ge (tgt := 90) C.1 C.2.1 dL_areAlike_58 (by decide) (fun c11 => ?_) (fun c11 => ?_)
    · replace h := h.1 c11
      refine lv_iconst (v := (0 : Int32)) C.1 C.2.1 dL_areAlike_90 (by decide) ?_
      refine lv_istore_n (lv' := [(3, .int (0 : Int32)), (0, .ref (G.2.2 + 0)), (1, .ref (G.2.2 + 117 + 0)), (2, .int x2)]) C.1 C.2.1 dL_areAlike_91 rfl hl (by decide) rfl (fun ls hl => ?_)
      obtain ⟨nf, h⟩ := h
      exact TL_areAlike_92 C hml hcs hR nf x2 ((0 : Int32)) S (lv_sub hl [1, 2, 3, 0] rfl) h
    · replace h := h.2 c11
      refine lv_iload_n C.1 C.2.1 dL_areAlike_61 rfl (lv_at hl 2 rfl) ?_
      refine lv_if_eq (tgt := 82) C.1 C.2.1 dL_areAlike_62 (by decide) (fun c12 => ?_) (fun c12 => ?_)
      · replace h := h.1 c12
        refine lv_iconst (v := (0 : Int32)) C.1 C.2.1 dL_areAlike_82 (by decide) ?_
        refine lv_istore_n (lv' := [(2, .int (0 : Int32)), (0, .ref (G.2.2 + 0)), (1, .ref (G.2.2 + 117 + 0)), (3, .int x3)]) C.1 C.2.1 dL_areAlike_83 rfl hl (by decide) rfl (fun ls hl => ?_)
        refine lv_iinc (v := (x3 + 1)) (lv' := [(3, .int (x3 + 1)), (2, .int (0 : Int32)), (0, .ref (G.2.2 + 0)), (1, .ref (G.2.2 + 117 + 0))]) C.1 C.2.1 dL_areAlike_84 hl (k := 3) rfl rfl (by decide) rfl (fun ls hl => ?_)
        refine lv_goto (tgt := 55) C.1 C.2.1 dL_areAlike_87 (by decide) ?_
        exact ih ((0 : Int32)) ((x3 + 1)) _ _ _ _ S (lv_sub hl [2, 3, 1, 0] rfl) h
      · replace h := h.2 c12
        refine lv_aload_n C.1 C.2.1 dL_areAlike_65 rfl (lv_at hl 0 rfl) ?_
        refine lv_iload_n C.1 C.2.1 dL_areAlike_66 rfl (lv_at hl 3 rfl) ?_
        refine t_i1 (r_V (G := G) (As := [.int x3]) (rest := []) C hml (c_X6_told l G x3 σ.1 _ h) kM_X6_told im_X6_told se_X6_told ml_L_57 ⟨rfl, rfl⟩ ⟨Nat.le_of_ble_eq_true rfl, Nat.le_of_ble_eq_true rfl⟩ hcs S.1 kd_0 (by decide) (T := TX6) (N := 8) rfl rfl hl.1 rfl (Nat.le_of_ble_eq_true rfl) dL_areAlike_67) S (fun r14 σ13 H locs h S => ?_)
        refine lv_aload_n C.1 C.2.1 dL_areAlike_70 rfl (lv_at hl 1 rfl) ?_
        refine lv_iload_n C.1 C.2.1 dL_areAlike_71 rfl (lv_at hl 3 rfl) ?_
        refine t_i2 (r_V (G := gq G) (As := [.int x3]) (rest := [.int r14]) C.q hml (c_X6_told l (gq G) x3 σ.2 _ h) kM_X6_told im_X6_told se_X6_told ml_L_57 ⟨rfl, rfl⟩ ⟨Nat.le_of_ble_eq_true rfl, Nat.le_of_ble_eq_true rfl⟩ hcs S.2.1 kd_0 (by decide) (T := TX6) (N := 8) rfl rfl hl.1 rfl (Nat.le_of_ble_eq_true rfl) dL_areAlike_72) S (fun r16 σ15 H locs h S => ?_)
        refine lv_icmp_ne (tgt := 82) C.1 C.2.1 dL_areAlike_75 (by decide) (fun c17 => ?_) (fun c17 => ?_)
        · replace h := h.1 c17
          refine lv_iconst (v := (0 : Int32)) C.1 C.2.1 dL_areAlike_82 (by decide) ?_
          refine lv_istore_n (lv' := [(2, .int (0 : Int32)), (0, .ref (G.2.2 + 0)), (1, .ref (G.2.2 + 117 + 0)), (3, .int x3)]) C.1 C.2.1 dL_areAlike_83 rfl hl (by decide) rfl (fun ls hl => ?_)
          refine lv_iinc (v := (x3 + 1)) (lv' := [(3, .int (x3 + 1)), (2, .int (0 : Int32)), (0, .ref (G.2.2 + 0)), (1, .ref (G.2.2 + 117 + 0))]) C.1 C.2.1 dL_areAlike_84 hl (k := 3) rfl rfl (by decide) rfl (fun ls hl => ?_)
          refine lv_goto (tgt := 55) C.1 C.2.1 dL_areAlike_87 (by decide) ?_
          exact ih ((0 : Int32)) ((x3 + 1)) _ _ _ _ S (lv_sub hl [2, 3, 1, 0] rfl) h
        · replace h := h.2 c17
          refine lv_iconst (v := (1 : Int32)) C.1 C.2.1 dL_areAlike_78 (by decide) ?_
          refine lv_goto (tgt := 83) C.1 C.2.1 dL_areAlike_79 (by decide) ?_
          refine lv_istore_n (lv' := [(2, .int (1 : Int32)), (0, .ref (G.2.2 + 0)), (1, .ref (G.2.2 + 117 + 0)), (3, .int x3)]) C.1 C.2.1 dL_areAlike_83 rfl hl (by decide) rfl (fun ls hl => ?_)
          refine lv_iinc (v := (x3 + 1)) (lv' := [(3, .int (x3 + 1)), (2, .int (1 : Int32)), (0, .ref (G.2.2 + 0)), (1, .ref (G.2.2 + 117 + 0))]) C.1 C.2.1 dL_areAlike_84 hl (k := 3) rfl rfl (by decide) rfl (fun ls hl => ?_)
          refine lv_goto (tgt := 55) C.1 C.2.1 dL_areAlike_87 (by decide) ?_
          exact ih ((1 : Int32)) ((x3 + 1)) _ _ _ _ S (lv_sub hl [2, 3, 1, 0] rfl) h
theorem kM_L_areAlike : s_M yL_areAlike cL_areAlike 5 (some .boolean) 2 := ⟨co_L_areAlike, in_L, by decide, by decide, by decide +kernel⟩
set_option maxHeartbeats 4000000 in
set_option maxRecDepth 100000 in
theorem c_L_areAlike (l : Launch) (G : s_G)  (σ : Sg2) (post : Int32 → Sg2 → Prop) (h : wpL_areAlike σ post) : Met l yL_areAlike (wsU yL_areAlike cL_areAlike 5 (some .boolean)) rm_L_areAlike (va_Pc [.ref (G.2.2 + 0), .ref (G.2.2 + 117 + 0)] (t_Pre G σ)) (va_Qi post (t_B G) (c_A G.2.2)) 0 0 (c_A G.2.2) := by
  refine Met.ofW (cc := cL_areAlike) (maxL := 5) (ret := (some .boolean)) (by decide) rfl ?_
  intro p e s m args below meth c s₁ B hml hv
  obtain ⟨rfl, hV1, hV2, hK, hN⟩ := hv
  have C : s_C G p s (([.ref (G.2.2 + 0), .ref (G.2.2 + 117 + 0)] : List Value).toArray) m c RL cL_areAlike := ⟨B.exec, B.bytes, findClass_of_methodNamed B.named, fun w hw => atoms_spec (ws := wsU yL_areAlike cL_areAlike 5 (some .boolean)) B.pre w (List.mem_cons_of_mem _ hw), hK, hN⟩
  have hr := B.returns
  have hlocks := B.notSynchronized
  have S : t_St G σ s.heap s.heap [] := ⟨hV1, hV2, va_S.rf⟩
  have hcs : 0 ≤ (rm_L_areAlike).cells ∧ 0 ≤ (rm_L_areAlike).slots := ⟨Nat.le_refl 0, Nat.le_refl 0⟩
  have hR : ∀ (r : Int32) (σ1 : Sg2) (H : Heap) (locs : List Loc) (pc : Nat) (ls : Array Slot), decode cL_areAlike pc = .ok (.ireturn, 1) → narrow .boolean (.int r) = .int r → post r σ1 → t_St G σ1 s.heap H locs → W p l e rm_L_areAlike s m ([.ref (G.2.2 + 0), .ref (G.2.2 + 117 + 0)] : List Value).toArray below meth c H locs 0 0 (MQ below (va_Qi post (t_B G) (c_A G.2.2)) ([.ref (G.2.2 + 0), .ref (G.2.2 + 117 + 0)] : List Value).toArray s 0 0 (c_A G.2.2)) (F0 m pc ls [.int r]) := fun _ _ _ _ _ _ hd hn hp S => ret2_z C hr hlocks hd hn hp S
  have hl := lv_entry ([.ref (G.2.2 + 0), .ref (G.2.2 + 117 + 0)]) (n := 5) (Nat.le_of_ble_eq_true rfl)
  rw [lg_entry_eq]
  generalize (lg_sl ([.ref (G.2.2 + 0), .ref (G.2.2 + 117 + 0)]) ++ List.replicate (5 - (lg_sl ([.ref (G.2.2 + 0), .ref (G.2.2 + 117 + 0)])).length) Slot.unset).toArray = ls at hl ⊢
  have hl : lv_has ls 5 [(0, .ref (G.2.2 + 0)), (1, .ref (G.2.2 + 117 + 0))] := hl
  unfold wpL_areAlike at h
  refine lv_aload_n C.1 C.2.1 dL_areAlike_0 rfl (lv_at hl 0 rfl) ?_
  refine t_i1 (r_V (G := G) (As := []) (rest := []) C hml (c_X6_readings l G σ.1 _ h) kM_X6_readings im_X6_readings se_X6_readings ml_L_63 ⟨rfl, rfl⟩ ⟨Nat.le_of_ble_eq_true rfl, Nat.le_of_ble_eq_true rfl⟩ hcs S.1 kd_0 (by decide) (T := TX6) (N := 8) rfl rfl hl.1 rfl (Nat.le_of_ble_eq_true rfl) dL_areAlike_1) S (fun r19 σ18 H locs h S => ?_)
  refine lv_aload_n C.1 C.2.1 dL_areAlike_4 rfl (lv_at hl 1 rfl) ?_
  refine t_i2 (r_V (G := gq G) (As := []) (rest := [.int r19]) C.q hml (c_X6_readings l (gq G) σ.2 _ h) kM_X6_readings im_X6_readings se_X6_readings ml_L_63 ⟨rfl, rfl⟩ ⟨Nat.le_of_ble_eq_true rfl, Nat.le_of_ble_eq_true rfl⟩ hcs S.2.1 kd_0 (by decide) (T := TX6) (N := 8) rfl rfl hl.1 rfl (Nat.le_of_ble_eq_true rfl) dL_areAlike_5) S (fun r21 σ20 H locs h S => ?_)
  refine lv_icmp_ne (tgt := 51) C.1 C.2.1 dL_areAlike_8 (by decide) (fun c22 => ?_) (fun c22 => ?_)
  · replace h := h.1 c22
    refine lv_iconst (v := (0 : Int32)) C.1 C.2.1 dL_areAlike_51 (by decide) ?_
    refine lv_istore_n (lv' := [(2, .int (0 : Int32)), (0, .ref (G.2.2 + 0)), (1, .ref (G.2.2 + 117 + 0))]) C.1 C.2.1 dL_areAlike_52 rfl hl (by decide) rfl (fun ls hl => ?_)
    refine lv_iconst (v := (0 : Int32)) C.1 C.2.1 dL_areAlike_53 (by decide) ?_
    refine lv_istore_n (lv' := [(3, .int (0 : Int32)), (2, .int (0 : Int32)), (0, .ref (G.2.2 + 0)), (1, .ref (G.2.2 + 117 + 0))]) C.1 C.2.1 dL_areAlike_54 rfl hl (by decide) rfl (fun ls hl => ?_)
    obtain ⟨nf, h⟩ := h
    exact TL_areAlike_55 C hml hcs hR nf ((0 : Int32)) ((0 : Int32)) S (lv_sub hl [2, 3, 1, 0] rfl) h
  · replace h := h.2 c22
    refine lv_aload_n C.1 C.2.1 dL_areAlike_11 rfl (lv_at hl 0 rfl) ?_
    refine t_i1 (r_V (G := G) (As := []) (rest := []) C hml (c_X6_fault l G σ18 _ h) kM_X6_fault im_X6_fault se_X6_fault ml_L_66 ⟨rfl, rfl⟩ ⟨Nat.le_of_ble_eq_true rfl, Nat.le_of_ble_eq_true rfl⟩ hcs S.1 kd_0 (by decide) (T := TX6) (N := 8) rfl rfl hl.1 rfl (Nat.le_of_ble_eq_true rfl) dL_areAlike_12) S (fun r24 σ23 H locs h S => ?_)
    refine lv_aload_n C.1 C.2.1 dL_areAlike_15 rfl (lv_at hl 1 rfl) ?_
    refine t_i2 (r_V (G := gq G) (As := []) (rest := [.int r24]) C.q hml (c_X6_fault l (gq G) σ20 _ h) kM_X6_fault im_X6_fault se_X6_fault ml_L_66 ⟨rfl, rfl⟩ ⟨Nat.le_of_ble_eq_true rfl, Nat.le_of_ble_eq_true rfl⟩ hcs S.2.1 kd_0 (by decide) (T := TX6) (N := 8) rfl rfl hl.1 rfl (Nat.le_of_ble_eq_true rfl) dL_areAlike_16) S (fun r26 σ25 H locs h S => ?_)
    refine lv_icmp_ne (tgt := 51) C.1 C.2.1 dL_areAlike_19 (by decide) (fun c27 => ?_) (fun c27 => ?_)
    · replace h := h.1 c27
      refine lv_iconst (v := (0 : Int32)) C.1 C.2.1 dL_areAlike_51 (by decide) ?_
      refine lv_istore_n (lv' := [(2, .int (0 : Int32)), (0, .ref (G.2.2 + 0)), (1, .ref (G.2.2 + 117 + 0))]) C.1 C.2.1 dL_areAlike_52 rfl hl (by decide) rfl (fun ls hl => ?_)
      refine lv_iconst (v := (0 : Int32)) C.1 C.2.1 dL_areAlike_53 (by decide) ?_
      refine lv_istore_n (lv' := [(3, .int (0 : Int32)), (2, .int (0 : Int32)), (0, .ref (G.2.2 + 0)), (1, .ref (G.2.2 + 117 + 0))]) C.1 C.2.1 dL_areAlike_54 rfl hl (by decide) rfl (fun ls hl => ?_)
      obtain ⟨nf, h⟩ := h
      exact TL_areAlike_55 C hml hcs hR nf ((0 : Int32)) ((0 : Int32)) S (lv_sub hl [2, 3, 1, 0] rfl) h
    · replace h := h.2 c27
      refine lv_aload_n C.1 C.2.1 dL_areAlike_22 rfl (lv_at hl 0 rfl) ?_
      refine t_i1 (r_V (G := G) (As := []) (rest := []) C hml (c_X6_next l G σ23 _ h) kM_X6_next im_X6_next se_X6_next ml_L_92 ⟨rfl, rfl⟩ ⟨Nat.le_of_ble_eq_true rfl, Nat.le_of_ble_eq_true rfl⟩ hcs S.1 kd_0 (by decide) (T := TX6) (N := 8) rfl rfl hl.1 rfl (Nat.le_of_ble_eq_true rfl) dL_areAlike_23) S (fun r29 σ28 H locs h S => ?_)
      refine lv_aload_n C.1 C.2.1 dL_areAlike_26 rfl (lv_at hl 1 rfl) ?_
      refine t_i2 (r_V (G := gq G) (As := []) (rest := [.int r29]) C.q hml (c_X6_next l (gq G) σ25 _ h) kM_X6_next im_X6_next se_X6_next ml_L_92 ⟨rfl, rfl⟩ ⟨Nat.le_of_ble_eq_true rfl, Nat.le_of_ble_eq_true rfl⟩ hcs S.2.1 kd_0 (by decide) (T := TX6) (N := 8) rfl rfl hl.1 rfl (Nat.le_of_ble_eq_true rfl) dL_areAlike_27) S (fun r31 σ30 H locs h S => ?_)
      refine lv_icmp_ne (tgt := 51) C.1 C.2.1 dL_areAlike_30 (by decide) (fun c32 => ?_) (fun c32 => ?_)
      · replace h := h.1 c32
        refine lv_iconst (v := (0 : Int32)) C.1 C.2.1 dL_areAlike_51 (by decide) ?_
        refine lv_istore_n (lv' := [(2, .int (0 : Int32)), (0, .ref (G.2.2 + 0)), (1, .ref (G.2.2 + 117 + 0))]) C.1 C.2.1 dL_areAlike_52 rfl hl (by decide) rfl (fun ls hl => ?_)
        refine lv_iconst (v := (0 : Int32)) C.1 C.2.1 dL_areAlike_53 (by decide) ?_
        refine lv_istore_n (lv' := [(3, .int (0 : Int32)), (2, .int (0 : Int32)), (0, .ref (G.2.2 + 0)), (1, .ref (G.2.2 + 117 + 0))]) C.1 C.2.1 dL_areAlike_54 rfl hl (by decide) rfl (fun ls hl => ?_)
        obtain ⟨nf, h⟩ := h
        exact TL_areAlike_55 C hml hcs hR nf ((0 : Int32)) ((0 : Int32)) S (lv_sub hl [2, 3, 1, 0] rfl) h
      · replace h := h.2 c32
        refine lv_aload_n C.1 C.2.1 dL_areAlike_33 rfl (lv_at hl 0 rfl) ?_
        refine lv_iconst (v := (-1 : Int32)) C.1 C.2.1 dL_areAlike_34 (by decide) ?_
        refine t_l1 (r_V (G := G) (As := [.int (-1 : Int32)]) (rest := []) C hml (c_X6_orders l G ((-1 : Int32)) σ28 _ h) kM_X6_orders im_X6_orders se_X6_orders ml_L_88 ⟨rfl, rfl⟩ ⟨Nat.le_of_ble_eq_true rfl, Nat.le_of_ble_eq_true rfl⟩ hcs S.1 kd_0 (by decide) (T := TX6) (N := 8) rfl rfl hl.1 rfl (Nat.le_of_ble_eq_true rfl) dL_areAlike_35) S (fun r34 σ33 H locs h S => ?_)
        refine lv_aload_n C.1 C.2.1 dL_areAlike_38 rfl (lv_at hl 1 rfl) ?_
        refine lv_iconst (v := (-1 : Int32)) C.1 C.2.1 dL_areAlike_39 (by decide) ?_
        refine t_l2 (r_V (G := gq G) (As := [.int (-1 : Int32)]) (rest := [.long r34]) C.q hml (c_X6_orders l (gq G) ((-1 : Int32)) σ30 _ h) kM_X6_orders im_X6_orders se_X6_orders ml_L_88 ⟨rfl, rfl⟩ ⟨Nat.le_of_ble_eq_true rfl, Nat.le_of_ble_eq_true rfl⟩ hcs S.2.1 kd_0 (by decide) (T := TX6) (N := 8) rfl rfl hl.1 rfl (Nat.le_of_ble_eq_true rfl) dL_areAlike_40) S (fun r36 σ35 H locs h S => ?_)
        refine W.lcmp C.1 C.2.1 dL_areAlike_43 ?_
        refine lv_if_ne (tgt := 51) C.1 C.2.1 dL_areAlike_44 (by decide) (fun c37 => ?_) (fun c37 => ?_)
        · replace h := h.1 c37
          refine lv_iconst (v := (0 : Int32)) C.1 C.2.1 dL_areAlike_51 (by decide) ?_
          refine lv_istore_n (lv' := [(2, .int (0 : Int32)), (0, .ref (G.2.2 + 0)), (1, .ref (G.2.2 + 117 + 0))]) C.1 C.2.1 dL_areAlike_52 rfl hl (by decide) rfl (fun ls hl => ?_)
          refine lv_iconst (v := (0 : Int32)) C.1 C.2.1 dL_areAlike_53 (by decide) ?_
          refine lv_istore_n (lv' := [(3, .int (0 : Int32)), (2, .int (0 : Int32)), (0, .ref (G.2.2 + 0)), (1, .ref (G.2.2 + 117 + 0))]) C.1 C.2.1 dL_areAlike_54 rfl hl (by decide) rfl (fun ls hl => ?_)
          obtain ⟨nf, h⟩ := h
          exact TL_areAlike_55 C hml hcs hR nf ((0 : Int32)) ((0 : Int32)) S (lv_sub hl [2, 3, 1, 0] rfl) h
        · replace h := h.2 c37
          refine lv_iconst (v := (1 : Int32)) C.1 C.2.1 dL_areAlike_47 (by decide) ?_
          refine lv_goto (tgt := 52) C.1 C.2.1 dL_areAlike_48 (by decide) ?_
          refine lv_istore_n (lv' := [(2, .int (1 : Int32)), (0, .ref (G.2.2 + 0)), (1, .ref (G.2.2 + 117 + 0))]) C.1 C.2.1 dL_areAlike_52 rfl hl (by decide) rfl (fun ls hl => ?_)
          refine lv_iconst (v := (0 : Int32)) C.1 C.2.1 dL_areAlike_53 (by decide) ?_
          refine lv_istore_n (lv' := [(3, .int (0 : Int32)), (2, .int (1 : Int32)), (0, .ref (G.2.2 + 0)), (1, .ref (G.2.2 + 117 + 0))]) C.1 C.2.1 dL_areAlike_54 rfl hl (by decide) rfl (fun ls hl => ?_)
          obtain ⟨nf, h⟩ := h
          exact TL_areAlike_55 C hml hcs hR nf ((1 : Int32)) ((0 : Int32)) S (lv_sub hl [2, 3, 1, 0] rfl) h
/-! X4_memberBehind -/
abbrev rm_X4_memberBehind : Room := { frames := 4, cells := 0, slots := 0, locals := 95 }
def BX4_memberBehind_3 (x1 : Int32) (x2 : Int64) (post : Int32 → Sg → Prop) : Nat → Int32 → Sg → Prop
  | 0, _, _ => False
  | n + 1, x5, σ => ((((σ.1 5 2) ≤ x5) → post ((-9 : Int32)) σ) ∧ ((¬ (σ.1 5 2) ≤ x5) → wpX4_countBehind x1 ((x5 + (1 : Int32))) σ (fun r3 σ2 => (((0 ≤ (lg_cmp x2 r3)) → BX4_memberBehind_3 x1 x2 post n ((x5 + 1)) σ2) ∧ ((¬ 0 ≤ (lg_cmp x2 r3)) → post x5 σ2)))))
def wpX4_memberBehind (x1 : Int32) (x2 : Int64) (σ : Sg) (post : Int32 → Sg → Prop) : Prop := ∃ nf, BX4_memberBehind_3 x1 x2 post nf ((0 : Int32)) σ
set_option maxHeartbeats 4000000 in
set_option maxRecDepth 100000 in
theorem TX4_memberBehind_3 (C : s_C G p s args m c RX4 cX4_memberBehind) (hml : c.maxLocals = 6) (hcs : cells ≤ (rm_X4_memberBehind).cells ∧ slots ≤ (rm_X4_memberBehind).slots) {x1 : Int32} {x2 : Int64} {post : Int32 → Sg → Prop} (hR : ∀ (r : Int32) (σ1 : Sg) (H : Heap) (locs : List Loc) (pc : Nat) (ls : Array Slot), decode cX4_memberBehind pc = .ok (.ireturn, 1) → post r σ1 → s_St G σ1 H0 H locs → W p l e rm_X4_memberBehind s m args below meth c H locs cells slots Q (F0 m pc ls [.int r])) : ∀ (n : Nat) (x5 : Int32), ∀ {σ : Sg} {H : Heap} {locs : List Loc} {ls : Array Slot}, s_St G σ H0 H locs → lv_has ls 6 [(0, .ref (G.2.2 + 97)), (1, .int x1), (2, .long x2), (4, .ref (G.2.2 + 5)), (5, .int x5)] → BX4_memberBehind_3 x1 x2 post n x5 σ → W p l e rm_X4_memberBehind s m args below meth c H locs cells slots Q (F0 m 3 ls []) := by
  intro n
  induction n with
  | zero =>
    intro x5  σ H locs ls S hl h
    exact absurd h (fun h => h)
  | succ n ih0 =>
    have ih : ∀ (x5 : Int32), ∀ (σ : Sg) (H : Heap) (locs : List Loc) (ls : Array Slot), s_St G σ H0 H locs → lv_has ls 6 [(0, .ref (G.2.2 + 97)), (1, .int x1), (2, .long x2), (4, .ref (G.2.2 + 5)), (5, .int x5)] → BX4_memberBehind_3 x1 x2 post n x5 σ → W p l e rm_X4_memberBehind s m args below meth c H locs cells slots Q (F0 m 3 ls []) := fun x5  _ _ _ _ => ih0 x5 
    intro x5  σ H locs ls S hl h
    refine lv_iload C.1 C.2.1 dX4_memberBehind_3 (lv_at hl 4 rfl) ?_
    refine lv_aload C.1 C.2.1 dX4_memberBehind_5 (lv_at hl 3 rfl) ?_
    refine gn_X1_2 C nf_X4_39 kd_5 S dX4_memberBehind_7 ?_
    refine lv_icmp_ge (tgt := 38) C.1 C.2.1 dX4_memberBehind_10 (by decide) (fun c1 => ?_) (fun c1 => ?_)
    · replace h := h.1 c1
      refine lv_bipush (v := (-9 : Int32)) C.1 C.2.1 dX4_memberBehind_38 (by decide) ?_
      exact hR _ _ _ _ _ _ dX4_memberBehind_40 h S
    · replace h := h.2 c1
      refine lv_lload_n C.1 C.2.1 dX4_memberBehind_13 rfl (lv_at hl 2 rfl) ?_
      refine lv_aload_n C.1 C.2.1 dX4_memberBehind_14 rfl (lv_at hl 0 rfl) ?_
      refine lv_iload_n C.1 C.2.1 dX4_memberBehind_15 rfl (lv_at hl 1 rfl) ?_
      refine lv_iload C.1 C.2.1 dX4_memberBehind_16 (lv_at hl 4 rfl) ?_
      refine lv_iconst (v := (1 : Int32)) C.1 C.2.1 dX4_memberBehind_18 (by decide) ?_
      refine lv_iadd C.1 C.2.1 dX4_memberBehind_19 ?_
      refine lv_aload C.1 C.2.1 dX4_memberBehind_20 (lv_at hl 3 rfl) ?_
      refine k_l (r_V (As := [.int x1, .int (x5 + (1 : Int32)), .ref (G.2.2 + 5)]) (rest := [.long x2]) C hml (c_X4_countBehind l G x1 ((x5 + (1 : Int32))) σ _ h) kM_X4_countBehind im_X4_countBehind se_X4_countBehind ml_X4_42 ⟨rfl, rfl⟩ ⟨Nat.le_of_ble_eq_true rfl, Nat.le_of_ble_eq_true rfl⟩ hcs S.v kd_97 (by decide) (T := TX4) (N := 2) rfl rfl hl.1 rfl (Nat.le_of_ble_eq_true rfl) dX4_memberBehind_22) S (fun r3 σ2 H locs h S => ?_)
      refine W.lcmp C.1 C.2.1 dX4_memberBehind_25 ?_
      refine lv_if_ge (tgt := 32) C.1 C.2.1 dX4_memberBehind_26 (by decide) (fun c4 => ?_) (fun c4 => ?_)
      · replace h := h.1 c4
        refine lv_iinc (v := (x5 + 1)) (lv' := [(5, .int (x5 + 1)), (0, .ref (G.2.2 + 97)), (1, .int x1), (2, .long x2), (4, .ref (G.2.2 + 5))]) C.1 C.2.1 dX4_memberBehind_32 hl (k := 4) rfl rfl (by decide) rfl (fun ls hl => ?_)
        refine lv_goto (tgt := 3) C.1 C.2.1 dX4_memberBehind_35 (by decide) ?_
        exact ih ((x5 + 1)) _ _ _ _ S (lv_sub hl [1, 2, 3, 4, 0] rfl) h
      · replace h := h.2 c4
        refine lv_iload C.1 C.2.1 dX4_memberBehind_29 (lv_at hl 4 rfl) ?_
        exact hR _ _ _ _ _ _ dX4_memberBehind_31 h S
theorem kM_X4_memberBehind : s_M yX4_memberBehind cX4_memberBehind 6 (some .int) 3 := ⟨co_X4_memberBehind, in_X4, by decide, by decide, by decide +kernel⟩
set_option maxHeartbeats 4000000 in
set_option maxRecDepth 100000 in
theorem c_X4_memberBehind (l : Launch) (G : s_G) (x1 : Int32) (x2 : Int64) (σ : Sg) (post : Int32 → Sg → Prop) (h : wpX4_memberBehind x1 x2 σ post) : Met l yX4_memberBehind (wsU yX4_memberBehind cX4_memberBehind 6 (some .int)) rm_X4_memberBehind (va_Pc [.ref (G.2.2 + 97), .int x1, .long x2, .ref (G.2.2 + 5)] (s_Pre G σ)) (va_Qi post (s_B G) (s_A G.2.2)) 0 0 (s_A G.2.2) := by
  refine Met.ofW (cc := cX4_memberBehind) (maxL := 6) (ret := (some .int)) (by decide) rfl ?_
  intro p e s m args below meth c s₁ B hml hv
  obtain ⟨rfl, hP, hrok, hK, hN⟩ := hv
  have C : s_C G p s (([.ref (G.2.2 + 97), .int x1, .long x2, .ref (G.2.2 + 5)] : List Value).toArray) m c RX4 cX4_memberBehind := ⟨B.exec, B.bytes, findClass_of_methodNamed B.named, fun w hw => atoms_spec (ws := wsU yX4_memberBehind cX4_memberBehind 6 (some .int)) B.pre w (List.mem_cons_of_mem _ hw), hK, hN⟩
  have hr := B.returns
  have hlocks := B.notSynchronized
  have S : s_St G σ s.heap s.heap [] := ⟨hP, va_S.rf, hrok⟩
  have hcs : 0 ≤ (rm_X4_memberBehind).cells ∧ 0 ≤ (rm_X4_memberBehind).slots := ⟨Nat.le_refl 0, Nat.le_refl 0⟩
  have hR : ∀ (r : Int32) (σ1 : Sg) (H : Heap) (locs : List Loc) (pc : Nat) (ls : Array Slot), decode cX4_memberBehind pc = .ok (.ireturn, 1) → post r σ1 → s_St G σ1 s.heap H locs → W p l e rm_X4_memberBehind s m ([.ref (G.2.2 + 97), .int x1, .long x2, .ref (G.2.2 + 5)] : List Value).toArray below meth c H locs 0 0 (MQ below (va_Qi post (s_B G) (s_A G.2.2)) ([.ref (G.2.2 + 97), .int x1, .long x2, .ref (G.2.2 + 5)] : List Value).toArray s 0 0 (s_A G.2.2)) (F0 m pc ls [.int r]) := fun _ _ _ _ _ _ hd hp S => ret_i C hr hlocks hd hp S
  have hl := lv_entry ([.ref (G.2.2 + 97), .int x1, .long x2, .ref (G.2.2 + 5)]) (n := 6) (Nat.le_of_ble_eq_true rfl)
  rw [lg_entry_eq]
  generalize (lg_sl ([.ref (G.2.2 + 97), .int x1, .long x2, .ref (G.2.2 + 5)]) ++ List.replicate (6 - (lg_sl ([.ref (G.2.2 + 97), .int x1, .long x2, .ref (G.2.2 + 5)])).length) Slot.unset).toArray = ls at hl ⊢
  have hl : lv_has ls 6 [(0, .ref (G.2.2 + 97)), (1, .int x1), (2, .long x2), (4, .ref (G.2.2 + 5))] := hl
  unfold wpX4_memberBehind at h
  refine lv_iconst (v := (0 : Int32)) C.1 C.2.1 dX4_memberBehind_0 (by decide) ?_
  refine lv_istore (lv' := [(5, .int (0 : Int32)), (0, .ref (G.2.2 + 97)), (1, .int x1), (2, .long x2), (4, .ref (G.2.2 + 5))]) C.1 C.2.1 dX4_memberBehind_1 hl (by decide) rfl (fun ls hl => ?_)
  obtain ⟨nf, h⟩ := h
  exact TX4_memberBehind_3 C hml hcs hR nf ((0 : Int32)) S (lv_sub hl [1, 2, 3, 4, 0] rfl) h
/-! X4_memberOf -/
abbrev rm_X4_memberOf : Room := { frames := 5, cells := 0, slots := 0, locals := 120 }
def BX4_memberOf_72 (x2 : Int64) (x4 : Int32) (K22 : Int64 → Int32 → Int32 → Sg → Prop) (post : Int32 → Sg → Prop) (x5 : Int64) (x7 : Int32) (x8 : Int32) (y0 : Int32) (σ : Sg) : Prop := (((y0 < 0) → post y0 σ) ∧ ((¬ y0 < 0) → (((¬ x8 = x4) → wpX4_countBehind x7 y0 σ (fun r4 σ3 => wpX6_withOneMore x7 y0 σ3 (fun r6 σ5 => K22 ((x5 - r4)) r6 ((x8 + 1)) σ5))) ∧ ((x8 = x4) → post y0 σ))))
def BX4_memberOf_51 (x2 : Int64) (x4 : Int32) (K22 : Int64 → Int32 → Int32 → Sg → Prop) (post : Int32 → Sg → Prop) (x5 : Int64) (x7 : Int32) (x8 : Int32) (σ : Sg) : Prop := (((0 ≤ (lg_cmp x5 (0 : Int64))) → wpX4_memberBehind x7 x5 σ (fun r9 σ8 => BX4_memberOf_72 x2 x4 K22 post x5 x7 x8 r9 σ8)) ∧ ((¬ 0 ≤ (lg_cmp x5 (0 : Int64))) → BX4_memberOf_72 x2 x4 K22 post x5 x7 x8 ((-9 : Int32)) σ))
def BX4_memberOf_22 (x2 : Int64) (x4 : Int32) (post : Int32 → Sg → Prop) : Nat → Int64 → Int32 → Int32 → Sg → Prop
  | 0, _, _, _, _ => False
  | n + 1, x5, x7, x8, σ => (((x4 < x8) → post ((-9 : Int32)) σ) ∧ ((¬ x4 < x8) → ((((18 : Int32) ≤ x8) → post ((-9 : Int32)) σ) ∧ ((¬ (18 : Int32) ≤ x8) → wpX1_isEnough 5 x7 σ (fun r13 σ12 => (((r13 = 0) → BX4_memberOf_51 x2 x4 (BX4_memberOf_22 x2 x4 post n) post x5 x7 x8 σ12) ∧ ((¬ r13 = 0) → BX4_memberOf_51 x2 x4 (BX4_memberOf_22 x2 x4 post n) post ((x5 - (1 : Int64))) x7 x8 σ12)))))))
def wpX4_memberOf (x2 : Int64) (x4 : Int32) (σ : Sg) (post : Int32 → Sg → Prop) : Prop := wpX4_countFrom ((0 : Int32)) σ (fun r16 σ15 => ((((lg_cmp x2 r16) < 0) → ∃ nf, BX4_memberOf_22 x2 x4 post nf x2 ((0 : Int32)) ((0 : Int32)) σ15) ∧ ((¬ (lg_cmp x2 r16) < 0) → post ((-9 : Int32)) σ15)))
set_option maxHeartbeats 4000000 in
set_option maxRecDepth 100000 in
theorem TX4_memberOf_72 (C : s_C G p s args m c RX4 cX4_memberOf) (hml : c.maxLocals = 10) (hcs : cells ≤ (rm_X4_memberOf).cells ∧ slots ≤ (rm_X4_memberOf).slots) {x2 : Int64} {x4 : Int32} {K22 : Int64 → Int32 → Int32 → Sg → Prop} {post : Int32 → Sg → Prop} (hR : ∀ (r : Int32) (σ1 : Sg) (H : Heap) (locs : List Loc) (pc : Nat) (ls : Array Slot), decode cX4_memberOf pc = .ok (.ireturn, 1) → post r σ1 → s_St G σ1 H0 H locs → W p l e rm_X4_memberOf s m args below meth c H locs cells slots Q (F0 m pc ls [.int r])) (hK22 : ∀ (x5 : Int64) (x7 : Int32) (x8 : Int32), ∀ (σ : Sg) (H : Heap) (locs : List Loc) (ls : Array Slot), s_St G σ H0 H locs → lv_has ls 10 [(0, .ref (G.2.2 + 97)), (1, .ref (G.2.2 + 5)), (4, .int x4), (5, .long x5), (7, .int x7), (8, .int x8)] → K22 x5 x7 x8 σ → W p l e rm_X4_memberOf s m args below meth c H locs cells slots Q (F0 m 22 ls [])) : ∀ (x5 : Int64) (x7 : Int32) (x8 : Int32) (y0 : Int32), ∀ {σ : Sg} {H : Heap} {locs : List Loc} {ls : Array Slot}, s_St G σ H0 H locs → lv_has ls 10 [(0, .ref (G.2.2 + 97)), (1, .ref (G.2.2 + 5)), (4, .int x4), (5, .long x5), (7, .int x7), (8, .int x8)] → BX4_memberOf_72 x2 x4 K22 post x5 x7 x8 y0 σ → W p l e rm_X4_memberOf s m args below meth c H locs cells slots Q (F0 m 72 ls [.int y0]) := by
  intro x5 x7 x8 y0  σ H locs ls S hl h
  unfold BX4_memberOf_72 at h
  refine lv_istore (lv' := [(9, .int y0), (0, .ref (G.2.2 + 97)), (1, .ref (G.2.2 + 5)), (4, .int x4), (5, .long x5), (7, .int x7), (8, .int x8)]) C.1 C.2.1 dX4_memberOf_72 hl (by decide) rfl (fun ls hl => ?_)
  refine lv_iload C.1 C.2.1 dX4_memberOf_74 (lv_at hl 0 rfl) ?_
  refine lv_if_lt (tgt := 86) C.1 C.2.1 dX4_memberOf_76 (by decide) (fun c1 => ?_) (fun c1 => ?_)
  · replace h := h.1 c1
    refine lv_iload C.1 C.2.1 dX4_memberOf_86 (lv_at hl 0 rfl) ?_
    exact hR _ _ _ _ _ _ dX4_memberOf_88 h S
  · replace h := h.2 c1
    refine lv_iload C.1 C.2.1 dX4_memberOf_79 (lv_at hl 6 rfl) ?_
    refine lv_iload C.1 C.2.1 dX4_memberOf_81 (lv_at hl 3 rfl) ?_
    refine lv_icmp_ne (tgt := 89) C.1 C.2.1 dX4_memberOf_83 (by decide) (fun c2 => ?_) (fun c2 => ?_)
    · replace h := h.1 c2
      refine lv_lload C.1 C.2.1 dX4_memberOf_89 (lv_at hl 4 rfl) ?_
      refine lv_aload_n C.1 C.2.1 dX4_memberOf_91 rfl (lv_at hl 1 rfl) ?_
      refine lv_iload C.1 C.2.1 dX4_memberOf_92 (lv_at hl 5 rfl) ?_
      refine lv_iload C.1 C.2.1 dX4_memberOf_94 (lv_at hl 0 rfl) ?_
      refine lv_aload_n C.1 C.2.1 dX4_memberOf_96 rfl (lv_at hl 2 rfl) ?_
      refine k_l (r_V (As := [.int x7, .int y0, .ref (G.2.2 + 5)]) (rest := [.long x5]) C hml (c_X4_countBehind l G x7 y0 σ _ h) kM_X4_countBehind im_X4_countBehind se_X4_countBehind ml_X4_42 ⟨rfl, rfl⟩ ⟨Nat.le_of_ble_eq_true rfl, Nat.le_of_ble_eq_true rfl⟩ hcs S.v kd_97 (by decide) (T := TX4) (N := 2) rfl rfl hl.1 rfl (Nat.le_of_ble_eq_true rfl) dX4_memberOf_97) S (fun r4 σ3 H locs h S => ?_)
      refine lv_lsub C.1 C.2.1 dX4_memberOf_100 ?_
      refine lv_lstore (lv' := [(5, .long (x5 - r4)), (9, .int y0), (0, .ref (G.2.2 + 97)), (1, .ref (G.2.2 + 5)), (4, .int x4), (7, .int x7), (8, .int x8)]) C.1 C.2.1 dX4_memberOf_101 hl (by decide) rfl (fun ls hl => ?_)
      refine lv_iload C.1 C.2.1 dX4_memberOf_103 (lv_at hl 5 rfl) ?_
      refine lv_iload C.1 C.2.1 dX4_memberOf_105 (lv_at hl 1 rfl) ?_
      refine k_i (r_SN (As := [.int x7, .int y0]) (rest := []) C hml (c_X6_withOneMore l G x7 y0 σ3 _ h) kM_X6_withOneMore st_X6_withOneMore nm_X4_52 ⟨rfl, rfl⟩ ⟨Nat.le_of_ble_eq_true rfl, Nat.le_of_ble_eq_true rfl⟩ hcs S.v rfl hl.1 rfl (Nat.le_of_ble_eq_true rfl) dX4_memberOf_107) S (fun r6 σ5 H locs h S => ?_)
      refine lv_istore (lv' := [(7, .int r6), (5, .long (x5 - r4)), (9, .int y0), (0, .ref (G.2.2 + 97)), (1, .ref (G.2.2 + 5)), (4, .int x4), (8, .int x8)]) C.1 C.2.1 dX4_memberOf_110 hl (by decide) rfl (fun ls hl => ?_)
      refine lv_iinc (v := (x8 + 1)) (lv' := [(8, .int (x8 + 1)), (7, .int r6), (5, .long (x5 - r4)), (9, .int y0), (0, .ref (G.2.2 + 97)), (1, .ref (G.2.2 + 5)), (4, .int x4)]) C.1 C.2.1 dX4_memberOf_112 hl (k := 6) rfl rfl (by decide) rfl (fun ls hl => ?_)
      refine lv_goto (tgt := 22) C.1 C.2.1 dX4_memberOf_115 (by decide) ?_
      exact hK22 ((x5 - r4)) r6 ((x8 + 1)) _ _ _ _ S (lv_sub hl [4, 5, 6, 2, 1, 0] rfl) h
    · replace h := h.2 c2
      refine lv_iload C.1 C.2.1 dX4_memberOf_86 (lv_at hl 0 rfl) ?_
      exact hR _ _ _ _ _ _ dX4_memberOf_88 h S
set_option maxHeartbeats 4000000 in
set_option maxRecDepth 100000 in
theorem TX4_memberOf_51 (C : s_C G p s args m c RX4 cX4_memberOf) (hml : c.maxLocals = 10) (hcs : cells ≤ (rm_X4_memberOf).cells ∧ slots ≤ (rm_X4_memberOf).slots) {x2 : Int64} {x4 : Int32} {K22 : Int64 → Int32 → Int32 → Sg → Prop} {post : Int32 → Sg → Prop} (hR : ∀ (r : Int32) (σ1 : Sg) (H : Heap) (locs : List Loc) (pc : Nat) (ls : Array Slot), decode cX4_memberOf pc = .ok (.ireturn, 1) → post r σ1 → s_St G σ1 H0 H locs → W p l e rm_X4_memberOf s m args below meth c H locs cells slots Q (F0 m pc ls [.int r])) (hK22 : ∀ (x5 : Int64) (x7 : Int32) (x8 : Int32), ∀ (σ : Sg) (H : Heap) (locs : List Loc) (ls : Array Slot), s_St G σ H0 H locs → lv_has ls 10 [(0, .ref (G.2.2 + 97)), (1, .ref (G.2.2 + 5)), (4, .int x4), (5, .long x5), (7, .int x7), (8, .int x8)] → K22 x5 x7 x8 σ → W p l e rm_X4_memberOf s m args below meth c H locs cells slots Q (F0 m 22 ls [])) : ∀ (x5 : Int64) (x7 : Int32) (x8 : Int32), ∀ {σ : Sg} {H : Heap} {locs : List Loc} {ls : Array Slot}, s_St G σ H0 H locs → lv_has ls 10 [(0, .ref (G.2.2 + 97)), (1, .ref (G.2.2 + 5)), (4, .int x4), (5, .long x5), (7, .int x7), (8, .int x8)] → BX4_memberOf_51 x2 x4 K22 post x5 x7 x8 σ → W p l e rm_X4_memberOf s m args below meth c H locs cells slots Q (F0 m 51 ls []) := by
  intro x5 x7 x8  σ H locs ls S hl h
  unfold BX4_memberOf_51 at h
  refine lv_lload C.1 C.2.1 dX4_memberOf_51 (lv_at hl 3 rfl) ?_
  refine lv_lconst (v := (0 : Int64)) C.1 C.2.1 dX4_memberOf_53 (by decide) ?_
  refine W.lcmp C.1 C.2.1 dX4_memberOf_54 ?_
  refine lv_if_ge (tgt := 63) C.1 C.2.1 dX4_memberOf_55 (by decide) (fun c7 => ?_) (fun c7 => ?_)
  · replace h := h.1 c7
    refine lv_aload_n C.1 C.2.1 dX4_memberOf_63 rfl (lv_at hl 0 rfl) ?_
    refine lv_iload C.1 C.2.1 dX4_memberOf_64 (lv_at hl 4 rfl) ?_
    refine lv_lload C.1 C.2.1 dX4_memberOf_66 (lv_at hl 3 rfl) ?_
    refine lv_aload_n C.1 C.2.1 dX4_memberOf_68 rfl (lv_at hl 1 rfl) ?_
    refine k_i (r_V (As := [.int x7, .long x5, .ref (G.2.2 + 5)]) (rest := []) C hml (c_X4_memberBehind l G x7 x5 σ _ h) kM_X4_memberBehind im_X4_memberBehind se_X4_memberBehind ml_X4_59 ⟨rfl, rfl⟩ ⟨Nat.le_of_ble_eq_true rfl, Nat.le_of_ble_eq_true rfl⟩ hcs S.v kd_97 (by decide) (T := TX4) (N := 2) rfl rfl hl.1 rfl (Nat.le_of_ble_eq_true rfl) dX4_memberOf_69) S (fun r9 σ8 H locs h S => ?_)
    exact TX4_memberOf_72 C hml hcs hR hK22 x5 x7 x8 r9 S (lv_sub hl [0, 1, 2, 3, 4, 5] rfl) h
  · replace h := h.2 c7
    refine lv_bipush (v := (-9 : Int32)) C.1 C.2.1 dX4_memberOf_58 (by decide) ?_
    refine lv_goto (tgt := 72) C.1 C.2.1 dX4_memberOf_60 (by decide) ?_
    exact TX4_memberOf_72 C hml hcs hR hK22 x5 x7 x8 ((-9 : Int32)) S (lv_sub hl [0, 1, 2, 3, 4, 5] rfl) h
set_option maxHeartbeats 4000000 in
set_option maxRecDepth 100000 in
theorem TX4_memberOf_22 (C : s_C G p s args m c RX4 cX4_memberOf) (hml : c.maxLocals = 10) (hcs : cells ≤ (rm_X4_memberOf).cells ∧ slots ≤ (rm_X4_memberOf).slots) {x2 : Int64} {x4 : Int32} {post : Int32 → Sg → Prop} (hR : ∀ (r : Int32) (σ1 : Sg) (H : Heap) (locs : List Loc) (pc : Nat) (ls : Array Slot), decode cX4_memberOf pc = .ok (.ireturn, 1) → post r σ1 → s_St G σ1 H0 H locs → W p l e rm_X4_memberOf s m args below meth c H locs cells slots Q (F0 m pc ls [.int r])) : ∀ (n : Nat) (x5 : Int64) (x7 : Int32) (x8 : Int32), ∀ {σ : Sg} {H : Heap} {locs : List Loc} {ls : Array Slot}, s_St G σ H0 H locs → lv_has ls 10 [(0, .ref (G.2.2 + 97)), (1, .ref (G.2.2 + 5)), (4, .int x4), (5, .long x5), (7, .int x7), (8, .int x8)] → BX4_memberOf_22 x2 x4 post n x5 x7 x8 σ → W p l e rm_X4_memberOf s m args below meth c H locs cells slots Q (F0 m 22 ls []) := by
  intro n
  induction n with
  | zero =>
    intro x5 x7 x8  σ H locs ls S hl h
    exact absurd h (fun h => h)
  | succ n ih0 =>
    have ih : ∀ (x5 : Int64) (x7 : Int32) (x8 : Int32), ∀ (σ : Sg) (H : Heap) (locs : List Loc) (ls : Array Slot), s_St G σ H0 H locs → lv_has ls 10 [(0, .ref (G.2.2 + 97)), (1, .ref (G.2.2 + 5)), (4, .int x4), (5, .long x5), (7, .int x7), (8, .int x8)] → BX4_memberOf_22 x2 x4 post n x5 x7 x8 σ → W p l e rm_X4_memberOf s m args below meth c H locs cells slots Q (F0 m 22 ls []) := fun x5 x7 x8  _ _ _ _ => ih0 x5 x7 x8 
    intro x5 x7 x8  σ H locs ls S hl h
    refine lv_iload C.1 C.2.1 dX4_memberOf_22 (lv_at hl 5 rfl) ?_
    refine lv_iload C.1 C.2.1 dX4_memberOf_24 (lv_at hl 2 rfl) ?_
    refine lv_icmp_gt (tgt := 118) C.1 C.2.1 dX4_memberOf_26 (by decide) (fun c10 => ?_) (fun c10 => ?_)
    · replace h := h.1 c10
      refine lv_bipush (v := (-9 : Int32)) C.1 C.2.1 dX4_memberOf_118 (by decide) ?_
      exact hR _ _ _ _ _ _ dX4_memberOf_120 h S
    · replace h := h.2 c10
      refine lv_iload C.1 C.2.1 dX4_memberOf_29 (lv_at hl 5 rfl) ?_
      refine lv_bipush (v := (18 : Int32)) C.1 C.2.1 dX4_memberOf_31 (by decide) ?_
      refine lv_icmp_ge (tgt := 118) C.1 C.2.1 dX4_memberOf_33 (by decide) (fun c11 => ?_) (fun c11 => ?_)
      · replace h := h.1 c11
        refine lv_bipush (v := (-9 : Int32)) C.1 C.2.1 dX4_memberOf_118 (by decide) ?_
        exact hR _ _ _ _ _ _ dX4_memberOf_120 h S
      · replace h := h.2 c11
        refine lv_aload_n C.1 C.2.1 dX4_memberOf_36 rfl (lv_at hl 1 rfl) ?_
        refine lv_iload C.1 C.2.1 dX4_memberOf_37 (lv_at hl 4 rfl) ?_
        refine k_i (r_VN (As := [.int x7]) (rest := []) C hml (c_X1_isEnough l G 5 x7 σ _ kd_5 h) kM_X1_isEnough im_X1_isEnough se_X1_isEnough nm_X4_35 ⟨rfl, rfl⟩ ⟨Nat.le_of_ble_eq_true rfl, Nat.le_of_ble_eq_true rfl⟩ hcs S.v kd_5 (by decide) (T := TX1) (N := 4) rfl rfl hl.1 rfl (Nat.le_of_ble_eq_true rfl) dX4_memberOf_39) S (fun r13 σ12 H locs h S => ?_)
        refine lv_if_eq (tgt := 51) C.1 C.2.1 dX4_memberOf_42 (by decide) (fun c14 => ?_) (fun c14 => ?_)
        · replace h := h.1 c14
          exact TX4_memberOf_51 C hml hcs hR ih x5 x7 x8 S (lv_sub hl [0, 1, 2, 3, 4, 5] rfl) h
        · replace h := h.2 c14
          refine lv_lload C.1 C.2.1 dX4_memberOf_45 (lv_at hl 3 rfl) ?_
          refine lv_lconst (v := (1 : Int64)) C.1 C.2.1 dX4_memberOf_47 (by decide) ?_
          refine lv_lsub C.1 C.2.1 dX4_memberOf_48 ?_
          refine lv_lstore (lv' := [(5, .long (x5 - (1 : Int64))), (0, .ref (G.2.2 + 97)), (1, .ref (G.2.2 + 5)), (4, .int x4), (7, .int x7), (8, .int x8)]) C.1 C.2.1 dX4_memberOf_49 hl (by decide) rfl (fun ls hl => ?_)
          exact TX4_memberOf_51 C hml hcs hR ih ((x5 - (1 : Int64))) x7 x8 S (lv_sub hl [1, 2, 3, 0, 4, 5] rfl) h
theorem kM_X4_memberOf : s_M yX4_memberOf cX4_memberOf 10 (some .int) 3 := ⟨co_X4_memberOf, in_X4, by decide, by decide, by decide +kernel⟩
set_option maxHeartbeats 4000000 in
set_option maxRecDepth 100000 in
theorem c_X4_memberOf (l : Launch) (G : s_G) (x2 : Int64) (x4 : Int32) (σ : Sg) (post : Int32 → Sg → Prop) (h : wpX4_memberOf x2 x4 σ post) : Met l yX4_memberOf (wsU yX4_memberOf cX4_memberOf 10 (some .int)) rm_X4_memberOf (va_Pc [.ref (G.2.2 + 97), .ref (G.2.2 + 5), .long x2, .int x4] (s_Pre G σ)) (va_Qi post (s_B G) (s_A G.2.2)) 0 0 (s_A G.2.2) := by
  refine Met.ofW (cc := cX4_memberOf) (maxL := 10) (ret := (some .int)) (by decide) rfl ?_
  intro p e s m args below meth c s₁ B hml hv
  obtain ⟨rfl, hP, hrok, hK, hN⟩ := hv
  have C : s_C G p s (([.ref (G.2.2 + 97), .ref (G.2.2 + 5), .long x2, .int x4] : List Value).toArray) m c RX4 cX4_memberOf := ⟨B.exec, B.bytes, findClass_of_methodNamed B.named, fun w hw => atoms_spec (ws := wsU yX4_memberOf cX4_memberOf 10 (some .int)) B.pre w (List.mem_cons_of_mem _ hw), hK, hN⟩
  have hr := B.returns
  have hlocks := B.notSynchronized
  have S : s_St G σ s.heap s.heap [] := ⟨hP, va_S.rf, hrok⟩
  have hcs : 0 ≤ (rm_X4_memberOf).cells ∧ 0 ≤ (rm_X4_memberOf).slots := ⟨Nat.le_refl 0, Nat.le_refl 0⟩
  have hR : ∀ (r : Int32) (σ1 : Sg) (H : Heap) (locs : List Loc) (pc : Nat) (ls : Array Slot), decode cX4_memberOf pc = .ok (.ireturn, 1) → post r σ1 → s_St G σ1 s.heap H locs → W p l e rm_X4_memberOf s m ([.ref (G.2.2 + 97), .ref (G.2.2 + 5), .long x2, .int x4] : List Value).toArray below meth c H locs 0 0 (MQ below (va_Qi post (s_B G) (s_A G.2.2)) ([.ref (G.2.2 + 97), .ref (G.2.2 + 5), .long x2, .int x4] : List Value).toArray s 0 0 (s_A G.2.2)) (F0 m pc ls [.int r]) := fun _ _ _ _ _ _ hd hp S => ret_i C hr hlocks hd hp S
  have hl := lv_entry ([.ref (G.2.2 + 97), .ref (G.2.2 + 5), .long x2, .int x4]) (n := 10) (Nat.le_of_ble_eq_true rfl)
  rw [lg_entry_eq]
  generalize (lg_sl ([.ref (G.2.2 + 97), .ref (G.2.2 + 5), .long x2, .int x4]) ++ List.replicate (10 - (lg_sl ([.ref (G.2.2 + 97), .ref (G.2.2 + 5), .long x2, .int x4])).length) Slot.unset).toArray = ls at hl ⊢
  have hl : lv_has ls 10 [(0, .ref (G.2.2 + 97)), (1, .ref (G.2.2 + 5)), (2, .long x2), (4, .int x4)] := hl
  unfold wpX4_memberOf at h
  refine lv_lload_n C.1 C.2.1 dX4_memberOf_0 rfl (lv_at hl 2 rfl) ?_
  refine lv_aload_n C.1 C.2.1 dX4_memberOf_1 rfl (lv_at hl 0 rfl) ?_
  refine lv_iconst (v := (0 : Int32)) C.1 C.2.1 dX4_memberOf_2 (by decide) ?_
  refine k_l (r_V (As := [.int (0 : Int32)]) (rest := [.long x2]) C hml (c_X4_countFrom l G ((0 : Int32)) σ _ h) kM_X4_countFrom im_X4_countFrom se_X4_countFrom ml_X4_55 ⟨rfl, rfl⟩ ⟨Nat.le_of_ble_eq_true rfl, Nat.le_of_ble_eq_true rfl⟩ hcs S.v kd_97 (by decide) (T := TX4) (N := 2) rfl rfl hl.1 rfl (Nat.le_of_ble_eq_true rfl) dX4_memberOf_3) S (fun r16 σ15 H locs h S => ?_)
  refine W.lcmp C.1 C.2.1 dX4_memberOf_6 ?_
  refine lv_if_lt (tgt := 13) C.1 C.2.1 dX4_memberOf_7 (by decide) (fun c17 => ?_) (fun c17 => ?_)
  · replace h := h.1 c17
    refine lv_lload_n C.1 C.2.1 dX4_memberOf_13 rfl (lv_at hl 2 rfl) ?_
    refine lv_lstore (lv' := [(5, .long x2), (0, .ref (G.2.2 + 97)), (1, .ref (G.2.2 + 5)), (2, .long x2), (4, .int x4)]) C.1 C.2.1 dX4_memberOf_14 hl (by decide) rfl (fun ls hl => ?_)
    refine lv_iconst (v := (0 : Int32)) C.1 C.2.1 dX4_memberOf_16 (by decide) ?_
    refine lv_istore (lv' := [(7, .int (0 : Int32)), (5, .long x2), (0, .ref (G.2.2 + 97)), (1, .ref (G.2.2 + 5)), (2, .long x2), (4, .int x4)]) C.1 C.2.1 dX4_memberOf_17 hl (by decide) rfl (fun ls hl => ?_)
    refine lv_iconst (v := (0 : Int32)) C.1 C.2.1 dX4_memberOf_19 (by decide) ?_
    refine lv_istore (lv' := [(8, .int (0 : Int32)), (7, .int (0 : Int32)), (5, .long x2), (0, .ref (G.2.2 + 97)), (1, .ref (G.2.2 + 5)), (2, .long x2), (4, .int x4)]) C.1 C.2.1 dX4_memberOf_20 hl (by decide) rfl (fun ls hl => ?_)
    obtain ⟨nf, h⟩ := h
    exact TX4_memberOf_22 C hml hcs hR nf x2 ((0 : Int32)) ((0 : Int32)) S (lv_sub hl [3, 4, 6, 2, 1, 0] rfl) h
  · replace h := h.2 c17
    refine lv_bipush (v := (-9 : Int32)) C.1 C.2.1 dX4_memberOf_10 (by decide) ?_
    exact hR _ _ _ _ _ _ dX4_memberOf_12 h S
/-! X6_order -/
abbrev rm_X6_order : Room := { frames := 6, cells := 0, slots := 0, locals := 149 }
def wpX6_order (x1 : Int64) (x3 : Int32) (σ : Sg) (post : Int32 → Sg → Prop) : Prop := ((((lg_cmp x1 (0 : Int64)) < 0) → post ((-1 : Int32)) σ) ∧ ((¬ (lg_cmp x1 (0 : Int64)) < 0) → (((0 ≤ x3) → wpX4_learn ((-1 : Int32)) σ (fun σ3 => wpX4_memberOf x1 x3 σ3 (fun r5 σ4 => post r5 σ4))) ∧ ((¬ 0 ≤ x3) → post ((-1 : Int32)) σ))))
theorem kM_X6_order : s_M yX6_order cX6_order 4 (some .int) 2 := ⟨co_X6_order, in_X6, by decide, by decide, by decide +kernel⟩
set_option maxHeartbeats 4000000 in
set_option maxRecDepth 100000 in
theorem c_X6_order (l : Launch) (G : s_G) (x1 : Int64) (x3 : Int32) (σ : Sg) (post : Int32 → Sg → Prop) (h : wpX6_order x1 x3 σ post) : Met l yX6_order (wsU yX6_order cX6_order 4 (some .int)) rm_X6_order (va_Pc [.ref (G.2.2 + 0), .long x1, .int x3] (s_Pre G σ)) (va_Qi post (s_B G) (s_A G.2.2)) 0 0 (s_A G.2.2) := by
  refine Met.ofW (cc := cX6_order) (maxL := 4) (ret := (some .int)) (by decide) rfl ?_
  intro p e s m args below meth c s₁ B hml hv
  obtain ⟨rfl, hP, hrok, hK, hN⟩ := hv
  have C : s_C G p s (([.ref (G.2.2 + 0), .long x1, .int x3] : List Value).toArray) m c RX6 cX6_order := ⟨B.exec, B.bytes, findClass_of_methodNamed B.named, fun w hw => atoms_spec (ws := wsU yX6_order cX6_order 4 (some .int)) B.pre w (List.mem_cons_of_mem _ hw), hK, hN⟩
  have hr := B.returns
  have hlocks := B.notSynchronized
  have S : s_St G σ s.heap s.heap [] := ⟨hP, va_S.rf, hrok⟩
  have hcs : 0 ≤ (rm_X6_order).cells ∧ 0 ≤ (rm_X6_order).slots := ⟨Nat.le_refl 0, Nat.le_refl 0⟩
  have hR : ∀ (r : Int32) (σ1 : Sg) (H : Heap) (locs : List Loc) (pc : Nat) (ls : Array Slot), decode cX6_order pc = .ok (.ireturn, 1) → post r σ1 → s_St G σ1 s.heap H locs → W p l e rm_X6_order s m ([.ref (G.2.2 + 0), .long x1, .int x3] : List Value).toArray below meth c H locs 0 0 (MQ below (va_Qi post (s_B G) (s_A G.2.2)) ([.ref (G.2.2 + 0), .long x1, .int x3] : List Value).toArray s 0 0 (s_A G.2.2)) (F0 m pc ls [.int r]) := fun _ _ _ _ _ _ hd hp S => ret_i C hr hlocks hd hp S
  have hl := lv_entry ([.ref (G.2.2 + 0), .long x1, .int x3]) (n := 4) (Nat.le_of_ble_eq_true rfl)
  rw [lg_entry_eq]
  generalize (lg_sl ([.ref (G.2.2 + 0), .long x1, .int x3]) ++ List.replicate (4 - (lg_sl ([.ref (G.2.2 + 0), .long x1, .int x3])).length) Slot.unset).toArray = ls at hl ⊢
  have hl : lv_has ls 4 [(0, .ref (G.2.2 + 0)), (1, .long x1), (3, .int x3)] := hl
  unfold wpX6_order at h
  refine lv_lload_n C.1 C.2.1 dX6_order_0 rfl (lv_at hl 1 rfl) ?_
  refine lv_lconst (v := (0 : Int64)) C.1 C.2.1 dX6_order_1 (by decide) ?_
  refine W.lcmp C.1 C.2.1 dX6_order_2 ?_
  refine lv_if_lt (tgt := 10) C.1 C.2.1 dX6_order_3 (by decide) (fun c1 => ?_) (fun c1 => ?_)
  · replace h := h.1 c1
    refine lv_iconst (v := (-1 : Int32)) C.1 C.2.1 dX6_order_10 (by decide) ?_
    exact hR _ _ _ _ _ _ dX6_order_11 h S
  · replace h := h.2 c1
    refine lv_iload_n C.1 C.2.1 dX6_order_6 rfl (lv_at hl 2 rfl) ?_
    refine lv_if_ge (tgt := 12) C.1 C.2.1 dX6_order_7 (by decide) (fun c2 => ?_) (fun c2 => ?_)
    · replace h := h.1 c2
      refine lv_aload_n C.1 C.2.1 dX6_order_12 rfl (lv_at hl 0 rfl) ?_
      refine g_X6_7 C fl_X6_51 kd_0 S fn_0_7 dX6_order_13 ?_
      refine lv_aload_n C.1 C.2.1 dX6_order_16 rfl (lv_at hl 0 rfl) ?_
      refine g_X6_2 C fl_X6_22 kd_0 S fn_0_2 dX6_order_17 ?_
      refine lv_iconst (v := (-1 : Int32)) C.1 C.2.1 dX6_order_20 (by decide) ?_
      refine k_v (r_VN (As := [.ref (G.2.2 + 5), .int (-1 : Int32)]) (rest := []) C hml (c_X4_learn l G ((-1 : Int32)) σ _ h) kM_X4_learn im_X4_learn se_X4_learn nm_X6_215 ⟨rfl, rfl⟩ ⟨Nat.le_of_ble_eq_true rfl, Nat.le_of_ble_eq_true rfl⟩ hcs S.v kd_97 (by decide) (T := TX4) (N := 2) rfl rfl hl.1 rfl (Nat.le_of_ble_eq_true rfl) dX6_order_21) S (fun σ3 H locs h S => ?_)
      refine lv_aload_n C.1 C.2.1 dX6_order_24 rfl (lv_at hl 0 rfl) ?_
      refine g_X6_7 C fl_X6_51 kd_0 S fn_0_7 dX6_order_25 ?_
      refine lv_aload_n C.1 C.2.1 dX6_order_28 rfl (lv_at hl 0 rfl) ?_
      refine g_X6_2 C fl_X6_22 kd_0 S fn_0_2 dX6_order_29 ?_
      refine lv_lload_n C.1 C.2.1 dX6_order_32 rfl (lv_at hl 1 rfl) ?_
      refine lv_iload_n C.1 C.2.1 dX6_order_33 rfl (lv_at hl 2 rfl) ?_
      refine k_i (r_VN (As := [.ref (G.2.2 + 5), .long x1, .int x3]) (rest := []) C hml (c_X4_memberOf l G x1 x3 σ3 _ h) kM_X4_memberOf im_X4_memberOf se_X4_memberOf nm_X6_221 ⟨rfl, rfl⟩ ⟨Nat.le_of_ble_eq_true rfl, Nat.le_of_ble_eq_true rfl⟩ hcs S.v kd_97 (by decide) (T := TX4) (N := 2) rfl rfl hl.1 rfl (Nat.le_of_ble_eq_true rfl) dX6_order_34) S (fun r5 σ4 H locs h S => ?_)
      exact hR _ _ _ _ _ _ dX6_order_37 h S
    · replace h := h.2 c2
      refine lv_iconst (v := (-1 : Int32)) C.1 C.2.1 dX6_order_10 (by decide) ?_
      exact hR _ _ _ _ _ _ dX6_order_11 h S
/-! L_areOrders -/
abbrev rm_L_areOrders : Room := { frames := 7, cells := 0, slots := 0, locals := 172 }
def BL_areOrders_72  (post : Int32 → Sg → Prop)  (σ : Sg) : Prop := wpX6_orders ((19 : Int32)) σ (fun r2 σ1 => (((¬ (lg_cmp r2 (-1 : Int64)) = 0) → post (0 : Int32) σ1) ∧ (((lg_cmp r2 (-1 : Int64)) = 0) → post (1 : Int32) σ1)))
def BL_areOrders_50  (post : Int32 → Sg → Prop) (x1 : Int64) (y0 : Int32) (σ : Sg) : Prop := (((y0 = 0) → post (0 : Int32) σ) ∧ ((¬ y0 = 0) → ((((lg_cmp x1 (0 : Int64)) = 0) → BL_areOrders_72 post σ) ∧ ((¬ (lg_cmp x1 (0 : Int64)) = 0) → wpX6_order ((0 : Int64)) ((0 : Int32)) σ (fun r7 σ6 => (((r7 < (-9 : Int32)) → post (0 : Int32) σ6) ∧ ((¬ r7 < (-9 : Int32)) → BL_areOrders_72 post σ6)))))))
def BL_areOrders_4  (post : Int32 → Sg → Prop) : Nat → Int64 → Int32 → Sg → Prop
  | 0, _, _, _ => False
  | n + 1, x1, x3, σ => ((((19 : Int32) ≤ x3) → wpX6_orders ((-1 : Int32)) σ (fun r11 σ10 => (((¬ (lg_cmp r11 x1) = 0) → BL_areOrders_50 post x1 ((0 : Int32)) σ10) ∧ (((lg_cmp r11 x1) = 0) → wpX6_order x1 ((0 : Int32)) σ10 (fun r14 σ13 => (((¬ r14 = (-9 : Int32)) → BL_areOrders_50 post x1 ((0 : Int32)) σ13) ∧ ((r14 = (-9 : Int32)) → BL_areOrders_50 post x1 ((1 : Int32)) σ13))))))) ∧ ((¬ (19 : Int32) ≤ x3) → wpX6_orders x3 σ (fun r17 σ16 => BL_areOrders_4 post n ((x1 + r17)) ((x3 + 1)) σ16)))
def wpL_areOrders  (σ : Sg) (post : Int32 → Sg → Prop) : Prop := ∃ nf, BL_areOrders_4 post nf ((0 : Int64)) ((0 : Int32)) σ
set_option maxHeartbeats 4000000 in
set_option maxRecDepth 100000 in
theorem TL_areOrders_72 (C : s_C G p s args m c RL cL_areOrders) (hml : c.maxLocals = 4) (hcs : cells ≤ (rm_L_areOrders).cells ∧ slots ≤ (rm_L_areOrders).slots)  {post : Int32 → Sg → Prop} (hR : ∀ (r : Int32) (σ1 : Sg) (H : Heap) (locs : List Loc) (pc : Nat) (ls : Array Slot), decode cL_areOrders pc = .ok (.ireturn, 1) → narrow .boolean (.int r) = .int r → post r σ1 → s_St G σ1 H0 H locs → W p l e rm_L_areOrders s m args below meth c H locs cells slots Q (F0 m pc ls [.int r])) : ∀ {σ : Sg} {H : Heap} {locs : List Loc} {ls : Array Slot}, s_St G σ H0 H locs → lv_has ls 4 [(0, .ref (G.2.2 + 0))] → BL_areOrders_72 post σ → W p l e rm_L_areOrders s m args below meth c H locs cells slots Q (F0 m 72 ls []) := by
  intro   σ H locs ls S hl h
  unfold BL_areOrders_72 at h
  refine lv_aload_n C.1 C.2.1 dL_areOrders_72 rfl (lv_at hl 0 rfl) ?_
  refine lv_bipush (v := (19 : Int32)) C.1 C.2.1 dL_areOrders_73 (by decide) ?_
  refine k_l (r_V (As := [.int (19 : Int32)]) (rest := []) C hml (c_X6_orders l G ((19 : Int32)) σ _ h) kM_X6_orders im_X6_orders se_X6_orders ml_L_88 ⟨rfl, rfl⟩ ⟨Nat.le_of_ble_eq_true rfl, Nat.le_of_ble_eq_true rfl⟩ hcs S.v kd_0 (by decide) (T := TX6) (N := 8) rfl rfl hl.1 rfl (Nat.le_of_ble_eq_true rfl) dL_areOrders_75) S (fun r2 σ1 H locs h S => ?_)
  refine lv_ldc2 (v := (-1 : Int64)) C.1 C.2.1 C.2.2.1 (C.2.2.2.1 _ cl_L_95) dL_areOrders_78 ?_
  refine W.lcmp C.1 C.2.1 dL_areOrders_81 ?_
  refine lv_if_ne (tgt := 89) C.1 C.2.1 dL_areOrders_82 (by decide) (fun c3 => ?_) (fun c3 => ?_)
  · replace h := h.1 c3
    refine lv_iconst (v := (0 : Int32)) C.1 C.2.1 dL_areOrders_89 (by decide) ?_
    exact hR _ _ _ _ _ _ dL_areOrders_90 rfl h S
  · replace h := h.2 c3
    refine lv_iconst (v := (1 : Int32)) C.1 C.2.1 dL_areOrders_85 (by decide) ?_
    refine lv_goto (tgt := 90) C.1 C.2.1 dL_areOrders_86 (by decide) ?_
    exact hR _ _ _ _ _ _ dL_areOrders_90 rfl h S
set_option maxHeartbeats 4000000 in
set_option maxRecDepth 100000 in
theorem TL_areOrders_50 (C : s_C G p s args m c RL cL_areOrders) (hml : c.maxLocals = 4) (hcs : cells ≤ (rm_L_areOrders).cells ∧ slots ≤ (rm_L_areOrders).slots)  {post : Int32 → Sg → Prop} (hR : ∀ (r : Int32) (σ1 : Sg) (H : Heap) (locs : List Loc) (pc : Nat) (ls : Array Slot), decode cL_areOrders pc = .ok (.ireturn, 1) → narrow .boolean (.int r) = .int r → post r σ1 → s_St G σ1 H0 H locs → W p l e rm_L_areOrders s m args below meth c H locs cells slots Q (F0 m pc ls [.int r])) : ∀ (x1 : Int64) (y0 : Int32), ∀ {σ : Sg} {H : Heap} {locs : List Loc} {ls : Array Slot}, s_St G σ H0 H locs → lv_has ls 4 [(0, .ref (G.2.2 + 0)), (1, .long x1)] → BL_areOrders_50 post x1 y0 σ → W p l e rm_L_areOrders s m args below meth c H locs cells slots Q (F0 m 50 ls [.int y0]) := by
  intro x1 y0  σ H locs ls S hl h
  unfold BL_areOrders_50 at h
  refine lv_istore_n (lv' := [(3, .int y0), (0, .ref (G.2.2 + 0)), (1, .long x1)]) C.1 C.2.1 dL_areOrders_50 rfl hl (by decide) rfl (fun ls hl => ?_)
  refine lv_iload_n C.1 C.2.1 dL_areOrders_51 rfl (lv_at hl 0 rfl) ?_
  refine lv_if_eq (tgt := 89) C.1 C.2.1 dL_areOrders_52 (by decide) (fun c4 => ?_) (fun c4 => ?_)
  · replace h := h.1 c4
    refine lv_iconst (v := (0 : Int32)) C.1 C.2.1 dL_areOrders_89 (by decide) ?_
    exact hR _ _ _ _ _ _ dL_areOrders_90 rfl h S
  · replace h := h.2 c4
    refine lv_lload_n C.1 C.2.1 dL_areOrders_55 rfl (lv_at hl 2 rfl) ?_
    refine lv_lconst (v := (0 : Int64)) C.1 C.2.1 dL_areOrders_56 (by decide) ?_
    refine W.lcmp C.1 C.2.1 dL_areOrders_57 ?_
    refine lv_if_eq (tgt := 72) C.1 C.2.1 dL_areOrders_58 (by decide) (fun c5 => ?_) (fun c5 => ?_)
    · replace h := h.1 c5
      exact TL_areOrders_72 C hml hcs hR S (lv_sub hl [1] rfl) h
    · replace h := h.2 c5
      refine lv_aload_n C.1 C.2.1 dL_areOrders_61 rfl (lv_at hl 1 rfl) ?_
      refine lv_lconst (v := (0 : Int64)) C.1 C.2.1 dL_areOrders_62 (by decide) ?_
      refine lv_iconst (v := (0 : Int32)) C.1 C.2.1 dL_areOrders_63 (by decide) ?_
      refine k_i (r_V (As := [.long (0 : Int64), .int (0 : Int32)]) (rest := []) C hml (c_X6_order l G ((0 : Int64)) ((0 : Int32)) σ _ h) kM_X6_order im_X6_order se_X6_order ml_L_81 ⟨rfl, rfl⟩ ⟨Nat.le_of_ble_eq_true rfl, Nat.le_of_ble_eq_true rfl⟩ hcs S.v kd_0 (by decide) (T := TX6) (N := 8) rfl rfl hl.1 rfl (Nat.le_of_ble_eq_true rfl) dL_areOrders_64) S (fun r7 σ6 H locs h S => ?_)
      refine lv_bipush (v := (-9 : Int32)) C.1 C.2.1 dL_areOrders_67 (by decide) ?_
      refine lv_icmp_lt (tgt := 89) C.1 C.2.1 dL_areOrders_69 (by decide) (fun c8 => ?_) (fun c8 => ?_)
      · replace h := h.1 c8
        refine lv_iconst (v := (0 : Int32)) C.1 C.2.1 dL_areOrders_89 (by decide) ?_
        exact hR _ _ _ _ _ _ dL_areOrders_90 rfl h S
      · replace h := h.2 c8
        exact TL_areOrders_72 C hml hcs hR S (lv_sub hl [1] rfl) h
set_option maxHeartbeats 4000000 in
set_option maxRecDepth 100000 in
theorem TL_areOrders_4 (C : s_C G p s args m c RL cL_areOrders) (hml : c.maxLocals = 4) (hcs : cells ≤ (rm_L_areOrders).cells ∧ slots ≤ (rm_L_areOrders).slots)  {post : Int32 → Sg → Prop} (hR : ∀ (r : Int32) (σ1 : Sg) (H : Heap) (locs : List Loc) (pc : Nat) (ls : Array Slot), decode cL_areOrders pc = .ok (.ireturn, 1) → narrow .boolean (.int r) = .int r → post r σ1 → s_St G σ1 H0 H locs → W p l e rm_L_areOrders s m args below meth c H locs cells slots Q (F0 m pc ls [.int r])) : ∀ (n : Nat) (x1 : Int64) (x3 : Int32), ∀ {σ : Sg} {H : Heap} {locs : List Loc} {ls : Array Slot}, s_St G σ H0 H locs → lv_has ls 4 [(0, .ref (G.2.2 + 0)), (1, .long x1), (3, .int x3)] → BL_areOrders_4 post n x1 x3 σ → W p l e rm_L_areOrders s m args below meth c H locs cells slots Q (F0 m 4 ls []) := by
  intro n
  induction n with
  | zero =>
    intro x1 x3  σ H locs ls S hl h
    exact absurd h (fun h => h)
  | succ n ih0 =>
    have ih : ∀ (x1 : Int64) (x3 : Int32), ∀ (σ : Sg) (H : Heap) (locs : List Loc) (ls : Array Slot), s_St G σ H0 H locs → lv_has ls 4 [(0, .ref (G.2.2 + 0)), (1, .long x1), (3, .int x3)] → BL_areOrders_4 post n x1 x3 σ → W p l e rm_L_areOrders s m args below meth c H locs cells slots Q (F0 m 4 ls []) := fun x1 x3  _ _ _ _ => ih0 x1 x3 
    intro x1 x3  σ H locs ls S hl h
    refine lv_iload_n C.1 C.2.1 dL_areOrders_4 rfl (lv_at hl 2 rfl) ?_
    refine lv_bipush (v := (19 : Int32)) C.1 C.2.1 dL_areOrders_5 (by decide) ?_
    refine lv_icmp_ge (tgt := 24) C.1 C.2.1 dL_areOrders_7 (by decide) (fun c9 => ?_) (fun c9 => ?_)
    · replace h := h.1 c9
      refine lv_aload_n C.1 C.2.1 dL_areOrders_24 rfl (lv_at hl 0 rfl) ?_
      refine lv_iconst (v := (-1 : Int32)) C.1 C.2.1 dL_areOrders_25 (by decide) ?_
      refine k_l (r_V (As := [.int (-1 : Int32)]) (rest := []) C hml (c_X6_orders l G ((-1 : Int32)) σ _ h) kM_X6_orders im_X6_orders se_X6_orders ml_L_88 ⟨rfl, rfl⟩ ⟨Nat.le_of_ble_eq_true rfl, Nat.le_of_ble_eq_true rfl⟩ hcs S.v kd_0 (by decide) (T := TX6) (N := 8) rfl rfl hl.1 rfl (Nat.le_of_ble_eq_true rfl) dL_areOrders_26) S (fun r11 σ10 H locs h S => ?_)
      refine lv_lload_n C.1 C.2.1 dL_areOrders_29 rfl (lv_at hl 1 rfl) ?_
      refine W.lcmp C.1 C.2.1 dL_areOrders_30 ?_
      refine lv_if_ne (tgt := 49) C.1 C.2.1 dL_areOrders_31 (by decide) (fun c12 => ?_) (fun c12 => ?_)
      · replace h := h.1 c12
        refine lv_iconst (v := (0 : Int32)) C.1 C.2.1 dL_areOrders_49 (by decide) ?_
        exact TL_areOrders_50 C hml hcs hR x1 ((0 : Int32)) S (lv_sub hl [0, 1] rfl) h
      · replace h := h.2 c12
        refine lv_aload_n C.1 C.2.1 dL_areOrders_34 rfl (lv_at hl 0 rfl) ?_
        refine lv_lload_n C.1 C.2.1 dL_areOrders_35 rfl (lv_at hl 1 rfl) ?_
        refine lv_iconst (v := (0 : Int32)) C.1 C.2.1 dL_areOrders_36 (by decide) ?_
        refine k_i (r_V (As := [.long x1, .int (0 : Int32)]) (rest := []) C hml (c_X6_order l G x1 ((0 : Int32)) σ10 _ h) kM_X6_order im_X6_order se_X6_order ml_L_81 ⟨rfl, rfl⟩ ⟨Nat.le_of_ble_eq_true rfl, Nat.le_of_ble_eq_true rfl⟩ hcs S.v kd_0 (by decide) (T := TX6) (N := 8) rfl rfl hl.1 rfl (Nat.le_of_ble_eq_true rfl) dL_areOrders_37) S (fun r14 σ13 H locs h S => ?_)
        refine lv_bipush (v := (-9 : Int32)) C.1 C.2.1 dL_areOrders_40 (by decide) ?_
        refine lv_icmp_ne (tgt := 49) C.1 C.2.1 dL_areOrders_42 (by decide) (fun c15 => ?_) (fun c15 => ?_)
        · replace h := h.1 c15
          refine lv_iconst (v := (0 : Int32)) C.1 C.2.1 dL_areOrders_49 (by decide) ?_
          exact TL_areOrders_50 C hml hcs hR x1 ((0 : Int32)) S (lv_sub hl [0, 1] rfl) h
        · replace h := h.2 c15
          refine lv_iconst (v := (1 : Int32)) C.1 C.2.1 dL_areOrders_45 (by decide) ?_
          refine lv_goto (tgt := 50) C.1 C.2.1 dL_areOrders_46 (by decide) ?_
          exact TL_areOrders_50 C hml hcs hR x1 ((1 : Int32)) S (lv_sub hl [0, 1] rfl) h
    · replace h := h.2 c9
      refine lv_lload_n C.1 C.2.1 dL_areOrders_10 rfl (lv_at hl 1 rfl) ?_
      refine lv_aload_n C.1 C.2.1 dL_areOrders_11 rfl (lv_at hl 0 rfl) ?_
      refine lv_iload_n C.1 C.2.1 dL_areOrders_12 rfl (lv_at hl 2 rfl) ?_
      refine k_l (r_V (As := [.int x3]) (rest := [.long x1]) C hml (c_X6_orders l G x3 σ _ h) kM_X6_orders im_X6_orders se_X6_orders ml_L_88 ⟨rfl, rfl⟩ ⟨Nat.le_of_ble_eq_true rfl, Nat.le_of_ble_eq_true rfl⟩ hcs S.v kd_0 (by decide) (T := TX6) (N := 8) rfl rfl hl.1 rfl (Nat.le_of_ble_eq_true rfl) dL_areOrders_13) S (fun r17 σ16 H locs h S => ?_)
      refine lv_ladd C.1 C.2.1 dL_areOrders_16 ?_
      refine lv_lstore_n (lv' := [(1, .long (x1 + r17)), (0, .ref (G.2.2 + 0)), (3, .int x3)]) C.1 C.2.1 dL_areOrders_17 rfl hl (by decide) rfl (fun ls hl => ?_)
      refine lv_iinc (v := (x3 + 1)) (lv' := [(3, .int (x3 + 1)), (1, .long (x1 + r17)), (0, .ref (G.2.2 + 0))]) C.1 C.2.1 dL_areOrders_18 hl (k := 2) rfl rfl (by decide) rfl (fun ls hl => ?_)
      refine lv_goto (tgt := 4) C.1 C.2.1 dL_areOrders_21 (by decide) ?_
      exact ih ((x1 + r17)) ((x3 + 1)) _ _ _ _ S (lv_sub hl [2, 1, 0] rfl) h
theorem kM_L_areOrders : s_M yL_areOrders cL_areOrders 4 (some .boolean) 1 := ⟨co_L_areOrders, in_L, by decide, by decide, by decide +kernel⟩
set_option maxHeartbeats 4000000 in
set_option maxRecDepth 100000 in
theorem c_L_areOrders (l : Launch) (G : s_G)  (σ : Sg) (post : Int32 → Sg → Prop) (h : wpL_areOrders σ post) : Met l yL_areOrders (wsU yL_areOrders cL_areOrders 4 (some .boolean)) rm_L_areOrders (va_Pc [.ref (G.2.2 + 0)] (s_Pre G σ)) (va_Qi post (s_B G) (s_A G.2.2)) 0 0 (s_A G.2.2) := by
  refine Met.ofW (cc := cL_areOrders) (maxL := 4) (ret := (some .boolean)) (by decide) rfl ?_
  intro p e s m args below meth c s₁ B hml hv
  obtain ⟨rfl, hP, hrok, hK, hN⟩ := hv
  have C : s_C G p s (([.ref (G.2.2 + 0)] : List Value).toArray) m c RL cL_areOrders := ⟨B.exec, B.bytes, findClass_of_methodNamed B.named, fun w hw => atoms_spec (ws := wsU yL_areOrders cL_areOrders 4 (some .boolean)) B.pre w (List.mem_cons_of_mem _ hw), hK, hN⟩
  have hr := B.returns
  have hlocks := B.notSynchronized
  have S : s_St G σ s.heap s.heap [] := ⟨hP, va_S.rf, hrok⟩
  have hcs : 0 ≤ (rm_L_areOrders).cells ∧ 0 ≤ (rm_L_areOrders).slots := ⟨Nat.le_refl 0, Nat.le_refl 0⟩
  have hR : ∀ (r : Int32) (σ1 : Sg) (H : Heap) (locs : List Loc) (pc : Nat) (ls : Array Slot), decode cL_areOrders pc = .ok (.ireturn, 1) → narrow .boolean (.int r) = .int r → post r σ1 → s_St G σ1 s.heap H locs → W p l e rm_L_areOrders s m ([.ref (G.2.2 + 0)] : List Value).toArray below meth c H locs 0 0 (MQ below (va_Qi post (s_B G) (s_A G.2.2)) ([.ref (G.2.2 + 0)] : List Value).toArray s 0 0 (s_A G.2.2)) (F0 m pc ls [.int r]) := fun _ _ _ _ _ _ hd hn hp S => ret_z C hr hlocks hd hn hp S
  have hl := lv_entry ([.ref (G.2.2 + 0)]) (n := 4) (Nat.le_of_ble_eq_true rfl)
  rw [lg_entry_eq]
  generalize (lg_sl ([.ref (G.2.2 + 0)]) ++ List.replicate (4 - (lg_sl ([.ref (G.2.2 + 0)])).length) Slot.unset).toArray = ls at hl ⊢
  have hl : lv_has ls 4 [(0, .ref (G.2.2 + 0))] := hl
  unfold wpL_areOrders at h
  refine lv_lconst (v := (0 : Int64)) C.1 C.2.1 dL_areOrders_0 (by decide) ?_
  refine lv_lstore_n (lv' := [(1, .long (0 : Int64)), (0, .ref (G.2.2 + 0))]) C.1 C.2.1 dL_areOrders_1 rfl hl (by decide) rfl (fun ls hl => ?_)
  refine lv_iconst (v := (0 : Int32)) C.1 C.2.1 dL_areOrders_2 (by decide) ?_
  refine lv_istore_n (lv' := [(3, .int (0 : Int32)), (1, .long (0 : Int64)), (0, .ref (G.2.2 + 0))]) C.1 C.2.1 dL_areOrders_3 rfl hl (by decide) rfl (fun ls hl => ?_)
  obtain ⟨nf, h⟩ := h
  exact TL_areOrders_4 C hml hcs hR nf ((0 : Int64)) ((0 : Int32)) S (lv_sub hl [2, 1, 0] rfl) h
end M3
