section M6
variable {p : Program} {l : Launch} {e : Env} {R : Room} {s : State} {m : MethodId} {args : Array Value} {below : List Frame} {meth : Method} {c : Code} {H0 : Heap} {cells slots : Nat} {Q : State → Prop} {G : s_G}
/-! X6_rank -/
abbrev rm_X6_rank : Room := { frames := 6, cells := 0, slots := 0, locals := 144 }
def wpX6_rank  (σ : Sg) (post : Int64 → Sg → Prop) : Prop := wpX5_learn σ (fun σ1 => wpX5_exists σ1 (fun r3 σ2 => (((¬ r3 = 0) → wpX4_learn ((-1 : Int32)) σ2 (fun σ5 => wpX4_numberOf σ5 (fun r7 σ6 => post r7 σ6))) ∧ ((r3 = 0) → post ((-2 : Int64)) σ2))))
theorem kM_X6_rank : s_M yX6_rank cX6_rank 1 (some .long) 0 := ⟨co_X6_rank, in_X6, by decide, by decide, by decide +kernel⟩
set_option maxHeartbeats 4000000 in
set_option maxRecDepth 100000 in
theorem c_X6_rank (l : Launch) (G : s_G)  (σ : Sg) (post : Int64 → Sg → Prop) (h : wpX6_rank σ post) : Met l yX6_rank (wsU yX6_rank cX6_rank 1 (some .long)) rm_X6_rank (va_Pc [.ref (G.2.2 + 0)] (s_Pre G σ)) (va_Ql post (s_B G) (s_A G.2.2)) 0 0 (s_A G.2.2) := by
  refine Met.ofW (cc := cX6_rank) (maxL := 1) (ret := (some .long)) (by decide) rfl ?_
  intro p e s m args below meth c s₁ B hml hv
  obtain ⟨rfl, hP, hrok, hK, hN⟩ := hv
  have C : s_C G p s (([.ref (G.2.2 + 0)] : List Value).toArray) m c RX6 cX6_rank := ⟨B.exec, B.bytes, findClass_of_methodNamed B.named, fun w hw => atoms_spec (ws := wsU yX6_rank cX6_rank 1 (some .long)) B.pre w (List.mem_cons_of_mem _ hw), hK, hN⟩
  have hr := B.returns
  have hlocks := B.notSynchronized
  have S : s_St G σ s.heap s.heap [] := ⟨hP, va_S.rf, hrok⟩
  have hcs : 0 ≤ (rm_X6_rank).cells ∧ 0 ≤ (rm_X6_rank).slots := ⟨Nat.le_refl 0, Nat.le_refl 0⟩
  have hR : ∀ (r : Int64) (σ1 : Sg) (H : Heap) (locs : List Loc) (pc : Nat) (ls : Array Slot), decode cX6_rank pc = .ok (.lreturn, 1) → post r σ1 → s_St G σ1 s.heap H locs → W p l e rm_X6_rank s m ([.ref (G.2.2 + 0)] : List Value).toArray below meth c H locs 0 0 (MQ below (va_Ql post (s_B G) (s_A G.2.2)) ([.ref (G.2.2 + 0)] : List Value).toArray s 0 0 (s_A G.2.2)) (F0 m pc ls [.long r]) := fun _ _ _ _ _ _ hd hp S => ret_l C hr hlocks hd hp S
  have hl := lv_entry ([.ref (G.2.2 + 0)]) (n := 1) (Nat.le_of_ble_eq_true rfl)
  rw [lg_entry_eq]
  generalize (lg_sl ([.ref (G.2.2 + 0)]) ++ List.replicate (1 - (lg_sl ([.ref (G.2.2 + 0)])).length) Slot.unset).toArray = ls at hl ⊢
  have hl : lv_has ls 1 [(0, .ref (G.2.2 + 0))] := hl
  unfold wpX6_rank at h
  refine lv_aload_n C.1 C.2.1 dX6_rank_0 rfl (lv_at hl 0 rfl) ?_
  refine g_X6_6 C fl_X6_44 kd_0 S fn_0_6 dX6_rank_1 ?_
  refine lv_aload_n C.1 C.2.1 dX6_rank_4 rfl (lv_at hl 0 rfl) ?_
  refine g_X6_2 C fl_X6_22 kd_0 S fn_0_2 dX6_rank_5 ?_
  refine lv_aload_n C.1 C.2.1 dX6_rank_8 rfl (lv_at hl 0 rfl) ?_
  refine g_X6_0 C fl_X6_10 kd_0 S fn_0_0 dX6_rank_9 ?_
  refine k_v (r_VN (As := [.ref (G.2.2 + 5), .ref (G.2.2 + 1)]) (rest := []) C hml (c_X5_learn l G σ _ h) kM_X5_learn im_X5_learn se_X5_learn nm_X6_164 ⟨rfl, rfl⟩ ⟨Nat.le_of_ble_eq_true rfl, Nat.le_of_ble_eq_true rfl⟩ hcs S kd_90 (by decide) (T := TX5) (N := 8) rfl rfl hl.1 rfl (Nat.le_of_ble_eq_true rfl) dX6_rank_12) S (fun σ1 H locs h S => ?_)
  refine lv_aload_n C.1 C.2.1 dX6_rank_15 rfl (lv_at hl 0 rfl) ?_
  refine g_X6_6 C fl_X6_44 kd_0 S fn_0_6 dX6_rank_16 ?_
  refine k_i (r_VN (As := []) (rest := []) C hml (c_X5_exists l G σ1 _ h) kM_X5_exists im_X5_exists se_X5_exists nm_X6_168 ⟨rfl, rfl⟩ ⟨Nat.le_of_ble_eq_true rfl, Nat.le_of_ble_eq_true rfl⟩ hcs S kd_90 (by decide) (T := TX5) (N := 8) rfl rfl hl.1 rfl (Nat.le_of_ble_eq_true rfl) dX6_rank_19) S (fun r3 σ2 H locs h S => ?_)
  refine lv_if_ne (tgt := 29) C.1 C.2.1 dX6_rank_22 (by decide) (fun c4 => ?_) (fun c4 => ?_)
  · replace h := h.1 c4
    refine lv_aload_n C.1 C.2.1 dX6_rank_29 rfl (lv_at hl 0 rfl) ?_
    refine g_X6_7 C fl_X6_51 kd_0 S fn_0_7 dX6_rank_30 ?_
    refine lv_aload_n C.1 C.2.1 dX6_rank_33 rfl (lv_at hl 0 rfl) ?_
    refine g_X6_2 C fl_X6_22 kd_0 S fn_0_2 dX6_rank_34 ?_
    refine lv_iconst (v := (-1 : Int32)) C.1 C.2.1 dX6_rank_37 (by decide) ?_
    refine k_v (r_VN (As := [.ref (G.2.2 + 5), .int (-1 : Int32)]) (rest := []) C hml (c_X4_learn l G ((-1 : Int32)) σ2 _ h) kM_X4_learn im_X4_learn se_X4_learn nm_X6_215 ⟨rfl, rfl⟩ ⟨Nat.le_of_ble_eq_true rfl, Nat.le_of_ble_eq_true rfl⟩ hcs S kd_97 (by decide) (T := TX4) (N := 2) rfl rfl hl.1 rfl (Nat.le_of_ble_eq_true rfl) dX6_rank_38) S (fun σ5 H locs h S => ?_)
    refine lv_aload_n C.1 C.2.1 dX6_rank_41 rfl (lv_at hl 0 rfl) ?_
    refine g_X6_7 C fl_X6_51 kd_0 S fn_0_7 dX6_rank_42 ?_
    refine lv_aload_n C.1 C.2.1 dX6_rank_45 rfl (lv_at hl 0 rfl) ?_
    refine g_X6_2 C fl_X6_22 kd_0 S fn_0_2 dX6_rank_46 ?_
    refine lv_aload_n C.1 C.2.1 dX6_rank_49 rfl (lv_at hl 0 rfl) ?_
    refine g_X6_6 C fl_X6_44 kd_0 S fn_0_6 dX6_rank_50 ?_
    refine k_l (r_VN (As := [.ref (G.2.2 + 5), .ref (G.2.2 + 90)]) (rest := []) C hml (c_X4_numberOf l G σ5 _ h) kM_X4_numberOf im_X4_numberOf se_X4_numberOf nm_X6_227 ⟨rfl, rfl⟩ ⟨Nat.le_of_ble_eq_true rfl, Nat.le_of_ble_eq_true rfl⟩ hcs S kd_97 (by decide) (T := TX4) (N := 2) rfl rfl hl.1 rfl (Nat.le_of_ble_eq_true rfl) dX6_rank_53) S (fun r7 σ6 H locs h S => ?_)
    exact hR _ _ _ _ _ _ dX6_rank_56 h S
  · replace h := h.2 c4
    refine lv_ldc2 (v := (-2 : Int64)) C.1 C.2.1 C.2.2.1 (C.2.2.2.1 _ cl_X6_225) dX6_rank_25 ?_
    exact hR _ _ _ _ _ _ dX6_rank_28 h S
/-! X6_readings -/
abbrev rm_X6_readings : Room := { frames := 6, cells := 0, slots := 0, locals := 144 }
def wpX6_readings  (σ : Sg) (post : Int32 → Sg → Prop) : Prop := wpX5_learn σ (fun σ1 => wpX5_waysFrom ((0 : Int32)) σ1 (fun r3 σ2 => post ((((if (1000000 : Int64) < r3 then (1000000 : Int64) else r3)).toInt32)) σ2))
theorem kM_X6_readings : s_M yX6_readings cX6_readings 1 (some .int) 0 := ⟨co_X6_readings, in_X6, by decide, by decide, by decide +kernel⟩
set_option maxHeartbeats 4000000 in
set_option maxRecDepth 100000 in
theorem c_X6_readings (l : Launch) (G : s_G)  (σ : Sg) (post : Int32 → Sg → Prop) (h : wpX6_readings σ post) : Met l yX6_readings (wsU yX6_readings cX6_readings 1 (some .int)) rm_X6_readings (va_Pc [.ref (G.2.2 + 0)] (s_Pre G σ)) (va_Qi post (s_B G) (s_A G.2.2)) 0 0 (s_A G.2.2) := by
  refine Met.ofW (cc := cX6_readings) (maxL := 1) (ret := (some .int)) (by decide) rfl ?_
  intro p e s m args below meth c s₁ B hml hv
  obtain ⟨rfl, hP, hrok, hK, hN⟩ := hv
  have C : s_C G p s (([.ref (G.2.2 + 0)] : List Value).toArray) m c RX6 cX6_readings := ⟨B.exec, B.bytes, findClass_of_methodNamed B.named, fun w hw => atoms_spec (ws := wsU yX6_readings cX6_readings 1 (some .int)) B.pre w (List.mem_cons_of_mem _ hw), hK, hN⟩
  have hr := B.returns
  have hlocks := B.notSynchronized
  have S : s_St G σ s.heap s.heap [] := ⟨hP, va_S.rf, hrok⟩
  have hcs : 0 ≤ (rm_X6_readings).cells ∧ 0 ≤ (rm_X6_readings).slots := ⟨Nat.le_refl 0, Nat.le_refl 0⟩
  have hR : ∀ (r : Int32) (σ1 : Sg) (H : Heap) (locs : List Loc) (pc : Nat) (ls : Array Slot), decode cX6_readings pc = .ok (.ireturn, 1) → post r σ1 → s_St G σ1 s.heap H locs → W p l e rm_X6_readings s m ([.ref (G.2.2 + 0)] : List Value).toArray below meth c H locs 0 0 (MQ below (va_Qi post (s_B G) (s_A G.2.2)) ([.ref (G.2.2 + 0)] : List Value).toArray s 0 0 (s_A G.2.2)) (F0 m pc ls [.int r]) := fun _ _ _ _ _ _ hd hp S => ret_i C hr hlocks hd hp S
  have hl := lv_entry ([.ref (G.2.2 + 0)]) (n := 1) (Nat.le_of_ble_eq_true rfl)
  rw [lg_entry_eq]
  generalize (lg_sl ([.ref (G.2.2 + 0)]) ++ List.replicate (1 - (lg_sl ([.ref (G.2.2 + 0)])).length) Slot.unset).toArray = ls at hl ⊢
  have hl : lv_has ls 1 [(0, .ref (G.2.2 + 0))] := hl
  unfold wpX6_readings at h
  refine lv_aload_n C.1 C.2.1 dX6_readings_0 rfl (lv_at hl 0 rfl) ?_
  refine g_X6_6 C fl_X6_44 kd_0 S fn_0_6 dX6_readings_1 ?_
  refine lv_aload_n C.1 C.2.1 dX6_readings_4 rfl (lv_at hl 0 rfl) ?_
  refine g_X6_2 C fl_X6_22 kd_0 S fn_0_2 dX6_readings_5 ?_
  refine lv_aload_n C.1 C.2.1 dX6_readings_8 rfl (lv_at hl 0 rfl) ?_
  refine g_X6_0 C fl_X6_10 kd_0 S fn_0_0 dX6_readings_9 ?_
  refine k_v (r_VN (As := [.ref (G.2.2 + 5), .ref (G.2.2 + 1)]) (rest := []) C hml (c_X5_learn l G σ _ h) kM_X5_learn im_X5_learn se_X5_learn nm_X6_164 ⟨rfl, rfl⟩ ⟨Nat.le_of_ble_eq_true rfl, Nat.le_of_ble_eq_true rfl⟩ hcs S kd_90 (by decide) (T := TX5) (N := 8) rfl rfl hl.1 rfl (Nat.le_of_ble_eq_true rfl) dX6_readings_12) S (fun σ1 H locs h S => ?_)
  refine lv_aload_n C.1 C.2.1 dX6_readings_15 rfl (lv_at hl 0 rfl) ?_
  refine g_X6_6 C fl_X6_44 kd_0 S fn_0_6 dX6_readings_16 ?_
  refine lv_iconst (v := (0 : Int32)) C.1 C.2.1 dX6_readings_19 (by decide) ?_
  refine k_l (r_VN (As := [.int (0 : Int32)]) (rest := []) C hml (c_X5_waysFrom l G ((0 : Int32)) σ1 _ h) kM_X5_waysFrom im_X5_waysFrom se_X5_waysFrom nm_X6_176 ⟨rfl, rfl⟩ ⟨Nat.le_of_ble_eq_true rfl, Nat.le_of_ble_eq_true rfl⟩ hcs S kd_90 (by decide) (T := TX5) (N := 8) rfl rfl hl.1 rfl (Nat.le_of_ble_eq_true rfl) dX6_readings_20) S (fun r3 σ2 H locs h S => ?_)
  refine lv_ldc2 (v := (1000000 : Int64)) C.1 C.2.1 C.2.2.1 (C.2.2.2.1 _ cl_X6_180) dX6_readings_23 ?_
  refine va_mmin_long C.1 C.2.1 (hml.trans hl.1.symm) C.2.2.1 (C.2.2.2.1 _ ml_X6_182) (C.2.2.2.1 _ st_minl) (C.2.2.2.1 _ in_math) (C.2.2.2.1 _ co_minl) (Nat.le_of_ble_eq_true rfl) (Nat.le_of_ble_eq_true rfl) hcs.1 hcs.2 dX6_readings_26 ?_
  refine lv_l2i C.1 C.2.1 dX6_readings_29 rfl ?_
  exact hR _ _ _ _ _ _ dX6_readings_30 h S
/-! X6_remove -/
abbrev rm_X6_remove : Room := { frames := 4, cells := 0, slots := 0, locals := 90 }
def wpX6_remove (x1 : Int32) (σ : Sg) (post : Int32 → Sg → Prop) : Prop := wpX1_has 5 x1 σ (fun r2 σ1 => (((¬ r2 = 0) → wpX6_beginChange σ1 (fun σ4 => wpX1_takeOut 5 x1 σ4 (fun σ5 => post ((σ5.1 5 2)) σ5))) ∧ ((r2 = 0) → post ((-1 : Int32)) σ1)))
theorem kM_X6_remove : s_M yX6_remove cX6_remove 2 (some .int) 1 := ⟨co_X6_remove, in_X6, by decide, by decide, by decide +kernel⟩
set_option maxHeartbeats 4000000 in
set_option maxRecDepth 100000 in
theorem c_X6_remove (l : Launch) (G : s_G) (x1 : Int32) (σ : Sg) (post : Int32 → Sg → Prop) (h : wpX6_remove x1 σ post) : Met l yX6_remove (wsU yX6_remove cX6_remove 2 (some .int)) rm_X6_remove (va_Pc [.ref (G.2.2 + 0), .int x1] (s_Pre G σ)) (va_Qi post (s_B G) (s_A G.2.2)) 0 0 (s_A G.2.2) := by
  refine Met.ofW (cc := cX6_remove) (maxL := 2) (ret := (some .int)) (by decide) rfl ?_
  intro p e s m args below meth c s₁ B hml hv
  obtain ⟨rfl, hP, hrok, hK, hN⟩ := hv
  have C : s_C G p s (([.ref (G.2.2 + 0), .int x1] : List Value).toArray) m c RX6 cX6_remove := ⟨B.exec, B.bytes, findClass_of_methodNamed B.named, fun w hw => atoms_spec (ws := wsU yX6_remove cX6_remove 2 (some .int)) B.pre w (List.mem_cons_of_mem _ hw), hK, hN⟩
  have hr := B.returns
  have hlocks := B.notSynchronized
  have S : s_St G σ s.heap s.heap [] := ⟨hP, va_S.rf, hrok⟩
  have hcs : 0 ≤ (rm_X6_remove).cells ∧ 0 ≤ (rm_X6_remove).slots := ⟨Nat.le_refl 0, Nat.le_refl 0⟩
  have hR : ∀ (r : Int32) (σ1 : Sg) (H : Heap) (locs : List Loc) (pc : Nat) (ls : Array Slot), decode cX6_remove pc = .ok (.ireturn, 1) → post r σ1 → s_St G σ1 s.heap H locs → W p l e rm_X6_remove s m ([.ref (G.2.2 + 0), .int x1] : List Value).toArray below meth c H locs 0 0 (MQ below (va_Qi post (s_B G) (s_A G.2.2)) ([.ref (G.2.2 + 0), .int x1] : List Value).toArray s 0 0 (s_A G.2.2)) (F0 m pc ls [.int r]) := fun _ _ _ _ _ _ hd hp S => ret_i C hr hlocks hd hp S
  have hl := lv_entry ([.ref (G.2.2 + 0), .int x1]) (n := 2) (Nat.le_of_ble_eq_true rfl)
  rw [lg_entry_eq]
  generalize (lg_sl ([.ref (G.2.2 + 0), .int x1]) ++ List.replicate (2 - (lg_sl ([.ref (G.2.2 + 0), .int x1])).length) Slot.unset).toArray = ls at hl ⊢
  have hl : lv_has ls 2 [(0, .ref (G.2.2 + 0)), (1, .int x1)] := hl
  unfold wpX6_remove at h
  refine lv_aload_n C.1 C.2.1 dX6_remove_0 rfl (lv_at hl 0 rfl) ?_
  refine g_X6_2 C fl_X6_22 kd_0 S fn_0_2 dX6_remove_1 ?_
  refine lv_iload_n C.1 C.2.1 dX6_remove_4 rfl (lv_at hl 1 rfl) ?_
  refine k_i (r_VN (As := [.int x1]) (rest := []) C hml (c_X1_has l G 5 x1 σ _ kd_5 h) kM_X1_has im_X1_has se_X1_has nm_X6_89 ⟨rfl, rfl⟩ ⟨Nat.le_of_ble_eq_true rfl, Nat.le_of_ble_eq_true rfl⟩ hcs S kd_5 (by decide) (T := TX1) (N := 4) rfl rfl hl.1 rfl (Nat.le_of_ble_eq_true rfl) dX6_remove_5) S (fun r2 σ1 H locs h S => ?_)
  refine lv_if_ne (tgt := 13) C.1 C.2.1 dX6_remove_8 (by decide) (fun c3 => ?_) (fun c3 => ?_)
  · replace h := h.1 c3
    refine lv_aload_n C.1 C.2.1 dX6_remove_13 rfl (lv_at hl 0 rfl) ?_
    refine k_v (r_V (As := []) (rest := []) C hml (c_X6_beginChange l G σ1 _ h) kM_X6_beginChange im_X6_beginChange se_X6_beginChange ml_X6_82 ⟨rfl, rfl⟩ ⟨Nat.le_of_ble_eq_true rfl, Nat.le_of_ble_eq_true rfl⟩ hcs S kd_0 (by decide) (T := TX6) (N := 8) rfl rfl hl.1 rfl (Nat.le_of_ble_eq_true rfl) dX6_remove_14) S (fun σ4 H locs h S => ?_)
    refine lv_aload_n C.1 C.2.1 dX6_remove_17 rfl (lv_at hl 0 rfl) ?_
    refine g_X6_2 C fl_X6_22 kd_0 S fn_0_2 dX6_remove_18 ?_
    refine lv_iload_n C.1 C.2.1 dX6_remove_21 rfl (lv_at hl 1 rfl) ?_
    refine k_v (r_VN (As := [.int x1]) (rest := []) C hml (c_X1_takeOut l G 5 x1 σ4 _ kd_5 h) kM_X1_takeOut im_X1_takeOut se_X1_takeOut nm_X6_92 ⟨rfl, rfl⟩ ⟨Nat.le_of_ble_eq_true rfl, Nat.le_of_ble_eq_true rfl⟩ hcs S kd_5 (by decide) (T := TX1) (N := 4) rfl rfl hl.1 rfl (Nat.le_of_ble_eq_true rfl) dX6_remove_22) S (fun σ5 H locs h S => ?_)
    refine lv_aload_n C.1 C.2.1 dX6_remove_25 rfl (lv_at hl 0 rfl) ?_
    refine g_X6_2 C fl_X6_22 kd_0 S fn_0_2 dX6_remove_26 ?_
    refine gn_X1_2 C nf_X6_79 kd_5 S dX6_remove_29 ?_
    exact hR _ _ _ _ _ _ dX6_remove_32 h S
  · replace h := h.2 c3
    refine lv_iconst (v := (-1 : Int32)) C.1 C.2.1 dX6_remove_11 (by decide) ?_
    exact hR _ _ _ _ _ _ dX6_remove_12 h S
/-! X6_withBit -/
abbrev rm_X6_withBit : Room := { frames := 0, cells := 0, slots := 0, locals := 0 }
def wpX6_withBit (x0 : Int32) (x1 : Int32) (x2 : Int32) (σ : Sg) (post : Int32 → Sg → Prop) : Prop := post (((x0 &&& (((1 : Int32) <<< (x1 &&& 31)) ^^^ (-1 : Int32))) ||| (x2 <<< (x1 &&& 31)))) σ
theorem kM_X6_withBit : s_M yX6_withBit cX6_withBit 3 (some .int) 3 := ⟨co_X6_withBit, in_X6, by decide, by decide, by decide +kernel⟩
set_option maxHeartbeats 4000000 in
set_option maxRecDepth 100000 in
theorem c_X6_withBit (l : Launch) (G : s_G) (x0 : Int32) (x1 : Int32) (x2 : Int32) (σ : Sg) (post : Int32 → Sg → Prop) (h : wpX6_withBit x0 x1 x2 σ post) : Met l yX6_withBit (wsU yX6_withBit cX6_withBit 3 (some .int)) rm_X6_withBit (va_Pc [.int x0, .int x1, .int x2] (s_Pre G σ)) (va_Qi post (s_B G) (s_A G.2.2)) 0 0 (s_A G.2.2) := by
  refine Met.ofW (cc := cX6_withBit) (maxL := 3) (ret := (some .int)) (by decide) rfl ?_
  intro p e s m args below meth c s₁ B hml hv
  obtain ⟨rfl, hP, hrok, hK, hN⟩ := hv
  have C : s_C G p s (([.int x0, .int x1, .int x2] : List Value).toArray) m c RX6 cX6_withBit := ⟨B.exec, B.bytes, findClass_of_methodNamed B.named, fun w hw => atoms_spec (ws := wsU yX6_withBit cX6_withBit 3 (some .int)) B.pre w (List.mem_cons_of_mem _ hw), hK, hN⟩
  have hr := B.returns
  have hlocks := B.notSynchronized
  have S : s_St G σ s.heap s.heap [] := ⟨hP, va_S.rf, hrok⟩
  have hcs : 0 ≤ (rm_X6_withBit).cells ∧ 0 ≤ (rm_X6_withBit).slots := ⟨Nat.le_refl 0, Nat.le_refl 0⟩
  have hR : ∀ (r : Int32) (σ1 : Sg) (H : Heap) (locs : List Loc) (pc : Nat) (ls : Array Slot), decode cX6_withBit pc = .ok (.ireturn, 1) → post r σ1 → s_St G σ1 s.heap H locs → W p l e rm_X6_withBit s m ([.int x0, .int x1, .int x2] : List Value).toArray below meth c H locs 0 0 (MQ below (va_Qi post (s_B G) (s_A G.2.2)) ([.int x0, .int x1, .int x2] : List Value).toArray s 0 0 (s_A G.2.2)) (F0 m pc ls [.int r]) := fun _ _ _ _ _ _ hd hp S => ret_i C hr hlocks hd hp S
  have hl := lv_entry ([.int x0, .int x1, .int x2]) (n := 3) (Nat.le_of_ble_eq_true rfl)
  rw [lg_entry_eq]
  generalize (lg_sl ([.int x0, .int x1, .int x2]) ++ List.replicate (3 - (lg_sl ([.int x0, .int x1, .int x2])).length) Slot.unset).toArray = ls at hl ⊢
  have hl : lv_has ls 3 [(0, .int x0), (1, .int x1), (2, .int x2)] := hl
  unfold wpX6_withBit at h
  refine lv_iload_n C.1 C.2.1 dX6_withBit_0 rfl (lv_at hl 0 rfl) ?_
  refine lv_iconst (v := (1 : Int32)) C.1 C.2.1 dX6_withBit_1 (by decide) ?_
  refine lv_iload_n C.1 C.2.1 dX6_withBit_2 rfl (lv_at hl 1 rfl) ?_
  refine lv_ishl C.1 C.2.1 dX6_withBit_3 ?_
  refine lv_iconst (v := (-1 : Int32)) C.1 C.2.1 dX6_withBit_4 (by decide) ?_
  refine lv_ixor C.1 C.2.1 dX6_withBit_5 ?_
  refine lv_iand C.1 C.2.1 dX6_withBit_6 ?_
  refine lv_iload_n C.1 C.2.1 dX6_withBit_7 rfl (lv_at hl 2 rfl) ?_
  refine lv_iload_n C.1 C.2.1 dX6_withBit_8 rfl (lv_at hl 1 rfl) ?_
  refine lv_ishl C.1 C.2.1 dX6_withBit_9 ?_
  refine lv_ior C.1 C.2.1 dX6_withBit_10 ?_
  exact hR _ _ _ _ _ _ dX6_withBit_11 h S
/-! X6_rule -/
abbrev rm_X6_rule : Room := { frames := 4, cells := 0, slots := 0, locals := 84 }
def wpX6_rule (x1 : Int32) (x2 : Int32) (x3 : Int32) (σ : Sg) (post : Int32 → Sg → Prop) : Prop := wpX1_has 5 x1 σ (fun r2 σ1 => (((r2 = 0) → post ((-1 : Int32)) σ1) ∧ ((¬ r2 = 0) → wpX1_has 5 x2 σ1 (fun r5 σ4 => (((r5 = 0) → post ((-1 : Int32)) σ4) ∧ ((¬ r5 = 0) → (((x1 = x2) → post ((-1 : Int32)) σ4) ∧ ((¬ x1 = x2) → (((x3 < 0) → post ((-1 : Int32)) σ4) ∧ ((¬ x3 < 0) → (((x3 ≤ (1 : Int32)) → wpX6_beginChange σ4 (fun σ10 => wpX1_at 5 x1 σ10 (fun q12 σ11 => s_kd q12 = 3 → wpX6_bitOf ((σ11.1 q12 5)) x2 σ11 (fun r14 σ13 => wpX6_withBit ((σ13.1 q12 5)) x2 x3 σ13 (fun r16 σ15 => (∀ σ17 : Sg, σ17 = setI σ15 q12 5 r16 → post r14 σ17)))))) ∧ ((¬ x3 ≤ (1 : Int32)) → post ((-1 : Int32)) σ4))))))))))))
theorem kM_X6_rule : s_M yX6_rule cX6_rule 6 (some .int) 3 := ⟨co_X6_rule, in_X6, by decide, by decide, by decide +kernel⟩
set_option maxHeartbeats 4000000 in
set_option maxRecDepth 100000 in
theorem c_X6_rule (l : Launch) (G : s_G) (x1 : Int32) (x2 : Int32) (x3 : Int32) (σ : Sg) (post : Int32 → Sg → Prop) (h : wpX6_rule x1 x2 x3 σ post) : Met l yX6_rule (wsU yX6_rule cX6_rule 6 (some .int)) rm_X6_rule (va_Pc [.ref (G.2.2 + 0), .int x1, .int x2, .int x3] (s_Pre G σ)) (va_Qi post (s_B G) (s_A G.2.2)) 0 0 (s_A G.2.2) := by
  refine Met.ofW (cc := cX6_rule) (maxL := 6) (ret := (some .int)) (by decide) rfl ?_
  intro p e s m args below meth c s₁ B hml hv
  obtain ⟨rfl, hP, hrok, hK, hN⟩ := hv
  have C : s_C G p s (([.ref (G.2.2 + 0), .int x1, .int x2, .int x3] : List Value).toArray) m c RX6 cX6_rule := ⟨B.exec, B.bytes, findClass_of_methodNamed B.named, fun w hw => atoms_spec (ws := wsU yX6_rule cX6_rule 6 (some .int)) B.pre w (List.mem_cons_of_mem _ hw), hK, hN⟩
  have hr := B.returns
  have hlocks := B.notSynchronized
  have S : s_St G σ s.heap s.heap [] := ⟨hP, va_S.rf, hrok⟩
  have hcs : 0 ≤ (rm_X6_rule).cells ∧ 0 ≤ (rm_X6_rule).slots := ⟨Nat.le_refl 0, Nat.le_refl 0⟩
  have hR : ∀ (r : Int32) (σ1 : Sg) (H : Heap) (locs : List Loc) (pc : Nat) (ls : Array Slot), decode cX6_rule pc = .ok (.ireturn, 1) → post r σ1 → s_St G σ1 s.heap H locs → W p l e rm_X6_rule s m ([.ref (G.2.2 + 0), .int x1, .int x2, .int x3] : List Value).toArray below meth c H locs 0 0 (MQ below (va_Qi post (s_B G) (s_A G.2.2)) ([.ref (G.2.2 + 0), .int x1, .int x2, .int x3] : List Value).toArray s 0 0 (s_A G.2.2)) (F0 m pc ls [.int r]) := fun _ _ _ _ _ _ hd hp S => ret_i C hr hlocks hd hp S
  have hl := lv_entry ([.ref (G.2.2 + 0), .int x1, .int x2, .int x3]) (n := 6) (Nat.le_of_ble_eq_true rfl)
  rw [lg_entry_eq]
  generalize (lg_sl ([.ref (G.2.2 + 0), .int x1, .int x2, .int x3]) ++ List.replicate (6 - (lg_sl ([.ref (G.2.2 + 0), .int x1, .int x2, .int x3])).length) Slot.unset).toArray = ls at hl ⊢
  have hl : lv_has ls 6 [(0, .ref (G.2.2 + 0)), (1, .int x1), (2, .int x2), (3, .int x3)] := hl
  unfold wpX6_rule at h
  refine lv_aload_n C.1 C.2.1 dX6_rule_0 rfl (lv_at hl 0 rfl) ?_
  refine g_X6_2 C fl_X6_22 kd_0 S fn_0_2 dX6_rule_1 ?_
  refine lv_iload_n C.1 C.2.1 dX6_rule_4 rfl (lv_at hl 1 rfl) ?_
  refine k_i (r_VN (As := [.int x1]) (rest := []) C hml (c_X1_has l G 5 x1 σ _ kd_5 h) kM_X1_has im_X1_has se_X1_has nm_X6_89 ⟨rfl, rfl⟩ ⟨Nat.le_of_ble_eq_true rfl, Nat.le_of_ble_eq_true rfl⟩ hcs S kd_5 (by decide) (T := TX1) (N := 4) rfl rfl hl.1 rfl (Nat.le_of_ble_eq_true rfl) dX6_rule_5) S (fun r2 σ1 H locs h S => ?_)
  refine lv_if_eq (tgt := 36) C.1 C.2.1 dX6_rule_8 (by decide) (fun c3 => ?_) (fun c3 => ?_)
  · replace h := h.1 c3
    refine lv_iconst (v := (-1 : Int32)) C.1 C.2.1 dX6_rule_36 (by decide) ?_
    exact hR _ _ _ _ _ _ dX6_rule_37 h S
  · replace h := h.2 c3
    refine lv_aload_n C.1 C.2.1 dX6_rule_11 rfl (lv_at hl 0 rfl) ?_
    refine g_X6_2 C fl_X6_22 kd_0 S fn_0_2 dX6_rule_12 ?_
    refine lv_iload_n C.1 C.2.1 dX6_rule_15 rfl (lv_at hl 2 rfl) ?_
    refine k_i (r_VN (As := [.int x2]) (rest := []) C hml (c_X1_has l G 5 x2 σ1 _ kd_5 h) kM_X1_has im_X1_has se_X1_has nm_X6_89 ⟨rfl, rfl⟩ ⟨Nat.le_of_ble_eq_true rfl, Nat.le_of_ble_eq_true rfl⟩ hcs S kd_5 (by decide) (T := TX1) (N := 4) rfl rfl hl.1 rfl (Nat.le_of_ble_eq_true rfl) dX6_rule_16) S (fun r5 σ4 H locs h S => ?_)
    refine lv_if_eq (tgt := 36) C.1 C.2.1 dX6_rule_19 (by decide) (fun c6 => ?_) (fun c6 => ?_)
    · replace h := h.1 c6
      refine lv_iconst (v := (-1 : Int32)) C.1 C.2.1 dX6_rule_36 (by decide) ?_
      exact hR _ _ _ _ _ _ dX6_rule_37 h S
    · replace h := h.2 c6
      refine lv_iload_n C.1 C.2.1 dX6_rule_22 rfl (lv_at hl 1 rfl) ?_
      refine lv_iload_n C.1 C.2.1 dX6_rule_23 rfl (lv_at hl 2 rfl) ?_
      refine lv_icmp_eq (tgt := 36) C.1 C.2.1 dX6_rule_24 (by decide) (fun c7 => ?_) (fun c7 => ?_)
      · replace h := h.1 c7
        refine lv_iconst (v := (-1 : Int32)) C.1 C.2.1 dX6_rule_36 (by decide) ?_
        exact hR _ _ _ _ _ _ dX6_rule_37 h S
      · replace h := h.2 c7
        refine lv_iload_n C.1 C.2.1 dX6_rule_27 rfl (lv_at hl 3 rfl) ?_
        refine lv_if_lt (tgt := 36) C.1 C.2.1 dX6_rule_28 (by decide) (fun c8 => ?_) (fun c8 => ?_)
        · replace h := h.1 c8
          refine lv_iconst (v := (-1 : Int32)) C.1 C.2.1 dX6_rule_36 (by decide) ?_
          exact hR _ _ _ _ _ _ dX6_rule_37 h S
        · replace h := h.2 c8
          refine lv_iload_n C.1 C.2.1 dX6_rule_31 rfl (lv_at hl 3 rfl) ?_
          refine lv_iconst (v := (1 : Int32)) C.1 C.2.1 dX6_rule_32 (by decide) ?_
          refine lv_icmp_le (tgt := 38) C.1 C.2.1 dX6_rule_33 (by decide) (fun c9 => ?_) (fun c9 => ?_)
          · replace h := h.1 c9
            refine lv_aload_n C.1 C.2.1 dX6_rule_38 rfl (lv_at hl 0 rfl) ?_
            refine k_v (r_V (As := []) (rest := []) C hml (c_X6_beginChange l G σ4 _ h) kM_X6_beginChange im_X6_beginChange se_X6_beginChange ml_X6_82 ⟨rfl, rfl⟩ ⟨Nat.le_of_ble_eq_true rfl, Nat.le_of_ble_eq_true rfl⟩ hcs S kd_0 (by decide) (T := TX6) (N := 8) rfl rfl hl.1 rfl (Nat.le_of_ble_eq_true rfl) dX6_rule_39) S (fun σ10 H locs h S => ?_)
            refine lv_aload_n C.1 C.2.1 dX6_rule_42 rfl (lv_at hl 0 rfl) ?_
            refine g_X6_2 C fl_X6_22 kd_0 S fn_0_2 dX6_rule_43 ?_
            refine lv_iload_n C.1 C.2.1 dX6_rule_46 rfl (lv_at hl 1 rfl) ?_
            refine k_r (kd := 3) (r_VN (As := [.int x1]) (rest := []) C hml (c_X1_at l G 5 x1 σ10 _ kd_5 h) kM_X1_at im_X1_at se_X1_at nm_X6_96 ⟨rfl, rfl⟩ ⟨Nat.le_of_ble_eq_true rfl, Nat.le_of_ble_eq_true rfl⟩ hcs S kd_5 (by decide) (T := TX1) (N := 4) rfl rfl hl.1 rfl (Nat.le_of_ble_eq_true rfl) dX6_rule_47) S (fun q12 σ11 H locs hq12 h S => ?_)
            replace h := h hq12
            refine lv_astore (lv' := [(4, .ref (G.2.2 + q12)), (0, .ref (G.2.2 + 0)), (1, .int x1), (2, .int x2), (3, .int x3)]) C.1 C.2.1 dX6_rule_50 hl (by decide) rfl (fun ls hl => ?_)
            refine lv_aload C.1 C.2.1 dX6_rule_52 (lv_at hl 0 rfl) ?_
            refine gn_X3_5 C nf_X6_117 hq12 S dX6_rule_54 ?_
            refine lv_iload_n C.1 C.2.1 dX6_rule_57 rfl (lv_at hl 3 rfl) ?_
            refine k_i (r_S (As := [.int (σ11.1 q12 5), .int x2]) (rest := []) C hml (c_X6_bitOf l G ((σ11.1 q12 5)) x2 σ11 _ h) kM_X6_bitOf st_X6_bitOf ml_X6_120 ⟨rfl, rfl⟩ ⟨Nat.le_of_ble_eq_true rfl, Nat.le_of_ble_eq_true rfl⟩ hcs S rfl hl.1 rfl (Nat.le_of_ble_eq_true rfl) dX6_rule_58) S (fun r14 σ13 H locs h S => ?_)
            refine lv_istore (lv' := [(5, .int r14), (4, .ref (G.2.2 + q12)), (0, .ref (G.2.2 + 0)), (1, .int x1), (2, .int x2), (3, .int x3)]) C.1 C.2.1 dX6_rule_61 hl (by decide) rfl (fun ls hl => ?_)
            refine lv_aload C.1 C.2.1 dX6_rule_63 (lv_at hl 1 rfl) ?_
            refine lv_aload C.1 C.2.1 dX6_rule_65 (lv_at hl 1 rfl) ?_
            refine gn_X3_5 C nf_X6_117 hq12 S dX6_rule_67 ?_
            refine lv_iload_n C.1 C.2.1 dX6_rule_70 rfl (lv_at hl 4 rfl) ?_
            refine lv_iload_n C.1 C.2.1 dX6_rule_71 rfl (lv_at hl 5 rfl) ?_
            refine k_i (r_S (As := [.int (σ13.1 q12 5), .int x2, .int x3]) (rest := [.ref (G.2.2 + q12)]) C hml (c_X6_withBit l G ((σ13.1 q12 5)) x2 x3 σ13 _ h) kM_X6_withBit st_X6_withBit ml_X6_123 ⟨rfl, rfl⟩ ⟨Nat.le_of_ble_eq_true rfl, Nat.le_of_ble_eq_true rfl⟩ hcs S rfl hl.1 rfl (Nat.le_of_ble_eq_true rfl) dX6_rule_72) S (fun r16 σ15 H locs h S => ?_)
            refine pn_X3_5 C nf_X6_117 hq12 S dX6_rule_75 (fun σ17 H locs e18 S => ?_)
            replace h := h σ17 e18
            refine lv_iload C.1 C.2.1 dX6_rule_78 (lv_at hl 0 rfl) ?_
            exact hR _ _ _ _ _ _ dX6_rule_80 h S
          · replace h := h.2 c9
            refine lv_iconst (v := (-1 : Int32)) C.1 C.2.1 dX6_rule_36 (by decide) ?_
            exact hR _ _ _ _ _ _ dX6_rule_37 h S
/-! X6_set -/
abbrev rm_X6_set : Room := { frames := 4, cells := 0, slots := 0, locals := 84 }
def wpX6_set (x1 : Int32) (x2 : Int32) (x3 : Int32) (σ : Sg) (post : Int32 → Sg → Prop) : Prop := wpX1_has 5 x1 σ (fun r2 σ1 => (((r2 = 0) → post ((-1 : Int32)) σ1) ∧ ((¬ r2 = 0) → wpX1_at 5 x1 σ1 (fun q5 σ4 => s_kd q5 = 3 → wpX3_accepts q5 x2 x3 σ4 (fun r7 σ6 => (((¬ r7 = 0) → wpX6_beginChange σ6 (fun σ9 => wpX1_at 5 x1 σ9 (fun q11 σ10 => s_kd q11 = 3 → wpX3_exchange q11 x2 x3 σ10 (fun r13 σ12 => post r13 σ12)))) ∧ ((r7 = 0) → post ((-1 : Int32)) σ6)))))))
theorem kM_X6_set : s_M yX6_set cX6_set 4 (some .int) 3 := ⟨co_X6_set, in_X6, by decide, by decide, by decide +kernel⟩
set_option maxHeartbeats 4000000 in
set_option maxRecDepth 100000 in
theorem c_X6_set (l : Launch) (G : s_G) (x1 : Int32) (x2 : Int32) (x3 : Int32) (σ : Sg) (post : Int32 → Sg → Prop) (h : wpX6_set x1 x2 x3 σ post) : Met l yX6_set (wsU yX6_set cX6_set 4 (some .int)) rm_X6_set (va_Pc [.ref (G.2.2 + 0), .int x1, .int x2, .int x3] (s_Pre G σ)) (va_Qi post (s_B G) (s_A G.2.2)) 0 0 (s_A G.2.2) := by
  refine Met.ofW (cc := cX6_set) (maxL := 4) (ret := (some .int)) (by decide) rfl ?_
  intro p e s m args below meth c s₁ B hml hv
  obtain ⟨rfl, hP, hrok, hK, hN⟩ := hv
  have C : s_C G p s (([.ref (G.2.2 + 0), .int x1, .int x2, .int x3] : List Value).toArray) m c RX6 cX6_set := ⟨B.exec, B.bytes, findClass_of_methodNamed B.named, fun w hw => atoms_spec (ws := wsU yX6_set cX6_set 4 (some .int)) B.pre w (List.mem_cons_of_mem _ hw), hK, hN⟩
  have hr := B.returns
  have hlocks := B.notSynchronized
  have S : s_St G σ s.heap s.heap [] := ⟨hP, va_S.rf, hrok⟩
  have hcs : 0 ≤ (rm_X6_set).cells ∧ 0 ≤ (rm_X6_set).slots := ⟨Nat.le_refl 0, Nat.le_refl 0⟩
  have hR : ∀ (r : Int32) (σ1 : Sg) (H : Heap) (locs : List Loc) (pc : Nat) (ls : Array Slot), decode cX6_set pc = .ok (.ireturn, 1) → post r σ1 → s_St G σ1 s.heap H locs → W p l e rm_X6_set s m ([.ref (G.2.2 + 0), .int x1, .int x2, .int x3] : List Value).toArray below meth c H locs 0 0 (MQ below (va_Qi post (s_B G) (s_A G.2.2)) ([.ref (G.2.2 + 0), .int x1, .int x2, .int x3] : List Value).toArray s 0 0 (s_A G.2.2)) (F0 m pc ls [.int r]) := fun _ _ _ _ _ _ hd hp S => ret_i C hr hlocks hd hp S
  have hl := lv_entry ([.ref (G.2.2 + 0), .int x1, .int x2, .int x3]) (n := 4) (Nat.le_of_ble_eq_true rfl)
  rw [lg_entry_eq]
  generalize (lg_sl ([.ref (G.2.2 + 0), .int x1, .int x2, .int x3]) ++ List.replicate (4 - (lg_sl ([.ref (G.2.2 + 0), .int x1, .int x2, .int x3])).length) Slot.unset).toArray = ls at hl ⊢
  have hl : lv_has ls 4 [(0, .ref (G.2.2 + 0)), (1, .int x1), (2, .int x2), (3, .int x3)] := hl
  unfold wpX6_set at h
  refine lv_aload_n C.1 C.2.1 dX6_set_0 rfl (lv_at hl 0 rfl) ?_
  refine g_X6_2 C fl_X6_22 kd_0 S fn_0_2 dX6_set_1 ?_
  refine lv_iload_n C.1 C.2.1 dX6_set_4 rfl (lv_at hl 1 rfl) ?_
  refine k_i (r_VN (As := [.int x1]) (rest := []) C hml (c_X1_has l G 5 x1 σ _ kd_5 h) kM_X1_has im_X1_has se_X1_has nm_X6_89 ⟨rfl, rfl⟩ ⟨Nat.le_of_ble_eq_true rfl, Nat.le_of_ble_eq_true rfl⟩ hcs S kd_5 (by decide) (T := TX1) (N := 4) rfl rfl hl.1 rfl (Nat.le_of_ble_eq_true rfl) dX6_set_5) S (fun r2 σ1 H locs h S => ?_)
  refine lv_if_eq (tgt := 27) C.1 C.2.1 dX6_set_8 (by decide) (fun c3 => ?_) (fun c3 => ?_)
  · replace h := h.1 c3
    refine lv_iconst (v := (-1 : Int32)) C.1 C.2.1 dX6_set_27 (by decide) ?_
    exact hR _ _ _ _ _ _ dX6_set_28 h S
  · replace h := h.2 c3
    refine lv_aload_n C.1 C.2.1 dX6_set_11 rfl (lv_at hl 0 rfl) ?_
    refine g_X6_2 C fl_X6_22 kd_0 S fn_0_2 dX6_set_12 ?_
    refine lv_iload_n C.1 C.2.1 dX6_set_15 rfl (lv_at hl 1 rfl) ?_
    refine k_r (kd := 3) (r_VN (As := [.int x1]) (rest := []) C hml (c_X1_at l G 5 x1 σ1 _ kd_5 h) kM_X1_at im_X1_at se_X1_at nm_X6_96 ⟨rfl, rfl⟩ ⟨Nat.le_of_ble_eq_true rfl, Nat.le_of_ble_eq_true rfl⟩ hcs S kd_5 (by decide) (T := TX1) (N := 4) rfl rfl hl.1 rfl (Nat.le_of_ble_eq_true rfl) dX6_set_16) S (fun q5 σ4 H locs hq5 h S => ?_)
    replace h := h hq5
    refine lv_iload_n C.1 C.2.1 dX6_set_19 rfl (lv_at hl 2 rfl) ?_
    refine lv_iload_n C.1 C.2.1 dX6_set_20 rfl (lv_at hl 3 rfl) ?_
    refine k_i (r_VN (As := [.int x2, .int x3]) (rest := []) C hml (c_X3_accepts l G q5 x2 x3 σ4 _ hq5 h) kM_X3_accepts im_X3_accepts se_X3_accepts nm_X6_100 ⟨rfl, rfl⟩ ⟨Nat.le_of_ble_eq_true rfl, Nat.le_of_ble_eq_true rfl⟩ hcs S hq5 (by decide) (T := TX3) (N := 6) rfl rfl hl.1 rfl (Nat.le_of_ble_eq_true rfl) dX6_set_21) S (fun r7 σ6 H locs h S => ?_)
    refine lv_if_ne (tgt := 29) C.1 C.2.1 dX6_set_24 (by decide) (fun c8 => ?_) (fun c8 => ?_)
    · replace h := h.1 c8
      refine lv_aload_n C.1 C.2.1 dX6_set_29 rfl (lv_at hl 0 rfl) ?_
      refine k_v (r_V (As := []) (rest := []) C hml (c_X6_beginChange l G σ6 _ h) kM_X6_beginChange im_X6_beginChange se_X6_beginChange ml_X6_82 ⟨rfl, rfl⟩ ⟨Nat.le_of_ble_eq_true rfl, Nat.le_of_ble_eq_true rfl⟩ hcs S kd_0 (by decide) (T := TX6) (N := 8) rfl rfl hl.1 rfl (Nat.le_of_ble_eq_true rfl) dX6_set_30) S (fun σ9 H locs h S => ?_)
      refine lv_aload_n C.1 C.2.1 dX6_set_33 rfl (lv_at hl 0 rfl) ?_
      refine g_X6_2 C fl_X6_22 kd_0 S fn_0_2 dX6_set_34 ?_
      refine lv_iload_n C.1 C.2.1 dX6_set_37 rfl (lv_at hl 1 rfl) ?_
      refine k_r (kd := 3) (r_VN (As := [.int x1]) (rest := []) C hml (c_X1_at l G 5 x1 σ9 _ kd_5 h) kM_X1_at im_X1_at se_X1_at nm_X6_96 ⟨rfl, rfl⟩ ⟨Nat.le_of_ble_eq_true rfl, Nat.le_of_ble_eq_true rfl⟩ hcs S kd_5 (by decide) (T := TX1) (N := 4) rfl rfl hl.1 rfl (Nat.le_of_ble_eq_true rfl) dX6_set_38) S (fun q11 σ10 H locs hq11 h S => ?_)
      replace h := h hq11
      refine lv_iload_n C.1 C.2.1 dX6_set_41 rfl (lv_at hl 2 rfl) ?_
      refine lv_iload_n C.1 C.2.1 dX6_set_42 rfl (lv_at hl 3 rfl) ?_
      refine k_i (r_VN (As := [.int x2, .int x3]) (rest := []) C hml (c_X3_exchange l G q11 x2 x3 σ10 _ hq11 h) kM_X3_exchange im_X3_exchange se_X3_exchange nm_X6_106 ⟨rfl, rfl⟩ ⟨Nat.le_of_ble_eq_true rfl, Nat.le_of_ble_eq_true rfl⟩ hcs S hq11 (by decide) (T := TX3) (N := 6) rfl rfl hl.1 rfl (Nat.le_of_ble_eq_true rfl) dX6_set_43) S (fun r13 σ12 H locs h S => ?_)
      exact hR _ _ _ _ _ _ dX6_set_46 h S
    · replace h := h.2 c8
      refine lv_iconst (v := (-1 : Int32)) C.1 C.2.1 dX6_set_27 (by decide) ?_
      exact hR _ _ _ _ _ _ dX6_set_28 h S
/-! X6_setSeparator -/
abbrev rm_X6_setSeparator : Room := { frames := 4, cells := 0, slots := 0, locals := 84 }
def BX6_setSeparator_18 (x1 : Int32) (post : Int32 → Sg → Prop)  (σ : Sg) : Prop := wpX6_beginChange σ (fun σ1 => (∀ σ2 : Sg, σ2 = setI σ1 5 3 x1 → post ((σ1.1 5 3)) σ2))
def wpX6_setSeparator (x1 : Int32) (σ : Sg) (post : Int32 → Sg → Prop) : Prop := (((x1 = 0) → BX6_setSeparator_18 x1 post σ) ∧ ((¬ x1 = 0) → (((x1 < (33 : Int32)) → post ((-1 : Int32)) σ) ∧ ((¬ x1 < (33 : Int32)) → (((x1 ≤ (47 : Int32)) → BX6_setSeparator_18 x1 post σ) ∧ ((¬ x1 ≤ (47 : Int32)) → post ((-1 : Int32)) σ))))))
set_option maxHeartbeats 4000000 in
set_option maxRecDepth 100000 in
theorem TX6_setSeparator_18 (C : s_C G p s args m c RX6 cX6_setSeparator) (hml : c.maxLocals = 3) (hcs : cells ≤ (rm_X6_setSeparator).cells ∧ slots ≤ (rm_X6_setSeparator).slots) {x1 : Int32} {post : Int32 → Sg → Prop} (hR : ∀ (r : Int32) (σ1 : Sg) (H : Heap) (locs : List Loc) (pc : Nat) (ls : Array Slot), decode cX6_setSeparator pc = .ok (.ireturn, 1) → post r σ1 → s_St G σ1 H0 H locs → W p l e rm_X6_setSeparator s m args below meth c H locs cells slots Q (F0 m pc ls [.int r])) : ∀ {σ : Sg} {H : Heap} {locs : List Loc} {ls : Array Slot}, s_St G σ H0 H locs → lv_has ls 3 [(0, .ref (G.2.2 + 0)), (1, .int x1)] → BX6_setSeparator_18 x1 post σ → W p l e rm_X6_setSeparator s m args below meth c H locs cells slots Q (F0 m 18 ls []) := by
  intro   σ H locs ls S hl h
  unfold BX6_setSeparator_18 at h
  refine lv_aload_n C.1 C.2.1 dX6_setSeparator_18 rfl (lv_at hl 0 rfl) ?_
  refine k_v (r_V (As := []) (rest := []) C hml (c_X6_beginChange l G σ _ h) kM_X6_beginChange im_X6_beginChange se_X6_beginChange ml_X6_82 ⟨rfl, rfl⟩ ⟨Nat.le_of_ble_eq_true rfl, Nat.le_of_ble_eq_true rfl⟩ hcs S kd_0 (by decide) (T := TX6) (N := 8) rfl rfl hl.1 rfl (Nat.le_of_ble_eq_true rfl) dX6_setSeparator_19) S (fun σ1 H locs h S => ?_)
  refine lv_aload_n C.1 C.2.1 dX6_setSeparator_22 rfl (lv_at hl 0 rfl) ?_
  refine g_X6_2 C fl_X6_22 kd_0 S fn_0_2 dX6_setSeparator_23 ?_
  refine gn_X1_3 C nf_X6_114 kd_5 S dX6_setSeparator_26 ?_
  refine lv_istore_n (lv' := [(2, .int (σ1.1 5 3)), (0, .ref (G.2.2 + 0)), (1, .int x1)]) C.1 C.2.1 dX6_setSeparator_29 rfl hl (by decide) rfl (fun ls hl => ?_)
  refine lv_aload_n C.1 C.2.1 dX6_setSeparator_30 rfl (lv_at hl 1 rfl) ?_
  refine g_X6_2 C fl_X6_22 kd_0 S fn_0_2 dX6_setSeparator_31 ?_
  refine lv_iload_n C.1 C.2.1 dX6_setSeparator_34 rfl (lv_at hl 2 rfl) ?_
  refine pn_X1_3 C nf_X6_114 kd_5 S dX6_setSeparator_35 (fun σ2 H locs e3 S => ?_)
  replace h := h σ2 e3
  refine lv_iload_n C.1 C.2.1 dX6_setSeparator_38 rfl (lv_at hl 0 rfl) ?_
  exact hR _ _ _ _ _ _ dX6_setSeparator_39 h S
theorem kM_X6_setSeparator : s_M yX6_setSeparator cX6_setSeparator 3 (some .int) 1 := ⟨co_X6_setSeparator, in_X6, by decide, by decide, by decide +kernel⟩
set_option maxHeartbeats 4000000 in
set_option maxRecDepth 100000 in
theorem c_X6_setSeparator (l : Launch) (G : s_G) (x1 : Int32) (σ : Sg) (post : Int32 → Sg → Prop) (h : wpX6_setSeparator x1 σ post) : Met l yX6_setSeparator (wsU yX6_setSeparator cX6_setSeparator 3 (some .int)) rm_X6_setSeparator (va_Pc [.ref (G.2.2 + 0), .int x1] (s_Pre G σ)) (va_Qi post (s_B G) (s_A G.2.2)) 0 0 (s_A G.2.2) := by
  refine Met.ofW (cc := cX6_setSeparator) (maxL := 3) (ret := (some .int)) (by decide) rfl ?_
  intro p e s m args below meth c s₁ B hml hv
  obtain ⟨rfl, hP, hrok, hK, hN⟩ := hv
  have C : s_C G p s (([.ref (G.2.2 + 0), .int x1] : List Value).toArray) m c RX6 cX6_setSeparator := ⟨B.exec, B.bytes, findClass_of_methodNamed B.named, fun w hw => atoms_spec (ws := wsU yX6_setSeparator cX6_setSeparator 3 (some .int)) B.pre w (List.mem_cons_of_mem _ hw), hK, hN⟩
  have hr := B.returns
  have hlocks := B.notSynchronized
  have S : s_St G σ s.heap s.heap [] := ⟨hP, va_S.rf, hrok⟩
  have hcs : 0 ≤ (rm_X6_setSeparator).cells ∧ 0 ≤ (rm_X6_setSeparator).slots := ⟨Nat.le_refl 0, Nat.le_refl 0⟩
  have hR : ∀ (r : Int32) (σ1 : Sg) (H : Heap) (locs : List Loc) (pc : Nat) (ls : Array Slot), decode cX6_setSeparator pc = .ok (.ireturn, 1) → post r σ1 → s_St G σ1 s.heap H locs → W p l e rm_X6_setSeparator s m ([.ref (G.2.2 + 0), .int x1] : List Value).toArray below meth c H locs 0 0 (MQ below (va_Qi post (s_B G) (s_A G.2.2)) ([.ref (G.2.2 + 0), .int x1] : List Value).toArray s 0 0 (s_A G.2.2)) (F0 m pc ls [.int r]) := fun _ _ _ _ _ _ hd hp S => ret_i C hr hlocks hd hp S
  have hl := lv_entry ([.ref (G.2.2 + 0), .int x1]) (n := 3) (Nat.le_of_ble_eq_true rfl)
  rw [lg_entry_eq]
  generalize (lg_sl ([.ref (G.2.2 + 0), .int x1]) ++ List.replicate (3 - (lg_sl ([.ref (G.2.2 + 0), .int x1])).length) Slot.unset).toArray = ls at hl ⊢
  have hl : lv_has ls 3 [(0, .ref (G.2.2 + 0)), (1, .int x1)] := hl
  unfold wpX6_setSeparator at h
  refine lv_iload_n C.1 C.2.1 dX6_setSeparator_0 rfl (lv_at hl 1 rfl) ?_
  refine lv_if_eq (tgt := 18) C.1 C.2.1 dX6_setSeparator_1 (by decide) (fun c4 => ?_) (fun c4 => ?_)
  · replace h := h.1 c4
    exact TX6_setSeparator_18 C hml hcs hR S (lv_sub hl [0, 1] rfl) h
  · replace h := h.2 c4
    refine lv_iload_n C.1 C.2.1 dX6_setSeparator_4 rfl (lv_at hl 1 rfl) ?_
    refine lv_bipush (v := (33 : Int32)) C.1 C.2.1 dX6_setSeparator_5 (by decide) ?_
    refine lv_icmp_lt (tgt := 16) C.1 C.2.1 dX6_setSeparator_7 (by decide) (fun c5 => ?_) (fun c5 => ?_)
    · replace h := h.1 c5
      refine lv_iconst (v := (-1 : Int32)) C.1 C.2.1 dX6_setSeparator_16 (by decide) ?_
      exact hR _ _ _ _ _ _ dX6_setSeparator_17 h S
    · replace h := h.2 c5
      refine lv_iload_n C.1 C.2.1 dX6_setSeparator_10 rfl (lv_at hl 1 rfl) ?_
      refine lv_bipush (v := (47 : Int32)) C.1 C.2.1 dX6_setSeparator_11 (by decide) ?_
      refine lv_icmp_le (tgt := 18) C.1 C.2.1 dX6_setSeparator_13 (by decide) (fun c6 => ?_) (fun c6 => ?_)
      · replace h := h.1 c6
        exact TX6_setSeparator_18 C hml hcs hR S (lv_sub hl [0, 1] rfl) h
      · replace h := h.2 c6
        refine lv_iconst (v := (-1 : Int32)) C.1 C.2.1 dX6_setSeparator_16 (by decide) ?_
        exact hR _ _ _ _ _ _ dX6_setSeparator_17 h S
/-! X6_told -/
abbrev rm_X6_told : Room := { frames := 4, cells := 0, slots := 0, locals := 88 }
def wpX6_told (x1 : Int32) (σ : Sg) (post : Int32 → Sg → Prop) : Prop := ((((x1).toInt < 0 ∨ 7 < (x1).toInt) → post ((-1 : Int32)) σ) ∧ ((x1 = 0) → post ((σ.1 5 2)) σ) ∧ ((x1 = 1) → post ((σ.1 5 3)) σ) ∧ ((x1 = 2) → wpX1_countRules 5 σ (fun r3 σ2 => post r3 σ2)) ∧ ((x1 = 3) → wpX1_countClashingPairs 5 σ (fun r5 σ4 => post r5 σ4)) ∧ ((x1 = 4) → post ((σ.1 1 1)) σ) ∧ ((x1 = 5) → post ((σ.1 14 1)) σ) ∧ ((x1 = 6) → wpX1_leastOccurrences 5 σ (fun r7 σ6 => post r7 σ6)) ∧ ((x1 = 7) → wpX1_mostOccurrences 5 σ (fun r9 σ8 => post r9 σ8)))
theorem kM_X6_told : s_M yX6_told cX6_told 2 (some .int) 1 := ⟨co_X6_told, in_X6, by decide, by decide, by decide +kernel⟩
set_option maxHeartbeats 4000000 in
set_option maxRecDepth 100000 in
theorem c_X6_told (l : Launch) (G : s_G) (x1 : Int32) (σ : Sg) (post : Int32 → Sg → Prop) (h : wpX6_told x1 σ post) : Met l yX6_told (wsU yX6_told cX6_told 2 (some .int)) rm_X6_told (va_Pc [.ref (G.2.2 + 0), .int x1] (s_Pre G σ)) (va_Qi post (s_B G) (s_A G.2.2)) 0 0 (s_A G.2.2) := by
  refine Met.ofW (cc := cX6_told) (maxL := 2) (ret := (some .int)) (by decide) rfl ?_
  intro p e s m args below meth c s₁ B hml hv
  obtain ⟨rfl, hP, hrok, hK, hN⟩ := hv
  have C : s_C G p s (([.ref (G.2.2 + 0), .int x1] : List Value).toArray) m c RX6 cX6_told := ⟨B.exec, B.bytes, findClass_of_methodNamed B.named, fun w hw => atoms_spec (ws := wsU yX6_told cX6_told 2 (some .int)) B.pre w (List.mem_cons_of_mem _ hw), hK, hN⟩
  have hr := B.returns
  have hlocks := B.notSynchronized
  have S : s_St G σ s.heap s.heap [] := ⟨hP, va_S.rf, hrok⟩
  have hcs : 0 ≤ (rm_X6_told).cells ∧ 0 ≤ (rm_X6_told).slots := ⟨Nat.le_refl 0, Nat.le_refl 0⟩
  have hR : ∀ (r : Int32) (σ1 : Sg) (H : Heap) (locs : List Loc) (pc : Nat) (ls : Array Slot), decode cX6_told pc = .ok (.ireturn, 1) → post r σ1 → s_St G σ1 s.heap H locs → W p l e rm_X6_told s m ([.ref (G.2.2 + 0), .int x1] : List Value).toArray below meth c H locs 0 0 (MQ below (va_Qi post (s_B G) (s_A G.2.2)) ([.ref (G.2.2 + 0), .int x1] : List Value).toArray s 0 0 (s_A G.2.2)) (F0 m pc ls [.int r]) := fun _ _ _ _ _ _ hd hp S => ret_i C hr hlocks hd hp S
  have hl := lv_entry ([.ref (G.2.2 + 0), .int x1]) (n := 2) (Nat.le_of_ble_eq_true rfl)
  rw [lg_entry_eq]
  generalize (lg_sl ([.ref (G.2.2 + 0), .int x1]) ++ List.replicate (2 - (lg_sl ([.ref (G.2.2 + 0), .int x1])).length) Slot.unset).toArray = ls at hl ⊢
  have hl : lv_has ls 2 [(0, .ref (G.2.2 + 0)), (1, .int x1)] := hl
  unfold wpX6_told at h
  refine lv_iload_n C.1 C.2.1 dX6_told_0 rfl (lv_at hl 1 rfl) ?_
  rcases (sw_0_7 x1) with c1 | c1 | c1 | c1 | c1 | c1 | c1 | c1 | c1
  · replace h := h.1 c1
    refine lv_tableOut (tgt := 112) C.1 C.2.1 dX6_told_1 c1 (by decide) ?_
    refine lv_iconst (v := (-1 : Int32)) C.1 C.2.1 dX6_told_112 (by decide) ?_
    exact hR _ _ _ _ _ _ dX6_told_113 h S
  · replace h := h.2.1 c1
    refine lv_tableIn (tgt := 48) (off := 47) C.1 C.2.1 dX6_told_1 (by rw [c1]; decide) (by rw [c1]; decide) (by rw [c1]; decide) (by decide) ?_
    refine lv_aload_n C.1 C.2.1 dX6_told_48 rfl (lv_at hl 0 rfl) ?_
    refine g_X6_2 C fl_X6_22 kd_0 S fn_0_2 dX6_told_49 ?_
    refine gn_X1_2 C nf_X6_79 kd_5 S dX6_told_52 ?_
    exact hR _ _ _ _ _ _ dX6_told_55 h S
  · replace h := h.2.2.1 c1
    refine lv_tableIn (tgt := 56) (off := 55) C.1 C.2.1 dX6_told_1 (by rw [c1]; decide) (by rw [c1]; decide) (by rw [c1]; decide) (by decide) ?_
    refine lv_aload_n C.1 C.2.1 dX6_told_56 rfl (lv_at hl 0 rfl) ?_
    refine g_X6_2 C fl_X6_22 kd_0 S fn_0_2 dX6_told_57 ?_
    refine gn_X1_3 C nf_X6_114 kd_5 S dX6_told_60 ?_
    exact hR _ _ _ _ _ _ dX6_told_63 h S
  · replace h := h.2.2.2.1 c1
    refine lv_tableIn (tgt := 64) (off := 63) C.1 C.2.1 dX6_told_1 (by rw [c1]; decide) (by rw [c1]; decide) (by rw [c1]; decide) (by decide) ?_
    refine lv_aload_n C.1 C.2.1 dX6_told_64 rfl (lv_at hl 0 rfl) ?_
    refine g_X6_2 C fl_X6_22 kd_0 S fn_0_2 dX6_told_65 ?_
    refine k_i (r_VN (As := []) (rest := []) C hml (c_X1_countRules l G 5 σ _ kd_5 h) kM_X1_countRules im_X1_countRules se_X1_countRules nm_X6_139 ⟨rfl, rfl⟩ ⟨Nat.le_of_ble_eq_true rfl, Nat.le_of_ble_eq_true rfl⟩ hcs S kd_5 (by decide) (T := TX1) (N := 4) rfl rfl hl.1 rfl (Nat.le_of_ble_eq_true rfl) dX6_told_68) S (fun r3 σ2 H locs h S => ?_)
    exact hR _ _ _ _ _ _ dX6_told_71 h S
  · replace h := h.2.2.2.2.1 c1
    refine lv_tableIn (tgt := 72) (off := 71) C.1 C.2.1 dX6_told_1 (by rw [c1]; decide) (by rw [c1]; decide) (by rw [c1]; decide) (by decide) ?_
    refine lv_aload_n C.1 C.2.1 dX6_told_72 rfl (lv_at hl 0 rfl) ?_
    refine g_X6_2 C fl_X6_22 kd_0 S fn_0_2 dX6_told_73 ?_
    refine k_i (r_VN (As := []) (rest := []) C hml (c_X1_countClashingPairs l G 5 σ _ kd_5 h) kM_X1_countClashingPairs im_X1_countClashingPairs se_X1_countClashingPairs nm_X6_142 ⟨rfl, rfl⟩ ⟨Nat.le_of_ble_eq_true rfl, Nat.le_of_ble_eq_true rfl⟩ hcs S kd_5 (by decide) (T := TX1) (N := 4) rfl rfl hl.1 rfl (Nat.le_of_ble_eq_true rfl) dX6_told_76) S (fun r5 σ4 H locs h S => ?_)
    exact hR _ _ _ _ _ _ dX6_told_79 h S
  · replace h := h.2.2.2.2.2.1 c1
    refine lv_tableIn (tgt := 80) (off := 79) C.1 C.2.1 dX6_told_1 (by rw [c1]; decide) (by rw [c1]; decide) (by rw [c1]; decide) (by decide) ?_
    refine lv_aload_n C.1 C.2.1 dX6_told_80 rfl (lv_at hl 0 rfl) ?_
    refine g_X6_0 C fl_X6_10 kd_0 S fn_0_0 dX6_told_81 ?_
    refine gn_X0_1 C nf_X6_62 kd_1 S dX6_told_84 ?_
    exact hR _ _ _ _ _ _ dX6_told_87 h S
  · replace h := h.2.2.2.2.2.2.1 c1
    refine lv_tableIn (tgt := 88) (off := 87) C.1 C.2.1 dX6_told_1 (by rw [c1]; decide) (by rw [c1]; decide) (by rw [c1]; decide) (by decide) ?_
    refine lv_aload_n C.1 C.2.1 dX6_told_88 rfl (lv_at hl 0 rfl) ?_
    refine g_X6_3 C fl_X6_29 kd_0 S fn_0_3 dX6_told_89 ?_
    refine gn_X2_1 C nf_X6_127 kd_14 S dX6_told_92 ?_
    exact hR _ _ _ _ _ _ dX6_told_95 h S
  · replace h := h.2.2.2.2.2.2.2.1 c1
    refine lv_tableIn (tgt := 96) (off := 95) C.1 C.2.1 dX6_told_1 (by rw [c1]; decide) (by rw [c1]; decide) (by rw [c1]; decide) (by decide) ?_
    refine lv_aload_n C.1 C.2.1 dX6_told_96 rfl (lv_at hl 0 rfl) ?_
    refine g_X6_2 C fl_X6_22 kd_0 S fn_0_2 dX6_told_97 ?_
    refine k_i (r_VN (As := []) (rest := []) C hml (c_X1_leastOccurrences l G 5 σ _ kd_5 h) kM_X1_leastOccurrences im_X1_leastOccurrences se_X1_leastOccurrences nm_X6_145 ⟨rfl, rfl⟩ ⟨Nat.le_of_ble_eq_true rfl, Nat.le_of_ble_eq_true rfl⟩ hcs S kd_5 (by decide) (T := TX1) (N := 4) rfl rfl hl.1 rfl (Nat.le_of_ble_eq_true rfl) dX6_told_100) S (fun r7 σ6 H locs h S => ?_)
    exact hR _ _ _ _ _ _ dX6_told_103 h S
  · replace h := h.2.2.2.2.2.2.2.2 c1
    refine lv_tableIn (tgt := 104) (off := 103) C.1 C.2.1 dX6_told_1 (by rw [c1]; decide) (by rw [c1]; decide) (by rw [c1]; decide) (by decide) ?_
    refine lv_aload_n C.1 C.2.1 dX6_told_104 rfl (lv_at hl 0 rfl) ?_
    refine g_X6_2 C fl_X6_22 kd_0 S fn_0_2 dX6_told_105 ?_
    refine k_i (r_VN (As := []) (rest := []) C hml (c_X1_mostOccurrences l G 5 σ _ kd_5 h) kM_X1_mostOccurrences im_X1_mostOccurrences se_X1_mostOccurrences nm_X6_148 ⟨rfl, rfl⟩ ⟨Nat.le_of_ble_eq_true rfl, Nat.le_of_ble_eq_true rfl⟩ hcs S kd_5 (by decide) (T := TX1) (N := 4) rfl rfl hl.1 rfl (Nat.le_of_ble_eq_true rfl) dX6_told_108) S (fun r9 σ8 H locs h S => ?_)
    exact hR _ _ _ _ _ _ dX6_told_111 h S
/-! X6_undo -/
abbrev rm_X6_undo : Room := { frames := 3, cells := 0, slots := 0, locals := 64 }
def wpX6_undo  (σ : Sg) (post : Int32 → Sg → Prop) : Prop := (((¬ (σ.1 14 1) = 0) → wpX2_restore σ (fun σ2 => wpX6_forgetTables σ2 (fun σ3 => post ((σ3.1 14 1)) σ3))) ∧ (((σ.1 14 1) = 0) → post ((-2 : Int32)) σ))
theorem kM_X6_undo : s_M yX6_undo cX6_undo 1 (some .int) 0 := ⟨co_X6_undo, in_X6, by decide, by decide, by decide +kernel⟩
set_option maxHeartbeats 4000000 in
set_option maxRecDepth 100000 in
theorem c_X6_undo (l : Launch) (G : s_G)  (σ : Sg) (post : Int32 → Sg → Prop) (h : wpX6_undo σ post) : Met l yX6_undo (wsU yX6_undo cX6_undo 1 (some .int)) rm_X6_undo (va_Pc [.ref (G.2.2 + 0)] (s_Pre G σ)) (va_Qi post (s_B G) (s_A G.2.2)) 0 0 (s_A G.2.2) := by
  refine Met.ofW (cc := cX6_undo) (maxL := 1) (ret := (some .int)) (by decide) rfl ?_
  intro p e s m args below meth c s₁ B hml hv
  obtain ⟨rfl, hP, hrok, hK, hN⟩ := hv
  have C : s_C G p s (([.ref (G.2.2 + 0)] : List Value).toArray) m c RX6 cX6_undo := ⟨B.exec, B.bytes, findClass_of_methodNamed B.named, fun w hw => atoms_spec (ws := wsU yX6_undo cX6_undo 1 (some .int)) B.pre w (List.mem_cons_of_mem _ hw), hK, hN⟩
  have hr := B.returns
  have hlocks := B.notSynchronized
  have S : s_St G σ s.heap s.heap [] := ⟨hP, va_S.rf, hrok⟩
  have hcs : 0 ≤ (rm_X6_undo).cells ∧ 0 ≤ (rm_X6_undo).slots := ⟨Nat.le_refl 0, Nat.le_refl 0⟩
  have hR : ∀ (r : Int32) (σ1 : Sg) (H : Heap) (locs : List Loc) (pc : Nat) (ls : Array Slot), decode cX6_undo pc = .ok (.ireturn, 1) → post r σ1 → s_St G σ1 s.heap H locs → W p l e rm_X6_undo s m ([.ref (G.2.2 + 0)] : List Value).toArray below meth c H locs 0 0 (MQ below (va_Qi post (s_B G) (s_A G.2.2)) ([.ref (G.2.2 + 0)] : List Value).toArray s 0 0 (s_A G.2.2)) (F0 m pc ls [.int r]) := fun _ _ _ _ _ _ hd hp S => ret_i C hr hlocks hd hp S
  have hl := lv_entry ([.ref (G.2.2 + 0)]) (n := 1) (Nat.le_of_ble_eq_true rfl)
  rw [lg_entry_eq]
  generalize (lg_sl ([.ref (G.2.2 + 0)]) ++ List.replicate (1 - (lg_sl ([.ref (G.2.2 + 0)])).length) Slot.unset).toArray = ls at hl ⊢
  have hl : lv_has ls 1 [(0, .ref (G.2.2 + 0))] := hl
  unfold wpX6_undo at h
  refine lv_aload_n C.1 C.2.1 dX6_undo_0 rfl (lv_at hl 0 rfl) ?_
  refine g_X6_3 C fl_X6_29 kd_0 S fn_0_3 dX6_undo_1 ?_
  refine gn_X2_1 C nf_X6_127 kd_14 S dX6_undo_4 ?_
  refine lv_if_ne (tgt := 13) C.1 C.2.1 dX6_undo_7 (by decide) (fun c1 => ?_) (fun c1 => ?_)
  · replace h := h.1 c1
    refine lv_aload_n C.1 C.2.1 dX6_undo_13 rfl (lv_at hl 0 rfl) ?_
    refine g_X6_3 C fl_X6_29 kd_0 S fn_0_3 dX6_undo_14 ?_
    refine lv_aload_n C.1 C.2.1 dX6_undo_17 rfl (lv_at hl 0 rfl) ?_
    refine g_X6_2 C fl_X6_22 kd_0 S fn_0_2 dX6_undo_18 ?_
    refine k_v (r_VN (As := [.ref (G.2.2 + 5)]) (rest := []) C hml (c_X2_restore l G σ _ h) kM_X2_restore im_X2_restore se_X2_restore nm_X6_128 ⟨rfl, rfl⟩ ⟨Nat.le_of_ble_eq_true rfl, Nat.le_of_ble_eq_true rfl⟩ hcs S kd_14 (by decide) (T := TX2) (N := 2) rfl rfl hl.1 rfl (Nat.le_of_ble_eq_true rfl) dX6_undo_21) S (fun σ2 H locs h S => ?_)
    refine lv_aload_n C.1 C.2.1 dX6_undo_24 rfl (lv_at hl 0 rfl) ?_
    refine k_v (r_V (As := []) (rest := []) C hml (c_X6_forgetTables l G σ2 _ h) kM_X6_forgetTables im_X6_forgetTables se_X6_forgetTables ml_X6_132 ⟨rfl, rfl⟩ ⟨Nat.le_of_ble_eq_true rfl, Nat.le_of_ble_eq_true rfl⟩ hcs S kd_0 (by decide) (T := TX6) (N := 8) rfl rfl hl.1 rfl (Nat.le_of_ble_eq_true rfl) dX6_undo_25) S (fun σ3 H locs h S => ?_)
    refine lv_aload_n C.1 C.2.1 dX6_undo_28 rfl (lv_at hl 0 rfl) ?_
    refine g_X6_3 C fl_X6_29 kd_0 S fn_0_3 dX6_undo_29 ?_
    refine gn_X2_1 C nf_X6_127 kd_14 S dX6_undo_32 ?_
    exact hR _ _ _ _ _ _ dX6_undo_35 h S
  · replace h := h.2 c1
    refine lv_bipush (v := (-2 : Int32)) C.1 C.2.1 dX6_undo_10 (by decide) ?_
    exact hR _ _ _ _ _ _ dX6_undo_12 h S
/-! X6_value -/
abbrev rm_X6_value : Room := { frames := 6, cells := 0, slots := 0, locals := 144 }
def BX6_value_50 (x1 : Int32) (x2 : Int32) (post : Int32 → Sg → Prop) : Nat → Int32 → Int32 → Sg → Prop
  | 0, _, _, _ => False
  | n + 1, x3, x4, σ => ((((σ.1 90 6) ≤ x4) → (((¬ x3 = 0) → post ((-9 : Int32)) σ) ∧ ((x3 = 0) → (((¬ x2 = 0) → post ((-9 : Int32)) σ) ∧ ((x2 = 0) → wpX1_at 5 x1 σ (fun q5 σ4 => s_kd q5 = 3 → post ((σ4.1 q5 4)) σ4)))))) ∧ ((¬ (σ.1 90 6) ≤ x4) → wpX5_memberAt x4 σ (fun r7 σ6 => (((¬ r7 = x1) → BX6_value_50 x1 x2 post n x3 ((x4 + 1)) σ6) ∧ ((r7 = x1) → (((¬ x3 = x2) → BX6_value_50 x1 x2 post n ((x3 + 1)) ((x4 + 1)) σ6) ∧ ((x3 = x2) → wpX5_numberAt x4 σ6 (fun r11 σ10 => post r11 σ10))))))))
def wpX6_value (x1 : Int32) (x2 : Int32) (σ : Sg) (post : Int32 → Sg → Prop) : Prop := wpX1_has 5 x1 σ (fun r13 σ12 => (((r13 = 0) → post ((-1 : Int32)) σ12) ∧ ((¬ r13 = 0) → (((0 ≤ x2) → wpX5_learn σ12 (fun σ16 => wpX5_exists σ16 (fun r18 σ17 => (((¬ r18 = 0) → ∃ nf, BX6_value_50 x1 x2 post nf ((0 : Int32)) ((0 : Int32)) σ17) ∧ ((r18 = 0) → post ((-2 : Int32)) σ17))))) ∧ ((¬ 0 ≤ x2) → post ((-1 : Int32)) σ12)))))
set_option maxHeartbeats 4000000 in
set_option maxRecDepth 100000 in
theorem TX6_value_50 (C : s_C G p s args m c RX6 cX6_value) (hml : c.maxLocals = 5) (hcs : cells ≤ (rm_X6_value).cells ∧ slots ≤ (rm_X6_value).slots) {x1 : Int32} {x2 : Int32} {post : Int32 → Sg → Prop} (hR : ∀ (r : Int32) (σ1 : Sg) (H : Heap) (locs : List Loc) (pc : Nat) (ls : Array Slot), decode cX6_value pc = .ok (.ireturn, 1) → post r σ1 → s_St G σ1 H0 H locs → W p l e rm_X6_value s m args below meth c H locs cells slots Q (F0 m pc ls [.int r])) : ∀ (n : Nat) (x3 : Int32) (x4 : Int32), ∀ {σ : Sg} {H : Heap} {locs : List Loc} {ls : Array Slot}, s_St G σ H0 H locs → lv_has ls 5 [(0, .ref (G.2.2 + 0)), (1, .int x1), (2, .int x2), (3, .int x3), (4, .int x4)] → BX6_value_50 x1 x2 post n x3 x4 σ → W p l e rm_X6_value s m args below meth c H locs cells slots Q (F0 m 50 ls []) := by
  intro n
  induction n with
  | zero =>
    intro x3 x4  σ H locs ls S hl h
    exact absurd h (fun h => h)
  | succ n ih0 =>
    have ih : ∀ (x3 : Int32) (x4 : Int32), ∀ (σ : Sg) (H : Heap) (locs : List Loc) (ls : Array Slot), s_St G σ H0 H locs → lv_has ls 5 [(0, .ref (G.2.2 + 0)), (1, .int x1), (2, .int x2), (3, .int x3), (4, .int x4)] → BX6_value_50 x1 x2 post n x3 x4 σ → W p l e rm_X6_value s m args below meth c H locs cells slots Q (F0 m 50 ls []) := fun x3 x4  _ _ _ _ => ih0 x3 x4 
    intro x3 x4  σ H locs ls S hl h
    refine lv_iload C.1 C.2.1 dX6_value_50 (lv_at hl 4 rfl) ?_
    refine lv_aload_n C.1 C.2.1 dX6_value_52 rfl (lv_at hl 0 rfl) ?_
    refine g_X6_6 C fl_X6_44 kd_0 S fn_0_6 dX6_value_53 ?_
    refine gn_X5_6 C nf_X6_197 kd_90 S dX6_value_56 ?_
    refine lv_icmp_ge (tgt := 99) C.1 C.2.1 dX6_value_59 (by decide) (fun c1 => ?_) (fun c1 => ?_)
    · replace h := h.1 c1
      refine lv_iload_n C.1 C.2.1 dX6_value_99 rfl (lv_at hl 3 rfl) ?_
      refine lv_if_ne (tgt := 121) C.1 C.2.1 dX6_value_100 (by decide) (fun c2 => ?_) (fun c2 => ?_)
      · replace h := h.1 c2
        refine lv_bipush (v := (-9 : Int32)) C.1 C.2.1 dX6_value_121 (by decide) ?_
        exact hR _ _ _ _ _ _ dX6_value_123 h S
      · replace h := h.2 c2
        refine lv_iload_n C.1 C.2.1 dX6_value_103 rfl (lv_at hl 2 rfl) ?_
        refine lv_if_ne (tgt := 121) C.1 C.2.1 dX6_value_104 (by decide) (fun c3 => ?_) (fun c3 => ?_)
        · replace h := h.1 c3
          refine lv_bipush (v := (-9 : Int32)) C.1 C.2.1 dX6_value_121 (by decide) ?_
          exact hR _ _ _ _ _ _ dX6_value_123 h S
        · replace h := h.2 c3
          refine lv_aload_n C.1 C.2.1 dX6_value_107 rfl (lv_at hl 0 rfl) ?_
          refine g_X6_2 C fl_X6_22 kd_0 S fn_0_2 dX6_value_108 ?_
          refine lv_iload_n C.1 C.2.1 dX6_value_111 rfl (lv_at hl 1 rfl) ?_
          refine k_r (kd := 3) (r_VN (As := [.int x1]) (rest := []) C hml (c_X1_at l G 5 x1 σ _ kd_5 h) kM_X1_at im_X1_at se_X1_at nm_X6_96 ⟨rfl, rfl⟩ ⟨Nat.le_of_ble_eq_true rfl, Nat.le_of_ble_eq_true rfl⟩ hcs S kd_5 (by decide) (T := TX1) (N := 4) rfl rfl hl.1 rfl (Nat.le_of_ble_eq_true rfl) dX6_value_112) S (fun q5 σ4 H locs hq5 h S => ?_)
          replace h := h hq5
          refine gn_X3_4 C nf_X6_198 hq5 S dX6_value_115 ?_
          refine lv_goto (tgt := 123) C.1 C.2.1 dX6_value_118 (by decide) ?_
          exact hR _ _ _ _ _ _ dX6_value_123 h S
    · replace h := h.2 c1
      refine lv_aload_n C.1 C.2.1 dX6_value_62 rfl (lv_at hl 0 rfl) ?_
      refine g_X6_6 C fl_X6_44 kd_0 S fn_0_6 dX6_value_63 ?_
      refine lv_iload C.1 C.2.1 dX6_value_66 (lv_at hl 4 rfl) ?_
      refine k_i (r_VN (As := [.int x4]) (rest := []) C hml (c_X5_memberAt l G x4 σ _ h) kM_X5_memberAt im_X5_memberAt se_X5_memberAt nm_X6_188 ⟨rfl, rfl⟩ ⟨Nat.le_of_ble_eq_true rfl, Nat.le_of_ble_eq_true rfl⟩ hcs S kd_90 (by decide) (T := TX5) (N := 8) rfl rfl hl.1 rfl (Nat.le_of_ble_eq_true rfl) dX6_value_68) S (fun r7 σ6 H locs h S => ?_)
      refine lv_iload_n C.1 C.2.1 dX6_value_71 rfl (lv_at hl 1 rfl) ?_
      refine lv_icmp_ne (tgt := 93) C.1 C.2.1 dX6_value_72 (by decide) (fun c8 => ?_) (fun c8 => ?_)
      · replace h := h.1 c8
        refine lv_iinc (v := (x4 + 1)) (lv' := [(4, .int (x4 + 1)), (0, .ref (G.2.2 + 0)), (1, .int x1), (2, .int x2), (3, .int x3)]) C.1 C.2.1 dX6_value_93 hl (k := 4) rfl rfl (by decide) rfl (fun ls hl => ?_)
        refine lv_goto (tgt := 50) C.1 C.2.1 dX6_value_96 (by decide) ?_
        exact ih x3 ((x4 + 1)) _ _ _ _ S (lv_sub hl [1, 2, 3, 4, 0] rfl) h
      · replace h := h.2 c8
        refine lv_iload_n C.1 C.2.1 dX6_value_75 rfl (lv_at hl 3 rfl) ?_
        refine lv_iload_n C.1 C.2.1 dX6_value_76 rfl (lv_at hl 2 rfl) ?_
        refine lv_icmp_ne (tgt := 90) C.1 C.2.1 dX6_value_77 (by decide) (fun c9 => ?_) (fun c9 => ?_)
        · replace h := h.1 c9
          refine lv_iinc (v := (x3 + 1)) (lv' := [(3, .int (x3 + 1)), (0, .ref (G.2.2 + 0)), (1, .int x1), (2, .int x2), (4, .int x4)]) C.1 C.2.1 dX6_value_90 hl (k := 3) rfl rfl (by decide) rfl (fun ls hl => ?_)
          refine lv_iinc (v := (x4 + 1)) (lv' := [(4, .int (x4 + 1)), (3, .int (x3 + 1)), (0, .ref (G.2.2 + 0)), (1, .int x1), (2, .int x2)]) C.1 C.2.1 dX6_value_93 hl (k := 4) rfl rfl (by decide) rfl (fun ls hl => ?_)
          refine lv_goto (tgt := 50) C.1 C.2.1 dX6_value_96 (by decide) ?_
          exact ih ((x3 + 1)) ((x4 + 1)) _ _ _ _ S (lv_sub hl [2, 3, 4, 1, 0] rfl) h
        · replace h := h.2 c9
          refine lv_aload_n C.1 C.2.1 dX6_value_80 rfl (lv_at hl 0 rfl) ?_
          refine g_X6_6 C fl_X6_44 kd_0 S fn_0_6 dX6_value_81 ?_
          refine lv_iload C.1 C.2.1 dX6_value_84 (lv_at hl 4 rfl) ?_
          refine k_i (r_VN (As := [.int x4]) (rest := []) C hml (c_X5_numberAt l G x4 σ6 _ h) kM_X5_numberAt im_X5_numberAt se_X5_numberAt nm_X6_194 ⟨rfl, rfl⟩ ⟨Nat.le_of_ble_eq_true rfl, Nat.le_of_ble_eq_true rfl⟩ hcs S kd_90 (by decide) (T := TX5) (N := 8) rfl rfl hl.1 rfl (Nat.le_of_ble_eq_true rfl) dX6_value_86) S (fun r11 σ10 H locs h S => ?_)
          exact hR _ _ _ _ _ _ dX6_value_89 h S
theorem kM_X6_value : s_M yX6_value cX6_value 5 (some .int) 2 := ⟨co_X6_value, in_X6, by decide, by decide, by decide +kernel⟩
set_option maxHeartbeats 4000000 in
set_option maxRecDepth 100000 in
theorem c_X6_value (l : Launch) (G : s_G) (x1 : Int32) (x2 : Int32) (σ : Sg) (post : Int32 → Sg → Prop) (h : wpX6_value x1 x2 σ post) : Met l yX6_value (wsU yX6_value cX6_value 5 (some .int)) rm_X6_value (va_Pc [.ref (G.2.2 + 0), .int x1, .int x2] (s_Pre G σ)) (va_Qi post (s_B G) (s_A G.2.2)) 0 0 (s_A G.2.2) := by
  refine Met.ofW (cc := cX6_value) (maxL := 5) (ret := (some .int)) (by decide) rfl ?_
  intro p e s m args below meth c s₁ B hml hv
  obtain ⟨rfl, hP, hrok, hK, hN⟩ := hv
  have C : s_C G p s (([.ref (G.2.2 + 0), .int x1, .int x2] : List Value).toArray) m c RX6 cX6_value := ⟨B.exec, B.bytes, findClass_of_methodNamed B.named, fun w hw => atoms_spec (ws := wsU yX6_value cX6_value 5 (some .int)) B.pre w (List.mem_cons_of_mem _ hw), hK, hN⟩
  have hr := B.returns
  have hlocks := B.notSynchronized
  have S : s_St G σ s.heap s.heap [] := ⟨hP, va_S.rf, hrok⟩
  have hcs : 0 ≤ (rm_X6_value).cells ∧ 0 ≤ (rm_X6_value).slots := ⟨Nat.le_refl 0, Nat.le_refl 0⟩
  have hR : ∀ (r : Int32) (σ1 : Sg) (H : Heap) (locs : List Loc) (pc : Nat) (ls : Array Slot), decode cX6_value pc = .ok (.ireturn, 1) → post r σ1 → s_St G σ1 s.heap H locs → W p l e rm_X6_value s m ([.ref (G.2.2 + 0), .int x1, .int x2] : List Value).toArray below meth c H locs 0 0 (MQ below (va_Qi post (s_B G) (s_A G.2.2)) ([.ref (G.2.2 + 0), .int x1, .int x2] : List Value).toArray s 0 0 (s_A G.2.2)) (F0 m pc ls [.int r]) := fun _ _ _ _ _ _ hd hp S => ret_i C hr hlocks hd hp S
  have hl := lv_entry ([.ref (G.2.2 + 0), .int x1, .int x2]) (n := 5) (Nat.le_of_ble_eq_true rfl)
  rw [lg_entry_eq]
  generalize (lg_sl ([.ref (G.2.2 + 0), .int x1, .int x2]) ++ List.replicate (5 - (lg_sl ([.ref (G.2.2 + 0), .int x1, .int x2])).length) Slot.unset).toArray = ls at hl ⊢
  have hl : lv_has ls 5 [(0, .ref (G.2.2 + 0)), (1, .int x1), (2, .int x2)] := hl
  unfold wpX6_value at h
  refine lv_aload_n C.1 C.2.1 dX6_value_0 rfl (lv_at hl 0 rfl) ?_
  refine g_X6_2 C fl_X6_22 kd_0 S fn_0_2 dX6_value_1 ?_
  refine lv_iload_n C.1 C.2.1 dX6_value_4 rfl (lv_at hl 1 rfl) ?_
  refine k_i (r_VN (As := [.int x1]) (rest := []) C hml (c_X1_has l G 5 x1 σ _ kd_5 h) kM_X1_has im_X1_has se_X1_has nm_X6_89 ⟨rfl, rfl⟩ ⟨Nat.le_of_ble_eq_true rfl, Nat.le_of_ble_eq_true rfl⟩ hcs S kd_5 (by decide) (T := TX1) (N := 4) rfl rfl hl.1 rfl (Nat.le_of_ble_eq_true rfl) dX6_value_5) S (fun r13 σ12 H locs h S => ?_)
  refine lv_if_eq (tgt := 15) C.1 C.2.1 dX6_value_8 (by decide) (fun c14 => ?_) (fun c14 => ?_)
  · replace h := h.1 c14
    refine lv_iconst (v := (-1 : Int32)) C.1 C.2.1 dX6_value_15 (by decide) ?_
    exact hR _ _ _ _ _ _ dX6_value_16 h S
  · replace h := h.2 c14
    refine lv_iload_n C.1 C.2.1 dX6_value_11 rfl (lv_at hl 2 rfl) ?_
    refine lv_if_ge (tgt := 17) C.1 C.2.1 dX6_value_12 (by decide) (fun c15 => ?_) (fun c15 => ?_)
    · replace h := h.1 c15
      refine lv_aload_n C.1 C.2.1 dX6_value_17 rfl (lv_at hl 0 rfl) ?_
      refine g_X6_6 C fl_X6_44 kd_0 S fn_0_6 dX6_value_18 ?_
      refine lv_aload_n C.1 C.2.1 dX6_value_21 rfl (lv_at hl 0 rfl) ?_
      refine g_X6_2 C fl_X6_22 kd_0 S fn_0_2 dX6_value_22 ?_
      refine lv_aload_n C.1 C.2.1 dX6_value_25 rfl (lv_at hl 0 rfl) ?_
      refine g_X6_0 C fl_X6_10 kd_0 S fn_0_0 dX6_value_26 ?_
      refine k_v (r_VN (As := [.ref (G.2.2 + 5), .ref (G.2.2 + 1)]) (rest := []) C hml (c_X5_learn l G σ12 _ h) kM_X5_learn im_X5_learn se_X5_learn nm_X6_164 ⟨rfl, rfl⟩ ⟨Nat.le_of_ble_eq_true rfl, Nat.le_of_ble_eq_true rfl⟩ hcs S kd_90 (by decide) (T := TX5) (N := 8) rfl rfl hl.1 rfl (Nat.le_of_ble_eq_true rfl) dX6_value_29) S (fun σ16 H locs h S => ?_)
      refine lv_aload_n C.1 C.2.1 dX6_value_32 rfl (lv_at hl 0 rfl) ?_
      refine g_X6_6 C fl_X6_44 kd_0 S fn_0_6 dX6_value_33 ?_
      refine k_i (r_VN (As := []) (rest := []) C hml (c_X5_exists l G σ16 _ h) kM_X5_exists im_X5_exists se_X5_exists nm_X6_168 ⟨rfl, rfl⟩ ⟨Nat.le_of_ble_eq_true rfl, Nat.le_of_ble_eq_true rfl⟩ hcs S kd_90 (by decide) (T := TX5) (N := 8) rfl rfl hl.1 rfl (Nat.le_of_ble_eq_true rfl) dX6_value_36) S (fun r18 σ17 H locs h S => ?_)
      refine lv_if_ne (tgt := 45) C.1 C.2.1 dX6_value_39 (by decide) (fun c19 => ?_) (fun c19 => ?_)
      · replace h := h.1 c19
        refine lv_iconst (v := (0 : Int32)) C.1 C.2.1 dX6_value_45 (by decide) ?_
        refine lv_istore_n (lv' := [(3, .int (0 : Int32)), (0, .ref (G.2.2 + 0)), (1, .int x1), (2, .int x2)]) C.1 C.2.1 dX6_value_46 rfl hl (by decide) rfl (fun ls hl => ?_)
        refine lv_iconst (v := (0 : Int32)) C.1 C.2.1 dX6_value_47 (by decide) ?_
        refine lv_istore (lv' := [(4, .int (0 : Int32)), (3, .int (0 : Int32)), (0, .ref (G.2.2 + 0)), (1, .int x1), (2, .int x2)]) C.1 C.2.1 dX6_value_48 hl (by decide) rfl (fun ls hl => ?_)
        obtain ⟨nf, h⟩ := h
        exact TX6_value_50 C hml hcs hR nf ((0 : Int32)) ((0 : Int32)) S (lv_sub hl [2, 3, 4, 1, 0] rfl) h
      · replace h := h.2 c19
        refine lv_bipush (v := (-2 : Int32)) C.1 C.2.1 dX6_value_42 (by decide) ?_
        exact hR _ _ _ _ _ _ dX6_value_44 h S
    · replace h := h.2 c15
      refine lv_iconst (v := (-1 : Int32)) C.1 C.2.1 dX6_value_15 (by decide) ?_
      exact hR _ _ _ _ _ _ dX6_value_16 h S
/-! X6_wipe -/
abbrev rm_X6_wipe : Room := { frames := 1, cells := 0, slots := 0, locals := 20 }
def wpX6_wipe  (σ : Sg) (post : Int32 → Sg → Prop) : Prop := wpX0_clear 1 σ (fun σ1 => wpX5_forget σ1 (fun σ2 => post ((σ.1 1 1)) σ2))
theorem kM_X6_wipe : s_M yX6_wipe cX6_wipe 2 (some .int) 0 := ⟨co_X6_wipe, in_X6, by decide, by decide, by decide +kernel⟩
set_option maxHeartbeats 4000000 in
set_option maxRecDepth 100000 in
theorem c_X6_wipe (l : Launch) (G : s_G)  (σ : Sg) (post : Int32 → Sg → Prop) (h : wpX6_wipe σ post) : Met l yX6_wipe (wsU yX6_wipe cX6_wipe 2 (some .int)) rm_X6_wipe (va_Pc [.ref (G.2.2 + 0)] (s_Pre G σ)) (va_Qi post (s_B G) (s_A G.2.2)) 0 0 (s_A G.2.2) := by
  refine Met.ofW (cc := cX6_wipe) (maxL := 2) (ret := (some .int)) (by decide) rfl ?_
  intro p e s m args below meth c s₁ B hml hv
  obtain ⟨rfl, hP, hrok, hK, hN⟩ := hv
  have C : s_C G p s (([.ref (G.2.2 + 0)] : List Value).toArray) m c RX6 cX6_wipe := ⟨B.exec, B.bytes, findClass_of_methodNamed B.named, fun w hw => atoms_spec (ws := wsU yX6_wipe cX6_wipe 2 (some .int)) B.pre w (List.mem_cons_of_mem _ hw), hK, hN⟩
  have hr := B.returns
  have hlocks := B.notSynchronized
  have S : s_St G σ s.heap s.heap [] := ⟨hP, va_S.rf, hrok⟩
  have hcs : 0 ≤ (rm_X6_wipe).cells ∧ 0 ≤ (rm_X6_wipe).slots := ⟨Nat.le_refl 0, Nat.le_refl 0⟩
  have hR : ∀ (r : Int32) (σ1 : Sg) (H : Heap) (locs : List Loc) (pc : Nat) (ls : Array Slot), decode cX6_wipe pc = .ok (.ireturn, 1) → post r σ1 → s_St G σ1 s.heap H locs → W p l e rm_X6_wipe s m ([.ref (G.2.2 + 0)] : List Value).toArray below meth c H locs 0 0 (MQ below (va_Qi post (s_B G) (s_A G.2.2)) ([.ref (G.2.2 + 0)] : List Value).toArray s 0 0 (s_A G.2.2)) (F0 m pc ls [.int r]) := fun _ _ _ _ _ _ hd hp S => ret_i C hr hlocks hd hp S
  have hl := lv_entry ([.ref (G.2.2 + 0)]) (n := 2) (Nat.le_of_ble_eq_true rfl)
  rw [lg_entry_eq]
  generalize (lg_sl ([.ref (G.2.2 + 0)]) ++ List.replicate (2 - (lg_sl ([.ref (G.2.2 + 0)])).length) Slot.unset).toArray = ls at hl ⊢
  have hl : lv_has ls 2 [(0, .ref (G.2.2 + 0))] := hl
  unfold wpX6_wipe at h
  refine lv_aload_n C.1 C.2.1 dX6_wipe_0 rfl (lv_at hl 0 rfl) ?_
  refine g_X6_0 C fl_X6_10 kd_0 S fn_0_0 dX6_wipe_1 ?_
  refine gn_X0_1 C nf_X6_62 kd_1 S dX6_wipe_4 ?_
  refine lv_istore_n (lv' := [(1, .int (σ.1 1 1)), (0, .ref (G.2.2 + 0))]) C.1 C.2.1 dX6_wipe_7 rfl hl (by decide) rfl (fun ls hl => ?_)
  refine lv_aload_n C.1 C.2.1 dX6_wipe_8 rfl (lv_at hl 1 rfl) ?_
  refine g_X6_0 C fl_X6_10 kd_0 S fn_0_0 dX6_wipe_9 ?_
  refine k_v (r_VN (As := []) (rest := []) C hml (c_X0_clear l G 1 σ _ kd_1 h) kM_X0_clear im_X0_clear se_X0_clear nm_X6_66 ⟨rfl, rfl⟩ ⟨Nat.le_of_ble_eq_true rfl, Nat.le_of_ble_eq_true rfl⟩ hcs S kd_1 (by decide) (T := TX0) (N := 2) rfl rfl hl.1 rfl (Nat.le_of_ble_eq_true rfl) dX6_wipe_12) S (fun σ1 H locs h S => ?_)
  refine lv_aload_n C.1 C.2.1 dX6_wipe_15 rfl (lv_at hl 1 rfl) ?_
  refine g_X6_6 C fl_X6_44 kd_0 S fn_0_6 dX6_wipe_16 ?_
  refine k_v (r_VN (As := []) (rest := []) C hml (c_X5_forget l G σ1 _ h) kM_X5_forget im_X5_forget se_X5_forget nm_X6_59 ⟨rfl, rfl⟩ ⟨Nat.le_of_ble_eq_true rfl, Nat.le_of_ble_eq_true rfl⟩ hcs S kd_90 (by decide) (T := TX5) (N := 8) rfl rfl hl.1 rfl (Nat.le_of_ble_eq_true rfl) dX6_wipe_19) S (fun σ2 H locs h S => ?_)
  refine lv_iload_n C.1 C.2.1 dX6_wipe_22 rfl (lv_at hl 0 rfl) ?_
  exact hR _ _ _ _ _ _ dX6_wipe_23 h S
/-! X6_write -/
abbrev rm_X6_write : Room := { frames := 1, cells := 0, slots := 0, locals := 21 }
def wpX6_write (x1 : Int32) (σ : Sg) (post : Int32 → Sg → Prop) : Prop := (((x1 < (32 : Int32)) → post ((-1 : Int32)) σ) ∧ ((¬ x1 < (32 : Int32)) → (((x1 ≤ (126 : Int32)) → wpX0_append 1 x1 σ (fun r4 σ3 => (((¬ r4 = 0) → wpX5_forget σ3 (fun σ6 => post ((σ6.1 1 1)) σ6)) ∧ ((r4 = 0) → post ((-3 : Int32)) σ3)))) ∧ ((¬ x1 ≤ (126 : Int32)) → post ((-1 : Int32)) σ))))
theorem kM_X6_write : s_M yX6_write cX6_write 2 (some .int) 1 := ⟨co_X6_write, in_X6, by decide, by decide, by decide +kernel⟩
set_option maxHeartbeats 4000000 in
set_option maxRecDepth 100000 in
theorem c_X6_write (l : Launch) (G : s_G) (x1 : Int32) (σ : Sg) (post : Int32 → Sg → Prop) (h : wpX6_write x1 σ post) : Met l yX6_write (wsU yX6_write cX6_write 2 (some .int)) rm_X6_write (va_Pc [.ref (G.2.2 + 0), .int x1] (s_Pre G σ)) (va_Qi post (s_B G) (s_A G.2.2)) 0 0 (s_A G.2.2) := by
  refine Met.ofW (cc := cX6_write) (maxL := 2) (ret := (some .int)) (by decide) rfl ?_
  intro p e s m args below meth c s₁ B hml hv
  obtain ⟨rfl, hP, hrok, hK, hN⟩ := hv
  have C : s_C G p s (([.ref (G.2.2 + 0), .int x1] : List Value).toArray) m c RX6 cX6_write := ⟨B.exec, B.bytes, findClass_of_methodNamed B.named, fun w hw => atoms_spec (ws := wsU yX6_write cX6_write 2 (some .int)) B.pre w (List.mem_cons_of_mem _ hw), hK, hN⟩
  have hr := B.returns
  have hlocks := B.notSynchronized
  have S : s_St G σ s.heap s.heap [] := ⟨hP, va_S.rf, hrok⟩
  have hcs : 0 ≤ (rm_X6_write).cells ∧ 0 ≤ (rm_X6_write).slots := ⟨Nat.le_refl 0, Nat.le_refl 0⟩
  have hR : ∀ (r : Int32) (σ1 : Sg) (H : Heap) (locs : List Loc) (pc : Nat) (ls : Array Slot), decode cX6_write pc = .ok (.ireturn, 1) → post r σ1 → s_St G σ1 s.heap H locs → W p l e rm_X6_write s m ([.ref (G.2.2 + 0), .int x1] : List Value).toArray below meth c H locs 0 0 (MQ below (va_Qi post (s_B G) (s_A G.2.2)) ([.ref (G.2.2 + 0), .int x1] : List Value).toArray s 0 0 (s_A G.2.2)) (F0 m pc ls [.int r]) := fun _ _ _ _ _ _ hd hp S => ret_i C hr hlocks hd hp S
  have hl := lv_entry ([.ref (G.2.2 + 0), .int x1]) (n := 2) (Nat.le_of_ble_eq_true rfl)
  rw [lg_entry_eq]
  generalize (lg_sl ([.ref (G.2.2 + 0), .int x1]) ++ List.replicate (2 - (lg_sl ([.ref (G.2.2 + 0), .int x1])).length) Slot.unset).toArray = ls at hl ⊢
  have hl : lv_has ls 2 [(0, .ref (G.2.2 + 0)), (1, .int x1)] := hl
  unfold wpX6_write at h
  refine lv_iload_n C.1 C.2.1 dX6_write_0 rfl (lv_at hl 1 rfl) ?_
  refine lv_bipush (v := (32 : Int32)) C.1 C.2.1 dX6_write_1 (by decide) ?_
  refine lv_icmp_lt (tgt := 12) C.1 C.2.1 dX6_write_3 (by decide) (fun c1 => ?_) (fun c1 => ?_)
  · replace h := h.1 c1
    refine lv_iconst (v := (-1 : Int32)) C.1 C.2.1 dX6_write_12 (by decide) ?_
    exact hR _ _ _ _ _ _ dX6_write_13 h S
  · replace h := h.2 c1
    refine lv_iload_n C.1 C.2.1 dX6_write_6 rfl (lv_at hl 1 rfl) ?_
    refine lv_bipush (v := (126 : Int32)) C.1 C.2.1 dX6_write_7 (by decide) ?_
    refine lv_icmp_le (tgt := 14) C.1 C.2.1 dX6_write_9 (by decide) (fun c2 => ?_) (fun c2 => ?_)
    · replace h := h.1 c2
      refine lv_aload_n C.1 C.2.1 dX6_write_14 rfl (lv_at hl 0 rfl) ?_
      refine g_X6_0 C fl_X6_10 kd_0 S fn_0_0 dX6_write_15 ?_
      refine lv_iload_n C.1 C.2.1 dX6_write_18 rfl (lv_at hl 1 rfl) ?_
      refine k_i (r_VN (As := [.int x1]) (rest := []) C hml (c_X0_append l G 1 x1 σ _ kd_1 h) kM_X0_append im_X0_append se_X0_append nm_X6_55 ⟨rfl, rfl⟩ ⟨Nat.le_of_ble_eq_true rfl, Nat.le_of_ble_eq_true rfl⟩ hcs S kd_1 (by decide) (T := TX0) (N := 2) rfl rfl hl.1 rfl (Nat.le_of_ble_eq_true rfl) dX6_write_19) S (fun r4 σ3 H locs h S => ?_)
      refine lv_if_ne (tgt := 28) C.1 C.2.1 dX6_write_22 (by decide) (fun c5 => ?_) (fun c5 => ?_)
      · replace h := h.1 c5
        refine lv_aload_n C.1 C.2.1 dX6_write_28 rfl (lv_at hl 0 rfl) ?_
        refine g_X6_6 C fl_X6_44 kd_0 S fn_0_6 dX6_write_29 ?_
        refine k_v (r_VN (As := []) (rest := []) C hml (c_X5_forget l G σ3 _ h) kM_X5_forget im_X5_forget se_X5_forget nm_X6_59 ⟨rfl, rfl⟩ ⟨Nat.le_of_ble_eq_true rfl, Nat.le_of_ble_eq_true rfl⟩ hcs S kd_90 (by decide) (T := TX5) (N := 8) rfl rfl hl.1 rfl (Nat.le_of_ble_eq_true rfl) dX6_write_32) S (fun σ6 H locs h S => ?_)
        refine lv_aload_n C.1 C.2.1 dX6_write_35 rfl (lv_at hl 0 rfl) ?_
        refine g_X6_0 C fl_X6_10 kd_0 S fn_0_0 dX6_write_36 ?_
        refine gn_X0_1 C nf_X6_62 kd_1 S dX6_write_39 ?_
        exact hR _ _ _ _ _ _ dX6_write_42 h S
      · replace h := h.2 c5
        refine lv_bipush (v := (-3 : Int32)) C.1 C.2.1 dX6_write_25 (by decide) ?_
        exact hR _ _ _ _ _ _ dX6_write_27 h S
    · replace h := h.2 c2
      refine lv_iconst (v := (-1 : Int32)) C.1 C.2.1 dX6_write_12 (by decide) ?_
      exact hR _ _ _ _ _ _ dX6_write_13 h S
/-! X7_old -/
abbrev rm_X7_old : Room := { frames := 0, cells := 0, slots := 0, locals := 0 }
def wpX7_old (x1 : Int32) (σ : Sg) (post : Int32 → Sg → Prop) : Prop := (vp_in ((((50 : Int32) * ((σ.1 117 2) - (1 : Int32))) + x1)) 400 ∧ post ((σ.1 119 ((((50 : Int32) * ((σ.1 117 2) - (1 : Int32))) + x1)).toNatClampNeg)) σ)
theorem kM_X7_old : s_M yX7_old cX7_old 2 (some .int) 1 := ⟨co_X7_old, in_X7, by decide, by decide, by decide +kernel⟩
set_option maxHeartbeats 4000000 in
set_option maxRecDepth 100000 in
theorem c_X7_old (l : Launch) (G : s_G) (x1 : Int32) (σ : Sg) (post : Int32 → Sg → Prop) (h : wpX7_old x1 σ post) : Met l yX7_old (wsU yX7_old cX7_old 2 (some .int)) rm_X7_old (va_Pc [.ref (G.2.2 + 117), .int x1] (s_Pre G σ)) (va_Qi post (s_B G) (s_A G.2.2)) 0 0 (s_A G.2.2) := by
  refine Met.ofW (cc := cX7_old) (maxL := 2) (ret := (some .int)) (by decide) rfl ?_
  intro p e s m args below meth c s₁ B hml hv
  obtain ⟨rfl, hP, hrok, hK, hN⟩ := hv
  have C : s_C G p s (([.ref (G.2.2 + 117), .int x1] : List Value).toArray) m c RX7 cX7_old := ⟨B.exec, B.bytes, findClass_of_methodNamed B.named, fun w hw => atoms_spec (ws := wsU yX7_old cX7_old 2 (some .int)) B.pre w (List.mem_cons_of_mem _ hw), hK, hN⟩
  have hr := B.returns
  have hlocks := B.notSynchronized
  have S : s_St G σ s.heap s.heap [] := ⟨hP, va_S.rf, hrok⟩
  have hcs : 0 ≤ (rm_X7_old).cells ∧ 0 ≤ (rm_X7_old).slots := ⟨Nat.le_refl 0, Nat.le_refl 0⟩
  have hR : ∀ (r : Int32) (σ1 : Sg) (H : Heap) (locs : List Loc) (pc : Nat) (ls : Array Slot), decode cX7_old pc = .ok (.ireturn, 1) → post r σ1 → s_St G σ1 s.heap H locs → W p l e rm_X7_old s m ([.ref (G.2.2 + 117), .int x1] : List Value).toArray below meth c H locs 0 0 (MQ below (va_Qi post (s_B G) (s_A G.2.2)) ([.ref (G.2.2 + 117), .int x1] : List Value).toArray s 0 0 (s_A G.2.2)) (F0 m pc ls [.int r]) := fun _ _ _ _ _ _ hd hp S => ret_i C hr hlocks hd hp S
  have hl := lv_entry ([.ref (G.2.2 + 117), .int x1]) (n := 2) (Nat.le_of_ble_eq_true rfl)
  rw [lg_entry_eq]
  generalize (lg_sl ([.ref (G.2.2 + 117), .int x1]) ++ List.replicate (2 - (lg_sl ([.ref (G.2.2 + 117), .int x1])).length) Slot.unset).toArray = ls at hl ⊢
  have hl : lv_has ls 2 [(0, .ref (G.2.2 + 117)), (1, .int x1)] := hl
  unfold wpX7_old at h
  refine lv_aload_n C.1 C.2.1 dX7_old_0 rfl (lv_at hl 0 rfl) ?_
  refine g_X7_1 C fl_X7_13 kd_117 S fn_117_1 dX7_old_1 ?_
  refine lv_bipush (v := (50 : Int32)) C.1 C.2.1 dX7_old_4 (by decide) ?_
  refine lv_aload_n C.1 C.2.1 dX7_old_6 rfl (lv_at hl 0 rfl) ?_
  refine g_X7_2 C fl_X7_52 kd_117 S dX7_old_7 ?_
  refine lv_iconst (v := (1 : Int32)) C.1 C.2.1 dX7_old_10 (by decide) ?_
  refine lv_isub C.1 C.2.1 dX7_old_11 ?_
  refine lv_imul C.1 C.2.1 dX7_old_12 ?_
  refine lv_iload_n C.1 C.2.1 dX7_old_13 rfl (lv_at hl 1 rfl) ?_
  refine lv_iadd C.1 C.2.1 dX7_old_14 ?_
  refine a_ild C kd_119 S ln_119 h.1 dX7_old_15 ?_
  replace h := h.2
  exact hR _ _ _ _ _ _ dX7_old_16 h S
/-! X7_has -/
abbrev rm_X7_has : Room := { frames := 0, cells := 0, slots := 0, locals := 0 }
def wpX7_has (x0 : Int32) (x1 : Int32) (σ : Sg) (post : Int32 → Sg → Prop) : Prop := (((¬ ((x0 >>> (x1 &&& 31)) &&& (1 : Int32)) = (1 : Int32)) → post (0 : Int32) σ) ∧ ((((x0 >>> (x1 &&& 31)) &&& (1 : Int32)) = (1 : Int32)) → post (1 : Int32) σ))
theorem kM_X7_has : s_M yX7_has cX7_has 2 (some .boolean) 2 := ⟨co_X7_has, in_X7, by decide, by decide, by decide +kernel⟩
set_option maxHeartbeats 4000000 in
set_option maxRecDepth 100000 in
theorem c_X7_has (l : Launch) (G : s_G) (x0 : Int32) (x1 : Int32) (σ : Sg) (post : Int32 → Sg → Prop) (h : wpX7_has x0 x1 σ post) : Met l yX7_has (wsU yX7_has cX7_has 2 (some .boolean)) rm_X7_has (va_Pc [.int x0, .int x1] (s_Pre G σ)) (va_Qi post (s_B G) (s_A G.2.2)) 0 0 (s_A G.2.2) := by
  refine Met.ofW (cc := cX7_has) (maxL := 2) (ret := (some .boolean)) (by decide) rfl ?_
  intro p e s m args below meth c s₁ B hml hv
  obtain ⟨rfl, hP, hrok, hK, hN⟩ := hv
  have C : s_C G p s (([.int x0, .int x1] : List Value).toArray) m c RX7 cX7_has := ⟨B.exec, B.bytes, findClass_of_methodNamed B.named, fun w hw => atoms_spec (ws := wsU yX7_has cX7_has 2 (some .boolean)) B.pre w (List.mem_cons_of_mem _ hw), hK, hN⟩
  have hr := B.returns
  have hlocks := B.notSynchronized
  have S : s_St G σ s.heap s.heap [] := ⟨hP, va_S.rf, hrok⟩
  have hcs : 0 ≤ (rm_X7_has).cells ∧ 0 ≤ (rm_X7_has).slots := ⟨Nat.le_refl 0, Nat.le_refl 0⟩
  have hR : ∀ (r : Int32) (σ1 : Sg) (H : Heap) (locs : List Loc) (pc : Nat) (ls : Array Slot), decode cX7_has pc = .ok (.ireturn, 1) → narrow .boolean (.int r) = .int r → post r σ1 → s_St G σ1 s.heap H locs → W p l e rm_X7_has s m ([.int x0, .int x1] : List Value).toArray below meth c H locs 0 0 (MQ below (va_Qi post (s_B G) (s_A G.2.2)) ([.int x0, .int x1] : List Value).toArray s 0 0 (s_A G.2.2)) (F0 m pc ls [.int r]) := fun _ _ _ _ _ _ hd hn hp S => ret_z C hr hlocks hd hn hp S
  have hl := lv_entry ([.int x0, .int x1]) (n := 2) (Nat.le_of_ble_eq_true rfl)
  rw [lg_entry_eq]
  generalize (lg_sl ([.int x0, .int x1]) ++ List.replicate (2 - (lg_sl ([.int x0, .int x1])).length) Slot.unset).toArray = ls at hl ⊢
  have hl : lv_has ls 2 [(0, .int x0), (1, .int x1)] := hl
  unfold wpX7_has at h
  refine lv_iload_n C.1 C.2.1 dX7_has_0 rfl (lv_at hl 0 rfl) ?_
  refine lv_iload_n C.1 C.2.1 dX7_has_1 rfl (lv_at hl 1 rfl) ?_
  refine lv_ishr C.1 C.2.1 dX7_has_2 ?_
  refine lv_iconst (v := (1 : Int32)) C.1 C.2.1 dX7_has_3 (by decide) ?_
  refine lv_iand C.1 C.2.1 dX7_has_4 ?_
  refine lv_iconst (v := (1 : Int32)) C.1 C.2.1 dX7_has_5 (by decide) ?_
  refine lv_icmp_ne (tgt := 13) C.1 C.2.1 dX7_has_6 (by decide) (fun c1 => ?_) (fun c1 => ?_)
  · replace h := h.1 c1
    refine lv_iconst (v := (0 : Int32)) C.1 C.2.1 dX7_has_13 (by decide) ?_
    exact hR _ _ _ _ _ _ dX7_has_14 rfl h S
  · replace h := h.2 c1
    refine lv_iconst (v := (1 : Int32)) C.1 C.2.1 dX7_has_9 (by decide) ?_
    refine lv_goto (tgt := 14) C.1 C.2.1 dX7_has_10 (by decide) ?_
    exact hR _ _ _ _ _ _ dX7_has_14 rfl h S
/-! X7_renamed -/
abbrev rm_X7_renamed : Room := { frames := 1, cells := 0, slots := 0, locals := 21 }
def BX7_renamed_5 (x1 : Int32) (x2 : Int32) (post : Int32 → Sg → Prop) : Nat → Int32 → Int32 → Sg → Prop
  | 0, _, _, _ => False
  | n + 1, x3, x4, σ => (((x2 ≤ x4) → post x3 σ) ∧ ((¬ x2 ≤ x4) → (vp_in x4 6 ∧ wpX7_has x1 ((σ.1 122 (x4).toNatClampNeg)) σ (fun r3 σ2 => (((r3 = 0) → BX7_renamed_5 x1 x2 post n ((x3 ||| (0 : Int32))) ((x4 + 1)) σ2) ∧ ((¬ r3 = 0) → BX7_renamed_5 x1 x2 post n ((x3 ||| ((1 : Int32) <<< (x4 &&& 31)))) ((x4 + 1)) σ2))))))
def wpX7_renamed (x1 : Int32) (x2 : Int32) (σ : Sg) (post : Int32 → Sg → Prop) : Prop := ∃ nf, BX7_renamed_5 x1 x2 post nf ((0 : Int32)) ((0 : Int32)) σ
set_option maxHeartbeats 4000000 in
set_option maxRecDepth 100000 in
theorem TX7_renamed_5 (C : s_C G p s args m c RX7 cX7_renamed) (hml : c.maxLocals = 5) (hcs : cells ≤ (rm_X7_renamed).cells ∧ slots ≤ (rm_X7_renamed).slots) {x1 : Int32} {x2 : Int32} {post : Int32 → Sg → Prop} (hR : ∀ (r : Int32) (σ1 : Sg) (H : Heap) (locs : List Loc) (pc : Nat) (ls : Array Slot), decode cX7_renamed pc = .ok (.ireturn, 1) → post r σ1 → s_St G σ1 H0 H locs → W p l e rm_X7_renamed s m args below meth c H locs cells slots Q (F0 m pc ls [.int r])) : ∀ (n : Nat) (x3 : Int32) (x4 : Int32), ∀ {σ : Sg} {H : Heap} {locs : List Loc} {ls : Array Slot}, s_St G σ H0 H locs → lv_has ls 5 [(0, .ref (G.2.2 + 117)), (1, .int x1), (2, .int x2), (3, .int x3), (4, .int x4)] → BX7_renamed_5 x1 x2 post n x3 x4 σ → W p l e rm_X7_renamed s m args below meth c H locs cells slots Q (F0 m 5 ls []) := by
  intro n
  induction n with
  | zero =>
    intro x3 x4  σ H locs ls S hl h
    exact absurd h (fun h => h)
  | succ n ih0 =>
    have ih : ∀ (x3 : Int32) (x4 : Int32), ∀ (σ : Sg) (H : Heap) (locs : List Loc) (ls : Array Slot), s_St G σ H0 H locs → lv_has ls 5 [(0, .ref (G.2.2 + 117)), (1, .int x1), (2, .int x2), (3, .int x3), (4, .int x4)] → BX7_renamed_5 x1 x2 post n x3 x4 σ → W p l e rm_X7_renamed s m args below meth c H locs cells slots Q (F0 m 5 ls []) := fun x3 x4  _ _ _ _ => ih0 x3 x4 
    intro x3 x4  σ H locs ls S hl h
    refine lv_iload C.1 C.2.1 dX7_renamed_5 (lv_at hl 4 rfl) ?_
    refine lv_iload_n C.1 C.2.1 dX7_renamed_7 rfl (lv_at hl 2 rfl) ?_
    refine lv_icmp_ge (tgt := 42) C.1 C.2.1 dX7_renamed_8 (by decide) (fun c1 => ?_) (fun c1 => ?_)
    · replace h := h.1 c1
      refine lv_iload_n C.1 C.2.1 dX7_renamed_42 rfl (lv_at hl 3 rfl) ?_
      exact hR _ _ _ _ _ _ dX7_renamed_43 h S
    · replace h := h.2 c1
      refine lv_iload_n C.1 C.2.1 dX7_renamed_11 rfl (lv_at hl 3 rfl) ?_
      refine lv_iload_n C.1 C.2.1 dX7_renamed_12 rfl (lv_at hl 1 rfl) ?_
      refine lv_aload_n C.1 C.2.1 dX7_renamed_13 rfl (lv_at hl 0 rfl) ?_
      refine g_X7_7 C fl_X7_22 kd_117 S fn_117_7 dX7_renamed_14 ?_
      refine lv_iload C.1 C.2.1 dX7_renamed_17 (lv_at hl 4 rfl) ?_
      refine a_ild C kd_122 S ln_122 h.1 dX7_renamed_19 ?_
      replace h := h.2
      refine k_i (r_S (As := [.int x1, .int (σ.1 122 (x4).toNatClampNeg)]) (rest := [.int x3]) C hml (c_X7_has l G x1 ((σ.1 122 (x4).toNatClampNeg)) σ _ h) kM_X7_has st_X7_has ml_X7_89 ⟨rfl, rfl⟩ ⟨Nat.le_of_ble_eq_true rfl, Nat.le_of_ble_eq_true rfl⟩ hcs S rfl hl.1 rfl (Nat.le_of_ble_eq_true rfl) dX7_renamed_20) S (fun r3 σ2 H locs h S => ?_)
      refine lv_if_eq (tgt := 33) C.1 C.2.1 dX7_renamed_23 (by decide) (fun c4 => ?_) (fun c4 => ?_)
      · replace h := h.1 c4
        refine lv_iconst (v := (0 : Int32)) C.1 C.2.1 dX7_renamed_33 (by decide) ?_
        refine lv_ior C.1 C.2.1 dX7_renamed_34 ?_
        refine lv_istore_n (lv' := [(3, .int (x3 ||| (0 : Int32))), (0, .ref (G.2.2 + 117)), (1, .int x1), (2, .int x2), (4, .int x4)]) C.1 C.2.1 dX7_renamed_35 rfl hl (by decide) rfl (fun ls hl => ?_)
        refine lv_iinc (v := (x4 + 1)) (lv' := [(4, .int (x4 + 1)), (3, .int (x3 ||| (0 : Int32))), (0, .ref (G.2.2 + 117)), (1, .int x1), (2, .int x2)]) C.1 C.2.1 dX7_renamed_36 hl (k := 4) rfl rfl (by decide) rfl (fun ls hl => ?_)
        refine lv_goto (tgt := 5) C.1 C.2.1 dX7_renamed_39 (by decide) ?_
        exact ih ((x3 ||| (0 : Int32))) ((x4 + 1)) _ _ _ _ S (lv_sub hl [2, 3, 4, 1, 0] rfl) h
      · replace h := h.2 c4
        refine lv_iconst (v := (1 : Int32)) C.1 C.2.1 dX7_renamed_26 (by decide) ?_
        refine lv_iload C.1 C.2.1 dX7_renamed_27 (lv_at hl 4 rfl) ?_
        refine lv_ishl C.1 C.2.1 dX7_renamed_29 ?_
        refine lv_goto (tgt := 34) C.1 C.2.1 dX7_renamed_30 (by decide) ?_
        refine lv_ior C.1 C.2.1 dX7_renamed_34 ?_
        refine lv_istore_n (lv' := [(3, .int (x3 ||| ((1 : Int32) <<< (x4 &&& 31)))), (0, .ref (G.2.2 + 117)), (1, .int x1), (2, .int x2), (4, .int x4)]) C.1 C.2.1 dX7_renamed_35 rfl hl (by decide) rfl (fun ls hl => ?_)
        refine lv_iinc (v := (x4 + 1)) (lv' := [(4, .int (x4 + 1)), (3, .int (x3 ||| ((1 : Int32) <<< (x4 &&& 31)))), (0, .ref (G.2.2 + 117)), (1, .int x1), (2, .int x2)]) C.1 C.2.1 dX7_renamed_36 hl (k := 4) rfl rfl (by decide) rfl (fun ls hl => ?_)
        refine lv_goto (tgt := 5) C.1 C.2.1 dX7_renamed_39 (by decide) ?_
        exact ih ((x3 ||| ((1 : Int32) <<< (x4 &&& 31)))) ((x4 + 1)) _ _ _ _ S (lv_sub hl [2, 3, 4, 1, 0] rfl) h
theorem kM_X7_renamed : s_M yX7_renamed cX7_renamed 5 (some .int) 2 := ⟨co_X7_renamed, in_X7, by decide, by decide, by decide +kernel⟩
set_option maxHeartbeats 4000000 in
set_option maxRecDepth 100000 in
theorem c_X7_renamed (l : Launch) (G : s_G) (x1 : Int32) (x2 : Int32) (σ : Sg) (post : Int32 → Sg → Prop) (h : wpX7_renamed x1 x2 σ post) : Met l yX7_renamed (wsU yX7_renamed cX7_renamed 5 (some .int)) rm_X7_renamed (va_Pc [.ref (G.2.2 + 117), .int x1, .int x2] (s_Pre G σ)) (va_Qi post (s_B G) (s_A G.2.2)) 0 0 (s_A G.2.2) := by
  refine Met.ofW (cc := cX7_renamed) (maxL := 5) (ret := (some .int)) (by decide) rfl ?_
  intro p e s m args below meth c s₁ B hml hv
  obtain ⟨rfl, hP, hrok, hK, hN⟩ := hv
  have C : s_C G p s (([.ref (G.2.2 + 117), .int x1, .int x2] : List Value).toArray) m c RX7 cX7_renamed := ⟨B.exec, B.bytes, findClass_of_methodNamed B.named, fun w hw => atoms_spec (ws := wsU yX7_renamed cX7_renamed 5 (some .int)) B.pre w (List.mem_cons_of_mem _ hw), hK, hN⟩
  have hr := B.returns
  have hlocks := B.notSynchronized
  have S : s_St G σ s.heap s.heap [] := ⟨hP, va_S.rf, hrok⟩
  have hcs : 0 ≤ (rm_X7_renamed).cells ∧ 0 ≤ (rm_X7_renamed).slots := ⟨Nat.le_refl 0, Nat.le_refl 0⟩
  have hR : ∀ (r : Int32) (σ1 : Sg) (H : Heap) (locs : List Loc) (pc : Nat) (ls : Array Slot), decode cX7_renamed pc = .ok (.ireturn, 1) → post r σ1 → s_St G σ1 s.heap H locs → W p l e rm_X7_renamed s m ([.ref (G.2.2 + 117), .int x1, .int x2] : List Value).toArray below meth c H locs 0 0 (MQ below (va_Qi post (s_B G) (s_A G.2.2)) ([.ref (G.2.2 + 117), .int x1, .int x2] : List Value).toArray s 0 0 (s_A G.2.2)) (F0 m pc ls [.int r]) := fun _ _ _ _ _ _ hd hp S => ret_i C hr hlocks hd hp S
  have hl := lv_entry ([.ref (G.2.2 + 117), .int x1, .int x2]) (n := 5) (Nat.le_of_ble_eq_true rfl)
  rw [lg_entry_eq]
  generalize (lg_sl ([.ref (G.2.2 + 117), .int x1, .int x2]) ++ List.replicate (5 - (lg_sl ([.ref (G.2.2 + 117), .int x1, .int x2])).length) Slot.unset).toArray = ls at hl ⊢
  have hl : lv_has ls 5 [(0, .ref (G.2.2 + 117)), (1, .int x1), (2, .int x2)] := hl
  unfold wpX7_renamed at h
  refine lv_iconst (v := (0 : Int32)) C.1 C.2.1 dX7_renamed_0 (by decide) ?_
  refine lv_istore_n (lv' := [(3, .int (0 : Int32)), (0, .ref (G.2.2 + 117)), (1, .int x1), (2, .int x2)]) C.1 C.2.1 dX7_renamed_1 rfl hl (by decide) rfl (fun ls hl => ?_)
  refine lv_iconst (v := (0 : Int32)) C.1 C.2.1 dX7_renamed_2 (by decide) ?_
  refine lv_istore (lv' := [(4, .int (0 : Int32)), (3, .int (0 : Int32)), (0, .ref (G.2.2 + 117)), (1, .int x1), (2, .int x2)]) C.1 C.2.1 dX7_renamed_3 hl (by decide) rfl (fun ls hl => ?_)
  obtain ⟨nf, h⟩ := h
  exact TX7_renamed_5 C hml hcs hR nf ((0 : Int32)) ((0 : Int32)) S (lv_sub hl [2, 3, 4, 1, 0] rfl) h
/-! X7_arrange -/
abbrev rm_X7_arrange : Room := { frames := 2, cells := 0, slots := 0, locals := 45 }
def BX7_arrange_17 (x1 : Int32) (K2 : Int32 → Sg → Prop) (post : Sg → Prop) : Nat → Int32 → Int32 → Int32 → Sg → Prop
  | 0, _, _, _, _ => False
  | n + 1, x2, x3, x4, σ => ((((3 : Int32) ≤ x4) → wpX7_old (((20 : Int32) + x3)) σ (fun r3 σ2 => (vp_in (((20 : Int32) + x2)) 50 ∧ (∀ σ4 : Sg, σ4 = setI σ2 118 (((20 : Int32) + x2)).toNatClampNeg r3 → wpX7_old (((26 : Int32) + x3)) σ4 (fun r7 σ6 => (vp_in (((26 : Int32) + x2)) 50 ∧ (∀ σ8 : Sg, σ8 = setI σ6 118 (((26 : Int32) + x2)).toNatClampNeg r7 → wpX7_old (((32 : Int32) + x3)) σ8 (fun r11 σ10 => (vp_in (((32 : Int32) + x2)) 50 ∧ (∀ σ12 : Sg, σ12 = setI σ10 118 (((32 : Int32) + x2)).toNatClampNeg r11 → wpX7_old (((38 : Int32) + x3)) σ12 (fun r15 σ14 => (vp_in (((38 : Int32) + x2)) 50 ∧ (∀ σ16 : Sg, σ16 = setI σ14 118 (((38 : Int32) + x2)).toNatClampNeg r15 → wpX7_old (((44 : Int32) + x3)) σ16 (fun r19 σ18 => wpX7_renamed r19 x1 σ18 (fun r21 σ20 => (vp_in (((44 : Int32) + x2)) 50 ∧ (∀ σ22 : Sg, σ22 = setI σ20 118 (((44 : Int32) + x2)).toNatClampNeg r21 → K2 ((x2 + 1)) σ22))))))))))))))))) ∧ ((¬ (3 : Int32) ≤ x4) → wpX7_old ((((2 : Int32) + ((3 : Int32) * x3)) + x4)) σ (fun r25 σ24 => (vp_in ((((2 : Int32) + ((3 : Int32) * x2)) + x4)) 50 ∧ (∀ σ26 : Sg, σ26 = setI σ24 118 ((((2 : Int32) + ((3 : Int32) * x2)) + x4)).toNatClampNeg r25 → BX7_arrange_17 x1 K2 post n x2 x3 ((x4 + 1)) σ26)))))
def BX7_arrange_2 (x1 : Int32) (post : Sg → Prop) : Nat → Int32 → Sg → Prop
  | 0, _, _ => False
  | n + 1, x2, σ => (((x1 ≤ x2) → (vp_in ((0 : Int32)) 50 ∧ (∀ σ29 : Sg, σ29 = setI σ 118 ((0 : Int32)).toNatClampNeg x1 → post σ29))) ∧ ((¬ x1 ≤ x2) → (vp_in x2 6 ∧ ∃ nf, BX7_arrange_17 x1 (BX7_arrange_2 x1 post n) post nf x2 ((σ.1 122 (x2).toNatClampNeg)) ((0 : Int32)) σ)))
def wpX7_arrange (x1 : Int32) (σ : Sg) (post : Sg → Prop) : Prop := ∃ nf, BX7_arrange_2 x1 post nf ((0 : Int32)) σ
set_option maxHeartbeats 4000000 in
set_option maxRecDepth 100000 in
theorem TX7_arrange_17 (C : s_C G p s args m c RX7 cX7_arrange) (hml : c.maxLocals = 5) (hcs : cells ≤ (rm_X7_arrange).cells ∧ slots ≤ (rm_X7_arrange).slots) {x1 : Int32} {K2 : Int32 → Sg → Prop} {post : Sg → Prop} (hR : ∀ (σ1 : Sg) (H : Heap) (locs : List Loc) (pc : Nat) (ls : Array Slot), decode cX7_arrange pc = .ok (.return_, 1) → post σ1 → s_St G σ1 H0 H locs → W p l e rm_X7_arrange s m args below meth c H locs cells slots Q (F0 m pc ls [])) (hK2 : ∀ (x2 : Int32), ∀ (σ : Sg) (H : Heap) (locs : List Loc) (ls : Array Slot), s_St G σ H0 H locs → lv_has ls 5 [(0, .ref (G.2.2 + 117)), (1, .int x1), (2, .int x2)] → K2 x2 σ → W p l e rm_X7_arrange s m args below meth c H locs cells slots Q (F0 m 2 ls [])) : ∀ (n : Nat) (x2 : Int32) (x3 : Int32) (x4 : Int32), ∀ {σ : Sg} {H : Heap} {locs : List Loc} {ls : Array Slot}, s_St G σ H0 H locs → lv_has ls 5 [(0, .ref (G.2.2 + 117)), (1, .int x1), (2, .int x2), (3, .int x3), (4, .int x4)] → BX7_arrange_17 x1 K2 post n x2 x3 x4 σ → W p l e rm_X7_arrange s m args below meth c H locs cells slots Q (F0 m 17 ls []) := by
  intro n
  induction n with
  | zero =>
    intro x2 x3 x4  σ H locs ls S hl h
    exact absurd h (fun h => h)
  | succ n ih0 =>
    have ih : ∀ (x2 : Int32) (x3 : Int32) (x4 : Int32), ∀ (σ : Sg) (H : Heap) (locs : List Loc) (ls : Array Slot), s_St G σ H0 H locs → lv_has ls 5 [(0, .ref (G.2.2 + 117)), (1, .int x1), (2, .int x2), (3, .int x3), (4, .int x4)] → BX7_arrange_17 x1 K2 post n x2 x3 x4 σ → W p l e rm_X7_arrange s m args below meth c H locs cells slots Q (F0 m 17 ls []) := fun x2 x3 x4  _ _ _ _ => ih0 x2 x3 x4 
    intro x2 x3 x4  σ H locs ls S hl h
    refine lv_iload C.1 C.2.1 dX7_arrange_17 (lv_at hl 4 rfl) ?_
    refine lv_iconst (v := (3 : Int32)) C.1 C.2.1 dX7_arrange_19 (by decide) ?_
    refine lv_icmp_ge (tgt := 54) C.1 C.2.1 dX7_arrange_20 (by decide) (fun c1 => ?_) (fun c1 => ?_)
    · replace h := h.1 c1
      refine lv_aload_n C.1 C.2.1 dX7_arrange_54 rfl (lv_at hl 0 rfl) ?_
      refine g_X7_0 C fl_X7_7 kd_117 S fn_117_0 dX7_arrange_55 ?_
      refine lv_bipush (v := (20 : Int32)) C.1 C.2.1 dX7_arrange_58 (by decide) ?_
      refine lv_iload_n C.1 C.2.1 dX7_arrange_60 rfl (lv_at hl 2 rfl) ?_
      refine lv_iadd C.1 C.2.1 dX7_arrange_61 ?_
      refine lv_aload_n C.1 C.2.1 dX7_arrange_62 rfl (lv_at hl 0 rfl) ?_
      refine lv_bipush (v := (20 : Int32)) C.1 C.2.1 dX7_arrange_63 (by decide) ?_
      refine lv_iload_n C.1 C.2.1 dX7_arrange_65 rfl (lv_at hl 3 rfl) ?_
      refine lv_iadd C.1 C.2.1 dX7_arrange_66 ?_
      refine k_i (r_V (As := [.int ((20 : Int32) + x3)]) (rest := [.int ((20 : Int32) + x2), .ref (G.2.2 + 118)]) C hml (c_X7_old l G (((20 : Int32) + x3)) σ _ h) kM_X7_old im_X7_old se_X7_old ml_X7_93 ⟨rfl, rfl⟩ ⟨Nat.le_of_ble_eq_true rfl, Nat.le_of_ble_eq_true rfl⟩ hcs S kd_117 (by decide) (T := TX7) (N := 17) rfl rfl hl.1 rfl (Nat.le_of_ble_eq_true rfl) dX7_arrange_67) S (fun r3 σ2 H locs h S => ?_)
      refine a_ist C kd_118 S ln_118 h.1 dX7_arrange_70 (fun σ4 H locs e5 S => ?_)
      replace h := h.2 σ4 e5
      refine lv_aload_n C.1 C.2.1 dX7_arrange_71 rfl (lv_at hl 0 rfl) ?_
      refine g_X7_0 C fl_X7_7 kd_117 S fn_117_0 dX7_arrange_72 ?_
      refine lv_bipush (v := (26 : Int32)) C.1 C.2.1 dX7_arrange_75 (by decide) ?_
      refine lv_iload_n C.1 C.2.1 dX7_arrange_77 rfl (lv_at hl 2 rfl) ?_
      refine lv_iadd C.1 C.2.1 dX7_arrange_78 ?_
      refine lv_aload_n C.1 C.2.1 dX7_arrange_79 rfl (lv_at hl 0 rfl) ?_
      refine lv_bipush (v := (26 : Int32)) C.1 C.2.1 dX7_arrange_80 (by decide) ?_
      refine lv_iload_n C.1 C.2.1 dX7_arrange_82 rfl (lv_at hl 3 rfl) ?_
      refine lv_iadd C.1 C.2.1 dX7_arrange_83 ?_
      refine k_i (r_V (As := [.int ((26 : Int32) + x3)]) (rest := [.int ((26 : Int32) + x2), .ref (G.2.2 + 118)]) C hml (c_X7_old l G (((26 : Int32) + x3)) σ4 _ h) kM_X7_old im_X7_old se_X7_old ml_X7_93 ⟨rfl, rfl⟩ ⟨Nat.le_of_ble_eq_true rfl, Nat.le_of_ble_eq_true rfl⟩ hcs S kd_117 (by decide) (T := TX7) (N := 17) rfl rfl hl.1 rfl (Nat.le_of_ble_eq_true rfl) dX7_arrange_84) S (fun r7 σ6 H locs h S => ?_)
      refine a_ist C kd_118 S ln_118 h.1 dX7_arrange_87 (fun σ8 H locs e9 S => ?_)
      replace h := h.2 σ8 e9
      refine lv_aload_n C.1 C.2.1 dX7_arrange_88 rfl (lv_at hl 0 rfl) ?_
      refine g_X7_0 C fl_X7_7 kd_117 S fn_117_0 dX7_arrange_89 ?_
      refine lv_bipush (v := (32 : Int32)) C.1 C.2.1 dX7_arrange_92 (by decide) ?_
      refine lv_iload_n C.1 C.2.1 dX7_arrange_94 rfl (lv_at hl 2 rfl) ?_
      refine lv_iadd C.1 C.2.1 dX7_arrange_95 ?_
      refine lv_aload_n C.1 C.2.1 dX7_arrange_96 rfl (lv_at hl 0 rfl) ?_
      refine lv_bipush (v := (32 : Int32)) C.1 C.2.1 dX7_arrange_97 (by decide) ?_
      refine lv_iload_n C.1 C.2.1 dX7_arrange_99 rfl (lv_at hl 3 rfl) ?_
      refine lv_iadd C.1 C.2.1 dX7_arrange_100 ?_
      refine k_i (r_V (As := [.int ((32 : Int32) + x3)]) (rest := [.int ((32 : Int32) + x2), .ref (G.2.2 + 118)]) C hml (c_X7_old l G (((32 : Int32) + x3)) σ8 _ h) kM_X7_old im_X7_old se_X7_old ml_X7_93 ⟨rfl, rfl⟩ ⟨Nat.le_of_ble_eq_true rfl, Nat.le_of_ble_eq_true rfl⟩ hcs S kd_117 (by decide) (T := TX7) (N := 17) rfl rfl hl.1 rfl (Nat.le_of_ble_eq_true rfl) dX7_arrange_101) S (fun r11 σ10 H locs h S => ?_)
      refine a_ist C kd_118 S ln_118 h.1 dX7_arrange_104 (fun σ12 H locs e13 S => ?_)
      replace h := h.2 σ12 e13
      refine lv_aload_n C.1 C.2.1 dX7_arrange_105 rfl (lv_at hl 0 rfl) ?_
      refine g_X7_0 C fl_X7_7 kd_117 S fn_117_0 dX7_arrange_106 ?_
      refine lv_bipush (v := (38 : Int32)) C.1 C.2.1 dX7_arrange_109 (by decide) ?_
      refine lv_iload_n C.1 C.2.1 dX7_arrange_111 rfl (lv_at hl 2 rfl) ?_
      refine lv_iadd C.1 C.2.1 dX7_arrange_112 ?_
      refine lv_aload_n C.1 C.2.1 dX7_arrange_113 rfl (lv_at hl 0 rfl) ?_
      refine lv_bipush (v := (38 : Int32)) C.1 C.2.1 dX7_arrange_114 (by decide) ?_
      refine lv_iload_n C.1 C.2.1 dX7_arrange_116 rfl (lv_at hl 3 rfl) ?_
      refine lv_iadd C.1 C.2.1 dX7_arrange_117 ?_
      refine k_i (r_V (As := [.int ((38 : Int32) + x3)]) (rest := [.int ((38 : Int32) + x2), .ref (G.2.2 + 118)]) C hml (c_X7_old l G (((38 : Int32) + x3)) σ12 _ h) kM_X7_old im_X7_old se_X7_old ml_X7_93 ⟨rfl, rfl⟩ ⟨Nat.le_of_ble_eq_true rfl, Nat.le_of_ble_eq_true rfl⟩ hcs S kd_117 (by decide) (T := TX7) (N := 17) rfl rfl hl.1 rfl (Nat.le_of_ble_eq_true rfl) dX7_arrange_118) S (fun r15 σ14 H locs h S => ?_)
      refine a_ist C kd_118 S ln_118 h.1 dX7_arrange_121 (fun σ16 H locs e17 S => ?_)
      replace h := h.2 σ16 e17
      refine lv_aload_n C.1 C.2.1 dX7_arrange_122 rfl (lv_at hl 0 rfl) ?_
      refine g_X7_0 C fl_X7_7 kd_117 S fn_117_0 dX7_arrange_123 ?_
      refine lv_bipush (v := (44 : Int32)) C.1 C.2.1 dX7_arrange_126 (by decide) ?_
      refine lv_iload_n C.1 C.2.1 dX7_arrange_128 rfl (lv_at hl 2 rfl) ?_
      refine lv_iadd C.1 C.2.1 dX7_arrange_129 ?_
      refine lv_aload_n C.1 C.2.1 dX7_arrange_130 rfl (lv_at hl 0 rfl) ?_
      refine lv_aload_n C.1 C.2.1 dX7_arrange_131 rfl (lv_at hl 0 rfl) ?_
      refine lv_bipush (v := (44 : Int32)) C.1 C.2.1 dX7_arrange_132 (by decide) ?_
      refine lv_iload_n C.1 C.2.1 dX7_arrange_134 rfl (lv_at hl 3 rfl) ?_
      refine lv_iadd C.1 C.2.1 dX7_arrange_135 ?_
      refine k_i (r_V (As := [.int ((44 : Int32) + x3)]) (rest := [.ref (G.2.2 + 117), .int ((44 : Int32) + x2), .ref (G.2.2 + 118)]) C hml (c_X7_old l G (((44 : Int32) + x3)) σ16 _ h) kM_X7_old im_X7_old se_X7_old ml_X7_93 ⟨rfl, rfl⟩ ⟨Nat.le_of_ble_eq_true rfl, Nat.le_of_ble_eq_true rfl⟩ hcs S kd_117 (by decide) (T := TX7) (N := 17) rfl rfl hl.1 rfl (Nat.le_of_ble_eq_true rfl) dX7_arrange_136) S (fun r19 σ18 H locs h S => ?_)
      refine lv_iload_n C.1 C.2.1 dX7_arrange_139 rfl (lv_at hl 1 rfl) ?_
      refine k_i (r_V (As := [.int r19, .int x1]) (rest := [.int ((44 : Int32) + x2), .ref (G.2.2 + 118)]) C hml (c_X7_renamed l G r19 x1 σ18 _ h) kM_X7_renamed im_X7_renamed se_X7_renamed ml_X7_96 ⟨rfl, rfl⟩ ⟨Nat.le_of_ble_eq_true rfl, Nat.le_of_ble_eq_true rfl⟩ hcs S kd_117 (by decide) (T := TX7) (N := 17) rfl rfl hl.1 rfl (Nat.le_of_ble_eq_true rfl) dX7_arrange_140) S (fun r21 σ20 H locs h S => ?_)
      refine a_ist C kd_118 S ln_118 h.1 dX7_arrange_143 (fun σ22 H locs e23 S => ?_)
      replace h := h.2 σ22 e23
      refine lv_iinc (v := (x2 + 1)) (lv' := [(2, .int (x2 + 1)), (0, .ref (G.2.2 + 117)), (1, .int x1), (3, .int x3), (4, .int x4)]) C.1 C.2.1 dX7_arrange_144 hl (k := 2) rfl rfl (by decide) rfl (fun ls hl => ?_)
      refine lv_goto (tgt := 2) C.1 C.2.1 dX7_arrange_147 (by decide) ?_
      exact hK2 ((x2 + 1)) _ _ _ _ S (lv_sub hl [1, 2, 0] rfl) h
    · replace h := h.2 c1
      refine lv_aload_n C.1 C.2.1 dX7_arrange_23 rfl (lv_at hl 0 rfl) ?_
      refine g_X7_0 C fl_X7_7 kd_117 S fn_117_0 dX7_arrange_24 ?_
      refine lv_iconst (v := (2 : Int32)) C.1 C.2.1 dX7_arrange_27 (by decide) ?_
      refine lv_iconst (v := (3 : Int32)) C.1 C.2.1 dX7_arrange_28 (by decide) ?_
      refine lv_iload_n C.1 C.2.1 dX7_arrange_29 rfl (lv_at hl 2 rfl) ?_
      refine lv_imul C.1 C.2.1 dX7_arrange_30 ?_
      refine lv_iadd C.1 C.2.1 dX7_arrange_31 ?_
      refine lv_iload C.1 C.2.1 dX7_arrange_32 (lv_at hl 4 rfl) ?_
      refine lv_iadd C.1 C.2.1 dX7_arrange_34 ?_
      refine lv_aload_n C.1 C.2.1 dX7_arrange_35 rfl (lv_at hl 0 rfl) ?_
      refine lv_iconst (v := (2 : Int32)) C.1 C.2.1 dX7_arrange_36 (by decide) ?_
      refine lv_iconst (v := (3 : Int32)) C.1 C.2.1 dX7_arrange_37 (by decide) ?_
      refine lv_iload_n C.1 C.2.1 dX7_arrange_38 rfl (lv_at hl 3 rfl) ?_
      refine lv_imul C.1 C.2.1 dX7_arrange_39 ?_
      refine lv_iadd C.1 C.2.1 dX7_arrange_40 ?_
      refine lv_iload C.1 C.2.1 dX7_arrange_41 (lv_at hl 4 rfl) ?_
      refine lv_iadd C.1 C.2.1 dX7_arrange_43 ?_
      refine k_i (r_V (As := [.int (((2 : Int32) + ((3 : Int32) * x3)) + x4)]) (rest := [.int (((2 : Int32) + ((3 : Int32) * x2)) + x4), .ref (G.2.2 + 118)]) C hml (c_X7_old l G ((((2 : Int32) + ((3 : Int32) * x3)) + x4)) σ _ h) kM_X7_old im_X7_old se_X7_old ml_X7_93 ⟨rfl, rfl⟩ ⟨Nat.le_of_ble_eq_true rfl, Nat.le_of_ble_eq_true rfl⟩ hcs S kd_117 (by decide) (T := TX7) (N := 17) rfl rfl hl.1 rfl (Nat.le_of_ble_eq_true rfl) dX7_arrange_44) S (fun r25 σ24 H locs h S => ?_)
      refine a_ist C kd_118 S ln_118 h.1 dX7_arrange_47 (fun σ26 H locs e27 S => ?_)
      replace h := h.2 σ26 e27
      refine lv_iinc (v := (x4 + 1)) (lv' := [(4, .int (x4 + 1)), (0, .ref (G.2.2 + 117)), (1, .int x1), (2, .int x2), (3, .int x3)]) C.1 C.2.1 dX7_arrange_48 hl (k := 4) rfl rfl (by decide) rfl (fun ls hl => ?_)
      refine lv_goto (tgt := 17) C.1 C.2.1 dX7_arrange_51 (by decide) ?_
      exact ih x2 x3 ((x4 + 1)) _ _ _ _ S (lv_sub hl [1, 2, 3, 4, 0] rfl) h
set_option maxHeartbeats 4000000 in
set_option maxRecDepth 100000 in
theorem TX7_arrange_2 (C : s_C G p s args m c RX7 cX7_arrange) (hml : c.maxLocals = 5) (hcs : cells ≤ (rm_X7_arrange).cells ∧ slots ≤ (rm_X7_arrange).slots) {x1 : Int32} {post : Sg → Prop} (hR : ∀ (σ1 : Sg) (H : Heap) (locs : List Loc) (pc : Nat) (ls : Array Slot), decode cX7_arrange pc = .ok (.return_, 1) → post σ1 → s_St G σ1 H0 H locs → W p l e rm_X7_arrange s m args below meth c H locs cells slots Q (F0 m pc ls [])) : ∀ (n : Nat) (x2 : Int32), ∀ {σ : Sg} {H : Heap} {locs : List Loc} {ls : Array Slot}, s_St G σ H0 H locs → lv_has ls 5 [(0, .ref (G.2.2 + 117)), (1, .int x1), (2, .int x2)] → BX7_arrange_2 x1 post n x2 σ → W p l e rm_X7_arrange s m args below meth c H locs cells slots Q (F0 m 2 ls []) := by
  intro n
  induction n with
  | zero =>
    intro x2  σ H locs ls S hl h
    exact absurd h (fun h => h)
  | succ n ih0 =>
    have ih : ∀ (x2 : Int32), ∀ (σ : Sg) (H : Heap) (locs : List Loc) (ls : Array Slot), s_St G σ H0 H locs → lv_has ls 5 [(0, .ref (G.2.2 + 117)), (1, .int x1), (2, .int x2)] → BX7_arrange_2 x1 post n x2 σ → W p l e rm_X7_arrange s m args below meth c H locs cells slots Q (F0 m 2 ls []) := fun x2  _ _ _ _ => ih0 x2 
    intro x2  σ H locs ls S hl h
    refine lv_iload_n C.1 C.2.1 dX7_arrange_2 rfl (lv_at hl 2 rfl) ?_
    refine lv_iload_n C.1 C.2.1 dX7_arrange_3 rfl (lv_at hl 1 rfl) ?_
    refine lv_icmp_ge (tgt := 150) C.1 C.2.1 dX7_arrange_4 (by decide) (fun c28 => ?_) (fun c28 => ?_)
    · replace h := h.1 c28
      refine lv_aload_n C.1 C.2.1 dX7_arrange_150 rfl (lv_at hl 0 rfl) ?_
      refine g_X7_0 C fl_X7_7 kd_117 S fn_117_0 dX7_arrange_151 ?_
      refine lv_iconst (v := (0 : Int32)) C.1 C.2.1 dX7_arrange_154 (by decide) ?_
      refine lv_iload_n C.1 C.2.1 dX7_arrange_155 rfl (lv_at hl 1 rfl) ?_
      refine a_ist C kd_118 S ln_118 h.1 dX7_arrange_156 (fun σ29 H locs e30 S => ?_)
      replace h := h.2 σ29 e30
      exact hR _ _ _ _ _ dX7_arrange_157 h S
    · replace h := h.2 c28
      refine lv_aload_n C.1 C.2.1 dX7_arrange_7 rfl (lv_at hl 0 rfl) ?_
      refine g_X7_7 C fl_X7_22 kd_117 S fn_117_7 dX7_arrange_8 ?_
      refine lv_iload_n C.1 C.2.1 dX7_arrange_11 rfl (lv_at hl 2 rfl) ?_
      refine a_ild C kd_122 S ln_122 h.1 dX7_arrange_12 ?_
      replace h := h.2
      refine lv_istore_n (lv' := [(3, .int (σ.1 122 (x2).toNatClampNeg)), (0, .ref (G.2.2 + 117)), (1, .int x1), (2, .int x2)]) C.1 C.2.1 dX7_arrange_13 rfl hl (by decide) rfl (fun ls hl => ?_)
      refine lv_iconst (v := (0 : Int32)) C.1 C.2.1 dX7_arrange_14 (by decide) ?_
      refine lv_istore (lv' := [(4, .int (0 : Int32)), (3, .int (σ.1 122 (x2).toNatClampNeg)), (0, .ref (G.2.2 + 117)), (1, .int x1), (2, .int x2)]) C.1 C.2.1 dX7_arrange_15 hl (by decide) rfl (fun ls hl => ?_)
      obtain ⟨nf, h⟩ := h
      exact TX7_arrange_17 C hml hcs hR ih nf x2 ((σ.1 122 (x2).toNatClampNeg)) ((0 : Int32)) S (lv_sub hl [2, 3, 4, 1, 0] rfl) h
theorem kM_X7_arrange : s_M yX7_arrange cX7_arrange 5 none 1 := ⟨co_X7_arrange, in_X7, by decide, by decide, by decide +kernel⟩
set_option maxHeartbeats 4000000 in
set_option maxRecDepth 100000 in
theorem c_X7_arrange (l : Launch) (G : s_G) (x1 : Int32) (σ : Sg) (post : Sg → Prop) (h : wpX7_arrange x1 σ post) : Met l yX7_arrange (wsU yX7_arrange cX7_arrange 5 none) rm_X7_arrange (va_Pc [.ref (G.2.2 + 117), .int x1] (s_Pre G σ)) (va_Qv post (s_B G) (s_A G.2.2)) 0 0 (s_A G.2.2) := by
  refine Met.ofW (cc := cX7_arrange) (maxL := 5) (ret := none) (by decide) rfl ?_
  intro p e s m args below meth c s₁ B hml hv
  obtain ⟨rfl, hP, hrok, hK, hN⟩ := hv
  have C : s_C G p s (([.ref (G.2.2 + 117), .int x1] : List Value).toArray) m c RX7 cX7_arrange := ⟨B.exec, B.bytes, findClass_of_methodNamed B.named, fun w hw => atoms_spec (ws := wsU yX7_arrange cX7_arrange 5 none) B.pre w (List.mem_cons_of_mem _ hw), hK, hN⟩
  have hr := B.returns
  have hlocks := B.notSynchronized
  have S : s_St G σ s.heap s.heap [] := ⟨hP, va_S.rf, hrok⟩
  have hcs : 0 ≤ (rm_X7_arrange).cells ∧ 0 ≤ (rm_X7_arrange).slots := ⟨Nat.le_refl 0, Nat.le_refl 0⟩
  have hR : ∀ (σ1 : Sg) (H : Heap) (locs : List Loc) (pc : Nat) (ls : Array Slot), decode cX7_arrange pc = .ok (.return_, 1) → post σ1 → s_St G σ1 s.heap H locs → W p l e rm_X7_arrange s m ([.ref (G.2.2 + 117), .int x1] : List Value).toArray below meth c H locs 0 0 (MQ below (va_Qv post (s_B G) (s_A G.2.2)) ([.ref (G.2.2 + 117), .int x1] : List Value).toArray s 0 0 (s_A G.2.2)) (F0 m pc ls []) := fun _ _ _ _ _ hd hp S => ret_v C hr hlocks hd hp S
  have hl := lv_entry ([.ref (G.2.2 + 117), .int x1]) (n := 5) (Nat.le_of_ble_eq_true rfl)
  rw [lg_entry_eq]
  generalize (lg_sl ([.ref (G.2.2 + 117), .int x1]) ++ List.replicate (5 - (lg_sl ([.ref (G.2.2 + 117), .int x1])).length) Slot.unset).toArray = ls at hl ⊢
  have hl : lv_has ls 5 [(0, .ref (G.2.2 + 117)), (1, .int x1)] := hl
  unfold wpX7_arrange at h
  refine lv_iconst (v := (0 : Int32)) C.1 C.2.1 dX7_arrange_0 (by decide) ?_
  refine lv_istore_n (lv' := [(2, .int (0 : Int32)), (0, .ref (G.2.2 + 117)), (1, .int x1)]) C.1 C.2.1 dX7_arrange_1 rfl hl (by decide) rfl (fun ls hl => ?_)
  obtain ⟨nf, h⟩ := h
  exact TX7_arrange_2 C hml hcs hR nf ((0 : Int32)) S (lv_sub hl [1, 2, 0] rfl) h
end M6
