section M5
variable {p : Program} {l : Launch} {e : Env} {R : Room} {s : State} {m : MethodId} {args : Array Value} {below : List Frame} {meth : Method} {c : Code} {H0 : Heap} {cells slots : Nat} {Q : State → Prop} {G : s_G}
/-! X5_startAt -/
abbrev rm_X5_startAt : Room := { frames := 0, cells := 0, slots := 0, locals := 0 }
def wpX5_startAt (x1 : Int32) (σ : Sg) (post : Int32 → Sg → Prop) : Prop := (((x1 < 0) → post ((-9 : Int32)) σ) ∧ ((¬ x1 < 0) → ((((σ.1 90 6) ≤ x1) → post ((-9 : Int32)) σ) ∧ ((¬ (σ.1 90 6) ≤ x1) → ((((18 : Int32) ≤ x1) → post ((-9 : Int32)) σ) ∧ ((¬ (18 : Int32) ≤ x1) → (vp_in x1 18 ∧ post ((σ.1 95 (x1).toNatClampNeg)) σ)))))))
theorem kM_X5_startAt : s_M yX5_startAt cX5_startAt 2 (some .int) 1 := ⟨co_X5_startAt, in_X5, by decide, by decide, by decide +kernel⟩
set_option maxHeartbeats 4000000 in
set_option maxRecDepth 100000 in
theorem c_X5_startAt (l : Launch) (G : s_G) (x1 : Int32) (σ : Sg) (post : Int32 → Sg → Prop) (h : wpX5_startAt x1 σ post) : Met l yX5_startAt (wsU yX5_startAt cX5_startAt 2 (some .int)) rm_X5_startAt (va_Pc [.ref (G.2.2 + 90), .int x1] (s_Pre G σ)) (va_Qi post (s_B G) (s_A G.2.2)) 0 0 (s_A G.2.2) := by
  refine Met.ofW (cc := cX5_startAt) (maxL := 2) (ret := (some .int)) (by decide) rfl ?_
  intro p e s m args below meth c s₁ B hml hv
  obtain ⟨rfl, hP, hrok, hK, hN⟩ := hv
  have C : s_C G p s (([.ref (G.2.2 + 90), .int x1] : List Value).toArray) m c RX5 cX5_startAt := ⟨B.exec, B.bytes, findClass_of_methodNamed B.named, fun w hw => atoms_spec (ws := wsU yX5_startAt cX5_startAt 2 (some .int)) B.pre w (List.mem_cons_of_mem _ hw), hK, hN⟩
  have hr := B.returns
  have hlocks := B.notSynchronized
  have S : s_St G σ s.heap s.heap [] := ⟨hP, va_S.rf, hrok⟩
  have hcs : 0 ≤ (rm_X5_startAt).cells ∧ 0 ≤ (rm_X5_startAt).slots := ⟨Nat.le_refl 0, Nat.le_refl 0⟩
  have hR : ∀ (r : Int32) (σ1 : Sg) (H : Heap) (locs : List Loc) (pc : Nat) (ls : Array Slot), decode cX5_startAt pc = .ok (.ireturn, 1) → post r σ1 → s_St G σ1 s.heap H locs → W p l e rm_X5_startAt s m ([.ref (G.2.2 + 90), .int x1] : List Value).toArray below meth c H locs 0 0 (MQ below (va_Qi post (s_B G) (s_A G.2.2)) ([.ref (G.2.2 + 90), .int x1] : List Value).toArray s 0 0 (s_A G.2.2)) (F0 m pc ls [.int r]) := fun _ _ _ _ _ _ hd hp S => ret_i C hr hlocks hd hp S
  have hl := lv_entry ([.ref (G.2.2 + 90), .int x1]) (n := 2) (Nat.le_of_ble_eq_true rfl)
  rw [lg_entry_eq]
  generalize (lg_sl ([.ref (G.2.2 + 90), .int x1]) ++ List.replicate (2 - (lg_sl ([.ref (G.2.2 + 90), .int x1])).length) Slot.unset).toArray = ls at hl ⊢
  have hl : lv_has ls 2 [(0, .ref (G.2.2 + 90)), (1, .int x1)] := hl
  unfold wpX5_startAt at h
  refine lv_iload_n C.1 C.2.1 dX5_startAt_0 rfl (lv_at hl 1 rfl) ?_
  refine lv_if_lt (tgt := 30) C.1 C.2.1 dX5_startAt_1 (by decide) (fun c1 => ?_) (fun c1 => ?_)
  · replace h := h.1 c1
    refine lv_bipush (v := (-9 : Int32)) C.1 C.2.1 dX5_startAt_30 (by decide) ?_
    exact hR _ _ _ _ _ _ dX5_startAt_32 h S
  · replace h := h.2 c1
    refine lv_iload_n C.1 C.2.1 dX5_startAt_4 rfl (lv_at hl 1 rfl) ?_
    refine lv_aload_n C.1 C.2.1 dX5_startAt_5 rfl (lv_at hl 0 rfl) ?_
    refine g_X5_6 C fl_X5_49 kd_90 S dX5_startAt_6 ?_
    refine lv_icmp_ge (tgt := 30) C.1 C.2.1 dX5_startAt_9 (by decide) (fun c2 => ?_) (fun c2 => ?_)
    · replace h := h.1 c2
      refine lv_bipush (v := (-9 : Int32)) C.1 C.2.1 dX5_startAt_30 (by decide) ?_
      exact hR _ _ _ _ _ _ dX5_startAt_32 h S
    · replace h := h.2 c2
      refine lv_iload_n C.1 C.2.1 dX5_startAt_12 rfl (lv_at hl 1 rfl) ?_
      refine lv_aload_n C.1 C.2.1 dX5_startAt_13 rfl (lv_at hl 0 rfl) ?_
      refine g_X5_4 C fl_X5_25 kd_90 S fn_90_4 dX5_startAt_14 ?_
      refine a_len8 C kd_95 S (v := (18 : Int32)) (by rw [ln_95]; rfl) dX5_startAt_17 ?_
      refine lv_icmp_ge (tgt := 30) C.1 C.2.1 dX5_startAt_18 (by decide) (fun c3 => ?_) (fun c3 => ?_)
      · replace h := h.1 c3
        refine lv_bipush (v := (-9 : Int32)) C.1 C.2.1 dX5_startAt_30 (by decide) ?_
        exact hR _ _ _ _ _ _ dX5_startAt_32 h S
      · replace h := h.2 c3
        refine lv_aload_n C.1 C.2.1 dX5_startAt_21 rfl (lv_at hl 0 rfl) ?_
        refine g_X5_4 C fl_X5_25 kd_90 S fn_90_4 dX5_startAt_22 ?_
        refine lv_iload_n C.1 C.2.1 dX5_startAt_25 rfl (lv_at hl 1 rfl) ?_
        refine a_ild C kd_95 S ln_95 h.1 dX5_startAt_26 ?_
        replace h := h.2
        refine lv_goto (tgt := 32) C.1 C.2.1 dX5_startAt_27 (by decide) ?_
        exact hR _ _ _ _ _ _ dX5_startAt_32 h S
/-! X6_forgetTables -/
abbrev rm_X6_forgetTables : Room := { frames := 1, cells := 0, slots := 0, locals := 20 }
def wpX6_forgetTables  (σ : Sg) (post : Sg → Prop) : Prop := wpX5_forget σ (fun σ1 => wpX4_forget σ1 (fun σ2 => post σ2))
theorem kM_X6_forgetTables : s_M yX6_forgetTables cX6_forgetTables 1 none 0 := ⟨co_X6_forgetTables, in_X6, by decide, by decide, by decide +kernel⟩
set_option maxHeartbeats 4000000 in
set_option maxRecDepth 100000 in
theorem c_X6_forgetTables (l : Launch) (G : s_G)  (σ : Sg) (post : Sg → Prop) (h : wpX6_forgetTables σ post) : Met l yX6_forgetTables (wsU yX6_forgetTables cX6_forgetTables 1 none) rm_X6_forgetTables (va_Pc [.ref (G.2.2 + 0)] (s_Pre G σ)) (va_Qv post (s_B G) (s_A G.2.2)) 0 0 (s_A G.2.2) := by
  refine Met.ofW (cc := cX6_forgetTables) (maxL := 1) (ret := none) (by decide) rfl ?_
  intro p e s m args below meth c s₁ B hml hv
  obtain ⟨rfl, hP, hrok, hK, hN⟩ := hv
  have C : s_C G p s (([.ref (G.2.2 + 0)] : List Value).toArray) m c RX6 cX6_forgetTables := ⟨B.exec, B.bytes, findClass_of_methodNamed B.named, fun w hw => atoms_spec (ws := wsU yX6_forgetTables cX6_forgetTables 1 none) B.pre w (List.mem_cons_of_mem _ hw), hK, hN⟩
  have hr := B.returns
  have hlocks := B.notSynchronized
  have S : s_St G σ s.heap s.heap [] := ⟨hP, va_S.rf, hrok⟩
  have hcs : 0 ≤ (rm_X6_forgetTables).cells ∧ 0 ≤ (rm_X6_forgetTables).slots := ⟨Nat.le_refl 0, Nat.le_refl 0⟩
  have hR : ∀ (σ1 : Sg) (H : Heap) (locs : List Loc) (pc : Nat) (ls : Array Slot), decode cX6_forgetTables pc = .ok (.return_, 1) → post σ1 → s_St G σ1 s.heap H locs → W p l e rm_X6_forgetTables s m ([.ref (G.2.2 + 0)] : List Value).toArray below meth c H locs 0 0 (MQ below (va_Qv post (s_B G) (s_A G.2.2)) ([.ref (G.2.2 + 0)] : List Value).toArray s 0 0 (s_A G.2.2)) (F0 m pc ls []) := fun _ _ _ _ _ hd hp S => ret_v C hr hlocks hd hp S
  have hl := lv_entry ([.ref (G.2.2 + 0)]) (n := 1) (Nat.le_of_ble_eq_true rfl)
  rw [lg_entry_eq]
  generalize (lg_sl ([.ref (G.2.2 + 0)]) ++ List.replicate (1 - (lg_sl ([.ref (G.2.2 + 0)])).length) Slot.unset).toArray = ls at hl ⊢
  have hl : lv_has ls 1 [(0, .ref (G.2.2 + 0))] := hl
  unfold wpX6_forgetTables at h
  refine lv_aload_n C.1 C.2.1 dX6_forgetTables_0 rfl (lv_at hl 0 rfl) ?_
  refine g_X6_6 C fl_X6_44 kd_0 S fn_0_6 dX6_forgetTables_1 ?_
  refine k_v (r_VN (As := []) (rest := []) C hml (c_X5_forget l G σ _ h) kM_X5_forget im_X5_forget se_X5_forget nm_X6_59 ⟨rfl, rfl⟩ ⟨Nat.le_of_ble_eq_true rfl, Nat.le_of_ble_eq_true rfl⟩ hcs S kd_90 (by decide) (T := TX5) (N := 8) rfl rfl hl.1 rfl (Nat.le_of_ble_eq_true rfl) dX6_forgetTables_4) S (fun σ1 H locs h S => ?_)
  refine lv_aload_n C.1 C.2.1 dX6_forgetTables_7 rfl (lv_at hl 0 rfl) ?_
  refine g_X6_7 C fl_X6_51 kd_0 S fn_0_7 dX6_forgetTables_8 ?_
  refine k_v (r_VN (As := []) (rest := []) C hml (c_X4_forget l G σ1 _ h) kM_X4_forget im_X4_forget se_X4_forget nm_X6_138 ⟨rfl, rfl⟩ ⟨Nat.le_of_ble_eq_true rfl, Nat.le_of_ble_eq_true rfl⟩ hcs S kd_97 (by decide) (T := TX4) (N := 2) rfl rfl hl.1 rfl (Nat.le_of_ble_eq_true rfl) dX6_forgetTables_11) S (fun σ2 H locs h S => ?_)
  exact hR _ _ _ _ _ dX6_forgetTables_14 h S
/-! X6_beginChange -/
abbrev rm_X6_beginChange : Room := { frames := 3, cells := 0, slots := 0, locals := 64 }
def wpX6_beginChange  (σ : Sg) (post : Sg → Prop) : Prop := wpX2_record σ (fun σ1 => wpX6_forgetTables σ1 (fun σ2 => post σ2))
theorem kM_X6_beginChange : s_M yX6_beginChange cX6_beginChange 1 none 0 := ⟨co_X6_beginChange, in_X6, by decide, by decide, by decide +kernel⟩
set_option maxHeartbeats 4000000 in
set_option maxRecDepth 100000 in
theorem c_X6_beginChange (l : Launch) (G : s_G)  (σ : Sg) (post : Sg → Prop) (h : wpX6_beginChange σ post) : Met l yX6_beginChange (wsU yX6_beginChange cX6_beginChange 1 none) rm_X6_beginChange (va_Pc [.ref (G.2.2 + 0)] (s_Pre G σ)) (va_Qv post (s_B G) (s_A G.2.2)) 0 0 (s_A G.2.2) := by
  refine Met.ofW (cc := cX6_beginChange) (maxL := 1) (ret := none) (by decide) rfl ?_
  intro p e s m args below meth c s₁ B hml hv
  obtain ⟨rfl, hP, hrok, hK, hN⟩ := hv
  have C : s_C G p s (([.ref (G.2.2 + 0)] : List Value).toArray) m c RX6 cX6_beginChange := ⟨B.exec, B.bytes, findClass_of_methodNamed B.named, fun w hw => atoms_spec (ws := wsU yX6_beginChange cX6_beginChange 1 none) B.pre w (List.mem_cons_of_mem _ hw), hK, hN⟩
  have hr := B.returns
  have hlocks := B.notSynchronized
  have S : s_St G σ s.heap s.heap [] := ⟨hP, va_S.rf, hrok⟩
  have hcs : 0 ≤ (rm_X6_beginChange).cells ∧ 0 ≤ (rm_X6_beginChange).slots := ⟨Nat.le_refl 0, Nat.le_refl 0⟩
  have hR : ∀ (σ1 : Sg) (H : Heap) (locs : List Loc) (pc : Nat) (ls : Array Slot), decode cX6_beginChange pc = .ok (.return_, 1) → post σ1 → s_St G σ1 s.heap H locs → W p l e rm_X6_beginChange s m ([.ref (G.2.2 + 0)] : List Value).toArray below meth c H locs 0 0 (MQ below (va_Qv post (s_B G) (s_A G.2.2)) ([.ref (G.2.2 + 0)] : List Value).toArray s 0 0 (s_A G.2.2)) (F0 m pc ls []) := fun _ _ _ _ _ hd hp S => ret_v C hr hlocks hd hp S
  have hl := lv_entry ([.ref (G.2.2 + 0)]) (n := 1) (Nat.le_of_ble_eq_true rfl)
  rw [lg_entry_eq]
  generalize (lg_sl ([.ref (G.2.2 + 0)]) ++ List.replicate (1 - (lg_sl ([.ref (G.2.2 + 0)])).length) Slot.unset).toArray = ls at hl ⊢
  have hl : lv_has ls 1 [(0, .ref (G.2.2 + 0))] := hl
  unfold wpX6_beginChange at h
  refine lv_aload_n C.1 C.2.1 dX6_beginChange_0 rfl (lv_at hl 0 rfl) ?_
  refine g_X6_3 C fl_X6_29 kd_0 S fn_0_3 dX6_beginChange_1 ?_
  refine lv_aload_n C.1 C.2.1 dX6_beginChange_4 rfl (lv_at hl 0 rfl) ?_
  refine g_X6_2 C fl_X6_22 kd_0 S fn_0_2 dX6_beginChange_5 ?_
  refine k_v (r_VN (As := [.ref (G.2.2 + 5)]) (rest := []) C hml (c_X2_record l G σ _ h) kM_X2_record im_X2_record se_X2_record nm_X6_135 ⟨rfl, rfl⟩ ⟨Nat.le_of_ble_eq_true rfl, Nat.le_of_ble_eq_true rfl⟩ hcs S kd_14 (by decide) (T := TX2) (N := 2) rfl rfl hl.1 rfl (Nat.le_of_ble_eq_true rfl) dX6_beginChange_8) S (fun σ1 H locs h S => ?_)
  refine lv_aload_n C.1 C.2.1 dX6_beginChange_11 rfl (lv_at hl 0 rfl) ?_
  refine k_v (r_V (As := []) (rest := []) C hml (c_X6_forgetTables l G σ1 _ h) kM_X6_forgetTables im_X6_forgetTables se_X6_forgetTables ml_X6_132 ⟨rfl, rfl⟩ ⟨Nat.le_of_ble_eq_true rfl, Nat.le_of_ble_eq_true rfl⟩ hcs S kd_0 (by decide) (T := TX6) (N := 8) rfl rfl hl.1 rfl (Nat.le_of_ble_eq_true rfl) dX6_beginChange_12) S (fun σ2 H locs h S => ?_)
  exact hR _ _ _ _ _ dX6_beginChange_15 h S
/-! X6_isImage -/
abbrev rm_X6_isImage : Room := { frames := 0, cells := 0, slots := 0, locals := 0 }
def wpX6_isImage (x1 : Int32) (σ : Sg) (post : Int32 → Sg → Prop) : Prop := (((x1 < 0) → post (0 : Int32) σ) ∧ ((¬ x1 < 0) → ((((2 : Int32) ≤ x1) → post (0 : Int32) σ) ∧ ((¬ (2 : Int32) ≤ x1) → ((((2 : Int32) ≤ x1) → post (0 : Int32) σ) ∧ ((¬ (2 : Int32) ≤ x1) → post (1 : Int32) σ))))))
theorem kM_X6_isImage : s_M yX6_isImage cX6_isImage 2 (some .boolean) 1 := ⟨co_X6_isImage, in_X6, by decide, by decide, by decide +kernel⟩
set_option maxHeartbeats 4000000 in
set_option maxRecDepth 100000 in
theorem c_X6_isImage (l : Launch) (G : s_G) (x1 : Int32) (σ : Sg) (post : Int32 → Sg → Prop) (h : wpX6_isImage x1 σ post) : Met l yX6_isImage (wsU yX6_isImage cX6_isImage 2 (some .boolean)) rm_X6_isImage (va_Pc [.ref (G.2.2 + 0), .int x1] (s_Pre G σ)) (va_Qi post (s_B G) (s_A G.2.2)) 0 0 (s_A G.2.2) := by
  refine Met.ofW (cc := cX6_isImage) (maxL := 2) (ret := (some .boolean)) (by decide) rfl ?_
  intro p e s m args below meth c s₁ B hml hv
  obtain ⟨rfl, hP, hrok, hK, hN⟩ := hv
  have C : s_C G p s (([.ref (G.2.2 + 0), .int x1] : List Value).toArray) m c RX6 cX6_isImage := ⟨B.exec, B.bytes, findClass_of_methodNamed B.named, fun w hw => atoms_spec (ws := wsU yX6_isImage cX6_isImage 2 (some .boolean)) B.pre w (List.mem_cons_of_mem _ hw), hK, hN⟩
  have hr := B.returns
  have hlocks := B.notSynchronized
  have S : s_St G σ s.heap s.heap [] := ⟨hP, va_S.rf, hrok⟩
  have hcs : 0 ≤ (rm_X6_isImage).cells ∧ 0 ≤ (rm_X6_isImage).slots := ⟨Nat.le_refl 0, Nat.le_refl 0⟩
  have hR : ∀ (r : Int32) (σ1 : Sg) (H : Heap) (locs : List Loc) (pc : Nat) (ls : Array Slot), decode cX6_isImage pc = .ok (.ireturn, 1) → narrow .boolean (.int r) = .int r → post r σ1 → s_St G σ1 s.heap H locs → W p l e rm_X6_isImage s m ([.ref (G.2.2 + 0), .int x1] : List Value).toArray below meth c H locs 0 0 (MQ below (va_Qi post (s_B G) (s_A G.2.2)) ([.ref (G.2.2 + 0), .int x1] : List Value).toArray s 0 0 (s_A G.2.2)) (F0 m pc ls [.int r]) := fun _ _ _ _ _ _ hd hn hp S => ret_z C hr hlocks hd hn hp S
  have hl := lv_entry ([.ref (G.2.2 + 0), .int x1]) (n := 2) (Nat.le_of_ble_eq_true rfl)
  rw [lg_entry_eq]
  generalize (lg_sl ([.ref (G.2.2 + 0), .int x1]) ++ List.replicate (2 - (lg_sl ([.ref (G.2.2 + 0), .int x1])).length) Slot.unset).toArray = ls at hl ⊢
  have hl : lv_has ls 2 [(0, .ref (G.2.2 + 0)), (1, .int x1)] := hl
  unfold wpX6_isImage at h
  refine lv_iload_n C.1 C.2.1 dX6_isImage_0 rfl (lv_at hl 1 rfl) ?_
  refine lv_if_lt (tgt := 26) C.1 C.2.1 dX6_isImage_1 (by decide) (fun c1 => ?_) (fun c1 => ?_)
  · replace h := h.1 c1
    refine lv_iconst (v := (0 : Int32)) C.1 C.2.1 dX6_isImage_26 (by decide) ?_
    exact hR _ _ _ _ _ _ dX6_isImage_27 rfl h S
  · replace h := h.2 c1
    refine lv_iload_n C.1 C.2.1 dX6_isImage_4 rfl (lv_at hl 1 rfl) ?_
    refine lv_aload_n C.1 C.2.1 dX6_isImage_5 rfl (lv_at hl 0 rfl) ?_
    refine g_X6_4 C fl_X6_33 kd_0 S fn_0_4 dX6_isImage_6 ?_
    refine a_len12 C kd_88 S (v := (2 : Int32)) (by rw [ln_88]; rfl) dX6_isImage_9 ?_
    refine lv_icmp_ge (tgt := 26) C.1 C.2.1 dX6_isImage_10 (by decide) (fun c2 => ?_) (fun c2 => ?_)
    · replace h := h.1 c2
      refine lv_iconst (v := (0 : Int32)) C.1 C.2.1 dX6_isImage_26 (by decide) ?_
      exact hR _ _ _ _ _ _ dX6_isImage_27 rfl h S
    · replace h := h.2 c2
      refine lv_iload_n C.1 C.2.1 dX6_isImage_13 rfl (lv_at hl 1 rfl) ?_
      refine lv_aload_n C.1 C.2.1 dX6_isImage_14 rfl (lv_at hl 0 rfl) ?_
      refine g_X6_5 C fl_X6_37 kd_0 S fn_0_5 dX6_isImage_15 ?_
      refine a_len10 C kd_89 S (v := (2 : Int32)) (by rw [ln_89]; rfl) dX6_isImage_18 ?_
      refine lv_icmp_ge (tgt := 26) C.1 C.2.1 dX6_isImage_19 (by decide) (fun c3 => ?_) (fun c3 => ?_)
      · replace h := h.1 c3
        refine lv_iconst (v := (0 : Int32)) C.1 C.2.1 dX6_isImage_26 (by decide) ?_
        exact hR _ _ _ _ _ _ dX6_isImage_27 rfl h S
      · replace h := h.2 c3
        refine lv_iconst (v := (1 : Int32)) C.1 C.2.1 dX6_isImage_22 (by decide) ?_
        refine lv_goto (tgt := 27) C.1 C.2.1 dX6_isImage_23 (by decide) ?_
        exact hR _ _ _ _ _ _ dX6_isImage_27 rfl h S
/-! X6_back -/
abbrev rm_X6_back : Room := { frames := 4, cells := 0, slots := 0, locals := 84 }
def wpX6_back (x1 : Int32) (σ : Sg) (post : Int32 → Sg → Prop) : Prop := wpX6_isImage x1 σ (fun r2 σ1 => (((¬ r2 = 0) → (vp_in x1 2 ∧ (((¬ (σ1.1 89 (x1).toNatClampNeg) = 0) → wpX6_beginChange σ1 (fun σ5 => (vp_in x1 2 ∧ (∀ q6 : Nat, q6 = (σ5.2.2 88 (x1).toNatClampNeg) → wpX1_copyFrom 5 q6 σ5 (fun σ8 => post ((σ8.1 5 2)) σ8))))) ∧ (((σ1.1 89 (x1).toNatClampNeg) = 0) → post ((-2 : Int32)) σ1)))) ∧ ((r2 = 0) → post ((-1 : Int32)) σ1)))
theorem kM_X6_back : s_M yX6_back cX6_back 2 (some .int) 1 := ⟨co_X6_back, in_X6, by decide, by decide, by decide +kernel⟩
set_option maxHeartbeats 4000000 in
set_option maxRecDepth 100000 in
theorem c_X6_back (l : Launch) (G : s_G) (x1 : Int32) (σ : Sg) (post : Int32 → Sg → Prop) (h : wpX6_back x1 σ post) : Met l yX6_back (wsU yX6_back cX6_back 2 (some .int)) rm_X6_back (va_Pc [.ref (G.2.2 + 0), .int x1] (s_Pre G σ)) (va_Qi post (s_B G) (s_A G.2.2)) 0 0 (s_A G.2.2) := by
  refine Met.ofW (cc := cX6_back) (maxL := 2) (ret := (some .int)) (by decide) rfl ?_
  intro p e s m args below meth c s₁ B hml hv
  obtain ⟨rfl, hP, hrok, hK, hN⟩ := hv
  have C : s_C G p s (([.ref (G.2.2 + 0), .int x1] : List Value).toArray) m c RX6 cX6_back := ⟨B.exec, B.bytes, findClass_of_methodNamed B.named, fun w hw => atoms_spec (ws := wsU yX6_back cX6_back 2 (some .int)) B.pre w (List.mem_cons_of_mem _ hw), hK, hN⟩
  have hr := B.returns
  have hlocks := B.notSynchronized
  have S : s_St G σ s.heap s.heap [] := ⟨hP, va_S.rf, hrok⟩
  have hcs : 0 ≤ (rm_X6_back).cells ∧ 0 ≤ (rm_X6_back).slots := ⟨Nat.le_refl 0, Nat.le_refl 0⟩
  have hR : ∀ (r : Int32) (σ1 : Sg) (H : Heap) (locs : List Loc) (pc : Nat) (ls : Array Slot), decode cX6_back pc = .ok (.ireturn, 1) → post r σ1 → s_St G σ1 s.heap H locs → W p l e rm_X6_back s m ([.ref (G.2.2 + 0), .int x1] : List Value).toArray below meth c H locs 0 0 (MQ below (va_Qi post (s_B G) (s_A G.2.2)) ([.ref (G.2.2 + 0), .int x1] : List Value).toArray s 0 0 (s_A G.2.2)) (F0 m pc ls [.int r]) := fun _ _ _ _ _ _ hd hp S => ret_i C hr hlocks hd hp S
  have hl := lv_entry ([.ref (G.2.2 + 0), .int x1]) (n := 2) (Nat.le_of_ble_eq_true rfl)
  rw [lg_entry_eq]
  generalize (lg_sl ([.ref (G.2.2 + 0), .int x1]) ++ List.replicate (2 - (lg_sl ([.ref (G.2.2 + 0), .int x1])).length) Slot.unset).toArray = ls at hl ⊢
  have hl : lv_has ls 2 [(0, .ref (G.2.2 + 0)), (1, .int x1)] := hl
  unfold wpX6_back at h
  refine lv_aload_n C.1 C.2.1 dX6_back_0 rfl (lv_at hl 0 rfl) ?_
  refine lv_iload_n C.1 C.2.1 dX6_back_1 rfl (lv_at hl 1 rfl) ?_
  refine k_i (r_V (As := [.int x1]) (rest := []) C hml (c_X6_isImage l G x1 σ _ h) kM_X6_isImage im_X6_isImage se_X6_isImage ml_X6_231 ⟨rfl, rfl⟩ ⟨Nat.le_of_ble_eq_true rfl, Nat.le_of_ble_eq_true rfl⟩ hcs S kd_0 (by decide) (T := TX6) (N := 8) rfl rfl hl.1 rfl (Nat.le_of_ble_eq_true rfl) dX6_back_2) S (fun r2 σ1 H locs h S => ?_)
  refine lv_if_ne (tgt := 10) C.1 C.2.1 dX6_back_5 (by decide) (fun c3 => ?_) (fun c3 => ?_)
  · replace h := h.1 c3
    refine lv_aload_n C.1 C.2.1 dX6_back_10 rfl (lv_at hl 0 rfl) ?_
    refine g_X6_5 C fl_X6_37 kd_0 S fn_0_5 dX6_back_11 ?_
    refine lv_iload_n C.1 C.2.1 dX6_back_14 rfl (lv_at hl 1 rfl) ?_
    refine a_zld C kd_89 S ln_89 h.1 dX6_back_15 ?_
    replace h := h.2
    refine lv_if_ne (tgt := 22) C.1 C.2.1 dX6_back_16 (by decide) (fun c4 => ?_) (fun c4 => ?_)
    · replace h := h.1 c4
      refine lv_aload_n C.1 C.2.1 dX6_back_22 rfl (lv_at hl 0 rfl) ?_
      refine k_v (r_V (As := []) (rest := []) C hml (c_X6_beginChange l G σ1 _ h) kM_X6_beginChange im_X6_beginChange se_X6_beginChange ml_X6_82 ⟨rfl, rfl⟩ ⟨Nat.le_of_ble_eq_true rfl, Nat.le_of_ble_eq_true rfl⟩ hcs S kd_0 (by decide) (T := TX6) (N := 8) rfl rfl hl.1 rfl (Nat.le_of_ble_eq_true rfl) dX6_back_23) S (fun σ5 H locs h S => ?_)
      refine lv_aload_n C.1 C.2.1 dX6_back_26 rfl (lv_at hl 0 rfl) ?_
      refine g_X6_2 C fl_X6_22 kd_0 S fn_0_2 dX6_back_27 ?_
      refine lv_aload_n C.1 C.2.1 dX6_back_30 rfl (lv_at hl 0 rfl) ?_
      refine g_X6_4 C fl_X6_33 kd_0 S fn_0_4 dX6_back_31 ?_
      refine lv_iload_n C.1 C.2.1 dX6_back_34 rfl (lv_at hl 1 rfl) ?_
      have hq6 := (S.2.2 88 (x1).toNatClampNeg (vp_lt ln_88 h.1)).2 kd_88
      refine a_dld C kd_88 S ln_88 h.1 dX6_back_35 ?_
      replace h := h.2
      obtain ⟨q6, e7⟩ : ∃ z, z = (σ5.2.2 88 (x1).toNatClampNeg) := ⟨_, rfl⟩
      rw [← e7] at hq6 ⊢
      replace h := h q6 e7
      refine k_v (r_VN (As := [.ref (G.2.2 + q6)]) (rest := []) C hml (c_X1_copyFrom l G 5 q6 σ5 _ kd_5 hq6 h) kM_X1_copyFrom im_X1_copyFrom se_X1_copyFrom nm_X6_234 ⟨rfl, rfl⟩ ⟨Nat.le_of_ble_eq_true rfl, Nat.le_of_ble_eq_true rfl⟩ hcs S kd_5 (by decide) (T := TX1) (N := 4) rfl rfl hl.1 rfl (Nat.le_of_ble_eq_true rfl) dX6_back_36) S (fun σ8 H locs h S => ?_)
      refine lv_aload_n C.1 C.2.1 dX6_back_39 rfl (lv_at hl 0 rfl) ?_
      refine g_X6_2 C fl_X6_22 kd_0 S fn_0_2 dX6_back_40 ?_
      refine gn_X1_2 C nf_X6_79 kd_5 S dX6_back_43 ?_
      exact hR _ _ _ _ _ _ dX6_back_46 h S
    · replace h := h.2 c4
      refine lv_bipush (v := (-2 : Int32)) C.1 C.2.1 dX6_back_19 (by decide) ?_
      exact hR _ _ _ _ _ _ dX6_back_21 h S
  · replace h := h.2 c3
    refine lv_iconst (v := (-1 : Int32)) C.1 C.2.1 dX6_back_8 (by decide) ?_
    exact hR _ _ _ _ _ _ dX6_back_9 h S
/-! X6_declare -/
abbrev rm_X6_declare : Room := { frames := 4, cells := 0, slots := 0, locals := 84 }
def BX6_declare_31 (x1 : Int32) (x2 : Int32) (x3 : Int32) (post : Int32 → Sg → Prop) (y0 : Int32) (σ : Sg) : Prop := (((¬ y0 = 0) → wpX0_asWord 1 σ (fun r3 σ2 => (((r3 = 0) → post ((-2 : Int32)) σ2) ∧ ((¬ r3 = 0) → wpX1_hasWord 5 r3 σ2 (fun r6 σ5 => (((r6 = 0) → ((((σ5.1 5 2) < (6 : Int32)) → wpX6_beginChange σ5 (fun σ9 => wpX1_add 5 r3 x1 x2 x3 σ9 (fun r11 σ10 => post r11 σ10))) ∧ ((¬ (σ5.1 5 2) < (6 : Int32)) → post ((-3 : Int32)) σ5))) ∧ ((¬ r6 = 0) → post ((-2 : Int32)) σ5))))))) ∧ ((y0 = 0) → post ((-1 : Int32)) σ))
def wpX6_declare (x1 : Int32) (x2 : Int32) (x3 : Int32) (σ : Sg) (post : Int32 → Sg → Prop) : Prop := wpX6_isKind x1 σ (fun r13 σ12 => (((r13 = 0) → BX6_declare_31 x1 x2 x3 post ((0 : Int32)) σ12) ∧ ((¬ r13 = 0) → (((x2 < 0) → BX6_declare_31 x1 x2 x3 post ((0 : Int32)) σ12) ∧ ((¬ x2 < 0) → (((x3 < (1 : Int32)) → BX6_declare_31 x1 x2 x3 post ((0 : Int32)) σ12) ∧ ((¬ x3 < (1 : Int32)) → ((((3 : Int32) < x3) → BX6_declare_31 x1 x2 x3 post ((0 : Int32)) σ12) ∧ ((¬ (3 : Int32) < x3) → (((x3 < x2) → BX6_declare_31 x1 x2 x3 post ((0 : Int32)) σ12) ∧ ((¬ x3 < x2) → BX6_declare_31 x1 x2 x3 post ((1 : Int32)) σ12)))))))))))
set_option maxHeartbeats 4000000 in
set_option maxRecDepth 100000 in
theorem TX6_declare_31 (C : s_C G p s args m c RX6 cX6_declare) (hml : c.maxLocals = 6) (hcs : cells ≤ (rm_X6_declare).cells ∧ slots ≤ (rm_X6_declare).slots) {x1 : Int32} {x2 : Int32} {x3 : Int32} {post : Int32 → Sg → Prop} (hR : ∀ (r : Int32) (σ1 : Sg) (H : Heap) (locs : List Loc) (pc : Nat) (ls : Array Slot), decode cX6_declare pc = .ok (.ireturn, 1) → post r σ1 → s_St G σ1 H0 H locs → W p l e rm_X6_declare s m args below meth c H locs cells slots Q (F0 m pc ls [.int r])) : ∀ (y0 : Int32), ∀ {σ : Sg} {H : Heap} {locs : List Loc} {ls : Array Slot}, s_St G σ H0 H locs → lv_has ls 6 [(0, .ref (G.2.2 + 0)), (1, .int x1), (2, .int x2), (3, .int x3)] → BX6_declare_31 x1 x2 x3 post y0 σ → W p l e rm_X6_declare s m args below meth c H locs cells slots Q (F0 m 31 ls [.int y0]) := by
  intro y0  σ H locs ls S hl h
  unfold BX6_declare_31 at h
  refine lv_istore (lv' := [(4, .int y0), (0, .ref (G.2.2 + 0)), (1, .int x1), (2, .int x2), (3, .int x3)]) C.1 C.2.1 dX6_declare_31 hl (by decide) rfl (fun ls hl => ?_)
  refine lv_iload C.1 C.2.1 dX6_declare_33 (lv_at hl 0 rfl) ?_
  refine lv_if_ne (tgt := 40) C.1 C.2.1 dX6_declare_35 (by decide) (fun c1 => ?_) (fun c1 => ?_)
  · replace h := h.1 c1
    refine lv_aload_n C.1 C.2.1 dX6_declare_40 rfl (lv_at hl 1 rfl) ?_
    refine g_X6_0 C fl_X6_10 kd_0 S fn_0_0 dX6_declare_41 ?_
    refine k_i (r_VN (As := []) (rest := []) C hml (c_X0_asWord l G 1 σ _ kd_1 h) kM_X0_asWord im_X0_asWord se_X0_asWord nm_X6_72 ⟨rfl, rfl⟩ ⟨Nat.le_of_ble_eq_true rfl, Nat.le_of_ble_eq_true rfl⟩ hcs S kd_1 (by decide) (T := TX0) (N := 2) rfl rfl hl.1 rfl (Nat.le_of_ble_eq_true rfl) dX6_declare_44) S (fun r3 σ2 H locs h S => ?_)
    refine lv_istore (lv' := [(5, .int r3), (4, .int y0), (0, .ref (G.2.2 + 0)), (1, .int x1), (2, .int x2), (3, .int x3)]) C.1 C.2.1 dX6_declare_47 hl (by decide) rfl (fun ls hl => ?_)
    refine lv_iload C.1 C.2.1 dX6_declare_49 (lv_at hl 0 rfl) ?_
    refine lv_if_eq (tgt := 66) C.1 C.2.1 dX6_declare_51 (by decide) (fun c4 => ?_) (fun c4 => ?_)
    · replace h := h.1 c4
      refine lv_bipush (v := (-2 : Int32)) C.1 C.2.1 dX6_declare_66 (by decide) ?_
      exact hR _ _ _ _ _ _ dX6_declare_68 h S
    · replace h := h.2 c4
      refine lv_aload_n C.1 C.2.1 dX6_declare_54 rfl (lv_at hl 2 rfl) ?_
      refine g_X6_2 C fl_X6_22 kd_0 S fn_0_2 dX6_declare_55 ?_
      refine lv_iload C.1 C.2.1 dX6_declare_58 (lv_at hl 0 rfl) ?_
      refine k_i (r_VN (As := [.int r3]) (rest := []) C hml (c_X1_hasWord l G 5 r3 σ2 _ kd_5 h) kM_X1_hasWord im_X1_hasWord se_X1_hasWord nm_X6_76 ⟨rfl, rfl⟩ ⟨Nat.le_of_ble_eq_true rfl, Nat.le_of_ble_eq_true rfl⟩ hcs S kd_5 (by decide) (T := TX1) (N := 4) rfl rfl hl.1 rfl (Nat.le_of_ble_eq_true rfl) dX6_declare_60) S (fun r6 σ5 H locs h S => ?_)
      refine lv_if_eq (tgt := 69) C.1 C.2.1 dX6_declare_63 (by decide) (fun c7 => ?_) (fun c7 => ?_)
      · replace h := h.1 c7
        refine lv_aload_n C.1 C.2.1 dX6_declare_69 rfl (lv_at hl 2 rfl) ?_
        refine g_X6_2 C fl_X6_22 kd_0 S fn_0_2 dX6_declare_70 ?_
        refine gn_X1_2 C nf_X6_79 kd_5 S dX6_declare_73 ?_
        refine lv_bipush (v := (6 : Int32)) C.1 C.2.1 dX6_declare_76 (by decide) ?_
        refine lv_icmp_lt (tgt := 84) C.1 C.2.1 dX6_declare_78 (by decide) (fun c8 => ?_) (fun c8 => ?_)
        · replace h := h.1 c8
          refine lv_aload_n C.1 C.2.1 dX6_declare_84 rfl (lv_at hl 2 rfl) ?_
          refine k_v (r_V (As := []) (rest := []) C hml (c_X6_beginChange l G σ5 _ h) kM_X6_beginChange im_X6_beginChange se_X6_beginChange ml_X6_82 ⟨rfl, rfl⟩ ⟨Nat.le_of_ble_eq_true rfl, Nat.le_of_ble_eq_true rfl⟩ hcs S kd_0 (by decide) (T := TX6) (N := 8) rfl rfl hl.1 rfl (Nat.le_of_ble_eq_true rfl) dX6_declare_85) S (fun σ9 H locs h S => ?_)
          refine lv_aload_n C.1 C.2.1 dX6_declare_88 rfl (lv_at hl 2 rfl) ?_
          refine g_X6_2 C fl_X6_22 kd_0 S fn_0_2 dX6_declare_89 ?_
          refine lv_iload C.1 C.2.1 dX6_declare_92 (lv_at hl 0 rfl) ?_
          refine lv_iload_n C.1 C.2.1 dX6_declare_94 rfl (lv_at hl 3 rfl) ?_
          refine lv_iload_n C.1 C.2.1 dX6_declare_95 rfl (lv_at hl 4 rfl) ?_
          refine lv_iload_n C.1 C.2.1 dX6_declare_96 rfl (lv_at hl 5 rfl) ?_
          refine k_i (r_VN (As := [.int r3, .int x1, .int x2, .int x3]) (rest := []) C hml (c_X1_add l G 5 r3 x1 x2 x3 σ9 _ kd_5 h) kM_X1_add im_X1_add se_X1_add nm_X6_85 ⟨rfl, rfl⟩ ⟨Nat.le_of_ble_eq_true rfl, Nat.le_of_ble_eq_true rfl⟩ hcs S kd_5 (by decide) (T := TX1) (N := 4) rfl rfl hl.1 rfl (Nat.le_of_ble_eq_true rfl) dX6_declare_97) S (fun r11 σ10 H locs h S => ?_)
          exact hR _ _ _ _ _ _ dX6_declare_100 h S
        · replace h := h.2 c8
          refine lv_bipush (v := (-3 : Int32)) C.1 C.2.1 dX6_declare_81 (by decide) ?_
          exact hR _ _ _ _ _ _ dX6_declare_83 h S
      · replace h := h.2 c7
        refine lv_bipush (v := (-2 : Int32)) C.1 C.2.1 dX6_declare_66 (by decide) ?_
        exact hR _ _ _ _ _ _ dX6_declare_68 h S
  · replace h := h.2 c1
    refine lv_iconst (v := (-1 : Int32)) C.1 C.2.1 dX6_declare_38 (by decide) ?_
    exact hR _ _ _ _ _ _ dX6_declare_39 h S
theorem kM_X6_declare : s_M yX6_declare cX6_declare 6 (some .int) 3 := ⟨co_X6_declare, in_X6, by decide, by decide, by decide +kernel⟩
set_option maxHeartbeats 4000000 in
set_option maxRecDepth 100000 in
theorem c_X6_declare (l : Launch) (G : s_G) (x1 : Int32) (x2 : Int32) (x3 : Int32) (σ : Sg) (post : Int32 → Sg → Prop) (h : wpX6_declare x1 x2 x3 σ post) : Met l yX6_declare (wsU yX6_declare cX6_declare 6 (some .int)) rm_X6_declare (va_Pc [.ref (G.2.2 + 0), .int x1, .int x2, .int x3] (s_Pre G σ)) (va_Qi post (s_B G) (s_A G.2.2)) 0 0 (s_A G.2.2) := by
  refine Met.ofW (cc := cX6_declare) (maxL := 6) (ret := (some .int)) (by decide) rfl ?_
  intro p e s m args below meth c s₁ B hml hv
  obtain ⟨rfl, hP, hrok, hK, hN⟩ := hv
  have C : s_C G p s (([.ref (G.2.2 + 0), .int x1, .int x2, .int x3] : List Value).toArray) m c RX6 cX6_declare := ⟨B.exec, B.bytes, findClass_of_methodNamed B.named, fun w hw => atoms_spec (ws := wsU yX6_declare cX6_declare 6 (some .int)) B.pre w (List.mem_cons_of_mem _ hw), hK, hN⟩
  have hr := B.returns
  have hlocks := B.notSynchronized
  have S : s_St G σ s.heap s.heap [] := ⟨hP, va_S.rf, hrok⟩
  have hcs : 0 ≤ (rm_X6_declare).cells ∧ 0 ≤ (rm_X6_declare).slots := ⟨Nat.le_refl 0, Nat.le_refl 0⟩
  have hR : ∀ (r : Int32) (σ1 : Sg) (H : Heap) (locs : List Loc) (pc : Nat) (ls : Array Slot), decode cX6_declare pc = .ok (.ireturn, 1) → post r σ1 → s_St G σ1 s.heap H locs → W p l e rm_X6_declare s m ([.ref (G.2.2 + 0), .int x1, .int x2, .int x3] : List Value).toArray below meth c H locs 0 0 (MQ below (va_Qi post (s_B G) (s_A G.2.2)) ([.ref (G.2.2 + 0), .int x1, .int x2, .int x3] : List Value).toArray s 0 0 (s_A G.2.2)) (F0 m pc ls [.int r]) := fun _ _ _ _ _ _ hd hp S => ret_i C hr hlocks hd hp S
  have hl := lv_entry ([.ref (G.2.2 + 0), .int x1, .int x2, .int x3]) (n := 6) (Nat.le_of_ble_eq_true rfl)
  rw [lg_entry_eq]
  generalize (lg_sl ([.ref (G.2.2 + 0), .int x1, .int x2, .int x3]) ++ List.replicate (6 - (lg_sl ([.ref (G.2.2 + 0), .int x1, .int x2, .int x3])).length) Slot.unset).toArray = ls at hl ⊢
  have hl : lv_has ls 6 [(0, .ref (G.2.2 + 0)), (1, .int x1), (2, .int x2), (3, .int x3)] := hl
  unfold wpX6_declare at h
  refine lv_iload_n C.1 C.2.1 dX6_declare_0 rfl (lv_at hl 1 rfl) ?_
  refine k_i (r_S (As := [.int x1]) (rest := []) C hml (c_X6_isKind l G x1 σ _ h) kM_X6_isKind st_X6_isKind ml_X6_69 ⟨rfl, rfl⟩ ⟨Nat.le_of_ble_eq_true rfl, Nat.le_of_ble_eq_true rfl⟩ hcs S rfl hl.1 rfl (Nat.le_of_ble_eq_true rfl) dX6_declare_1) S (fun r13 σ12 H locs h S => ?_)
  refine lv_if_eq (tgt := 30) C.1 C.2.1 dX6_declare_4 (by decide) (fun c14 => ?_) (fun c14 => ?_)
  · replace h := h.1 c14
    refine lv_iconst (v := (0 : Int32)) C.1 C.2.1 dX6_declare_30 (by decide) ?_
    exact TX6_declare_31 C hml hcs hR ((0 : Int32)) S (lv_sub hl [0, 1, 2, 3] rfl) h
  · replace h := h.2 c14
    refine lv_iload_n C.1 C.2.1 dX6_declare_7 rfl (lv_at hl 2 rfl) ?_
    refine lv_if_lt (tgt := 30) C.1 C.2.1 dX6_declare_8 (by decide) (fun c15 => ?_) (fun c15 => ?_)
    · replace h := h.1 c15
      refine lv_iconst (v := (0 : Int32)) C.1 C.2.1 dX6_declare_30 (by decide) ?_
      exact TX6_declare_31 C hml hcs hR ((0 : Int32)) S (lv_sub hl [0, 1, 2, 3] rfl) h
    · replace h := h.2 c15
      refine lv_iload_n C.1 C.2.1 dX6_declare_11 rfl (lv_at hl 3 rfl) ?_
      refine lv_iconst (v := (1 : Int32)) C.1 C.2.1 dX6_declare_12 (by decide) ?_
      refine lv_icmp_lt (tgt := 30) C.1 C.2.1 dX6_declare_13 (by decide) (fun c16 => ?_) (fun c16 => ?_)
      · replace h := h.1 c16
        refine lv_iconst (v := (0 : Int32)) C.1 C.2.1 dX6_declare_30 (by decide) ?_
        exact TX6_declare_31 C hml hcs hR ((0 : Int32)) S (lv_sub hl [0, 1, 2, 3] rfl) h
      · replace h := h.2 c16
        refine lv_iload_n C.1 C.2.1 dX6_declare_16 rfl (lv_at hl 3 rfl) ?_
        refine lv_iconst (v := (3 : Int32)) C.1 C.2.1 dX6_declare_17 (by decide) ?_
        refine lv_icmp_gt (tgt := 30) C.1 C.2.1 dX6_declare_18 (by decide) (fun c17 => ?_) (fun c17 => ?_)
        · replace h := h.1 c17
          refine lv_iconst (v := (0 : Int32)) C.1 C.2.1 dX6_declare_30 (by decide) ?_
          exact TX6_declare_31 C hml hcs hR ((0 : Int32)) S (lv_sub hl [0, 1, 2, 3] rfl) h
        · replace h := h.2 c17
          refine lv_iload_n C.1 C.2.1 dX6_declare_21 rfl (lv_at hl 2 rfl) ?_
          refine lv_iload_n C.1 C.2.1 dX6_declare_22 rfl (lv_at hl 3 rfl) ?_
          refine lv_icmp_gt (tgt := 30) C.1 C.2.1 dX6_declare_23 (by decide) (fun c18 => ?_) (fun c18 => ?_)
          · replace h := h.1 c18
            refine lv_iconst (v := (0 : Int32)) C.1 C.2.1 dX6_declare_30 (by decide) ?_
            exact TX6_declare_31 C hml hcs hR ((0 : Int32)) S (lv_sub hl [0, 1, 2, 3] rfl) h
          · replace h := h.2 c18
            refine lv_iconst (v := (1 : Int32)) C.1 C.2.1 dX6_declare_26 (by decide) ?_
            refine lv_goto (tgt := 31) C.1 C.2.1 dX6_declare_27 (by decide) ?_
            exact TX6_declare_31 C hml hcs hR ((1 : Int32)) S (lv_sub hl [0, 1, 2, 3] rfl) h
/-! X6_fault -/
abbrev rm_X6_fault : Room := { frames := 6, cells := 0, slots := 0, locals := 144 }
def wpX6_fault  (σ : Sg) (post : Int32 → Sg → Prop) : Prop := wpX5_learn σ (fun σ1 => wpX5_exists σ1 (fun r3 σ2 => (((r3 = 0) → wpX5_farthest σ2 (fun r6 σ5 => post r6 σ5)) ∧ ((¬ r3 = 0) → post ((-9 : Int32)) σ2))))
theorem kM_X6_fault : s_M yX6_fault cX6_fault 1 (some .int) 0 := ⟨co_X6_fault, in_X6, by decide, by decide, by decide +kernel⟩
set_option maxHeartbeats 4000000 in
set_option maxRecDepth 100000 in
theorem c_X6_fault (l : Launch) (G : s_G)  (σ : Sg) (post : Int32 → Sg → Prop) (h : wpX6_fault σ post) : Met l yX6_fault (wsU yX6_fault cX6_fault 1 (some .int)) rm_X6_fault (va_Pc [.ref (G.2.2 + 0)] (s_Pre G σ)) (va_Qi post (s_B G) (s_A G.2.2)) 0 0 (s_A G.2.2) := by
  refine Met.ofW (cc := cX6_fault) (maxL := 1) (ret := (some .int)) (by decide) rfl ?_
  intro p e s m args below meth c s₁ B hml hv
  obtain ⟨rfl, hP, hrok, hK, hN⟩ := hv
  have C : s_C G p s (([.ref (G.2.2 + 0)] : List Value).toArray) m c RX6 cX6_fault := ⟨B.exec, B.bytes, findClass_of_methodNamed B.named, fun w hw => atoms_spec (ws := wsU yX6_fault cX6_fault 1 (some .int)) B.pre w (List.mem_cons_of_mem _ hw), hK, hN⟩
  have hr := B.returns
  have hlocks := B.notSynchronized
  have S : s_St G σ s.heap s.heap [] := ⟨hP, va_S.rf, hrok⟩
  have hcs : 0 ≤ (rm_X6_fault).cells ∧ 0 ≤ (rm_X6_fault).slots := ⟨Nat.le_refl 0, Nat.le_refl 0⟩
  have hR : ∀ (r : Int32) (σ1 : Sg) (H : Heap) (locs : List Loc) (pc : Nat) (ls : Array Slot), decode cX6_fault pc = .ok (.ireturn, 1) → post r σ1 → s_St G σ1 s.heap H locs → W p l e rm_X6_fault s m ([.ref (G.2.2 + 0)] : List Value).toArray below meth c H locs 0 0 (MQ below (va_Qi post (s_B G) (s_A G.2.2)) ([.ref (G.2.2 + 0)] : List Value).toArray s 0 0 (s_A G.2.2)) (F0 m pc ls [.int r]) := fun _ _ _ _ _ _ hd hp S => ret_i C hr hlocks hd hp S
  have hl := lv_entry ([.ref (G.2.2 + 0)]) (n := 1) (Nat.le_of_ble_eq_true rfl)
  rw [lg_entry_eq]
  generalize (lg_sl ([.ref (G.2.2 + 0)]) ++ List.replicate (1 - (lg_sl ([.ref (G.2.2 + 0)])).length) Slot.unset).toArray = ls at hl ⊢
  have hl : lv_has ls 1 [(0, .ref (G.2.2 + 0))] := hl
  unfold wpX6_fault at h
  refine lv_aload_n C.1 C.2.1 dX6_fault_0 rfl (lv_at hl 0 rfl) ?_
  refine g_X6_6 C fl_X6_44 kd_0 S fn_0_6 dX6_fault_1 ?_
  refine lv_aload_n C.1 C.2.1 dX6_fault_4 rfl (lv_at hl 0 rfl) ?_
  refine g_X6_2 C fl_X6_22 kd_0 S fn_0_2 dX6_fault_5 ?_
  refine lv_aload_n C.1 C.2.1 dX6_fault_8 rfl (lv_at hl 0 rfl) ?_
  refine g_X6_0 C fl_X6_10 kd_0 S fn_0_0 dX6_fault_9 ?_
  refine k_v (r_VN (As := [.ref (G.2.2 + 5), .ref (G.2.2 + 1)]) (rest := []) C hml (c_X5_learn l G σ _ h) kM_X5_learn im_X5_learn se_X5_learn nm_X6_164 ⟨rfl, rfl⟩ ⟨Nat.le_of_ble_eq_true rfl, Nat.le_of_ble_eq_true rfl⟩ hcs S kd_90 (by decide) (T := TX5) (N := 8) rfl rfl hl.1 rfl (Nat.le_of_ble_eq_true rfl) dX6_fault_12) S (fun σ1 H locs h S => ?_)
  refine lv_aload_n C.1 C.2.1 dX6_fault_15 rfl (lv_at hl 0 rfl) ?_
  refine g_X6_6 C fl_X6_44 kd_0 S fn_0_6 dX6_fault_16 ?_
  refine k_i (r_VN (As := []) (rest := []) C hml (c_X5_exists l G σ1 _ h) kM_X5_exists im_X5_exists se_X5_exists nm_X6_168 ⟨rfl, rfl⟩ ⟨Nat.le_of_ble_eq_true rfl, Nat.le_of_ble_eq_true rfl⟩ hcs S kd_90 (by decide) (T := TX5) (N := 8) rfl rfl hl.1 rfl (Nat.le_of_ble_eq_true rfl) dX6_fault_19) S (fun r3 σ2 H locs h S => ?_)
  refine lv_if_eq (tgt := 30) C.1 C.2.1 dX6_fault_22 (by decide) (fun c4 => ?_) (fun c4 => ?_)
  · replace h := h.1 c4
    refine lv_aload_n C.1 C.2.1 dX6_fault_30 rfl (lv_at hl 0 rfl) ?_
    refine g_X6_6 C fl_X6_44 kd_0 S fn_0_6 dX6_fault_31 ?_
    refine lv_aload_n C.1 C.2.1 dX6_fault_34 rfl (lv_at hl 0 rfl) ?_
    refine g_X6_2 C fl_X6_22 kd_0 S fn_0_2 dX6_fault_35 ?_
    refine lv_aload_n C.1 C.2.1 dX6_fault_38 rfl (lv_at hl 0 rfl) ?_
    refine g_X6_0 C fl_X6_10 kd_0 S fn_0_0 dX6_fault_39 ?_
    refine k_i (r_VN (As := [.ref (G.2.2 + 5), .ref (G.2.2 + 1)]) (rest := []) C hml (c_X5_farthest l G σ2 _ h) kM_X5_farthest im_X5_farthest se_X5_farthest nm_X6_172 ⟨rfl, rfl⟩ ⟨Nat.le_of_ble_eq_true rfl, Nat.le_of_ble_eq_true rfl⟩ hcs S kd_90 (by decide) (T := TX5) (N := 8) rfl rfl hl.1 rfl (Nat.le_of_ble_eq_true rfl) dX6_fault_42) S (fun r6 σ5 H locs h S => ?_)
    exact hR _ _ _ _ _ _ dX6_fault_45 h S
  · replace h := h.2 c4
    refine lv_bipush (v := (-9 : Int32)) C.1 C.2.1 dX6_fault_25 (by decide) ?_
    refine lv_goto (tgt := 45) C.1 C.2.1 dX6_fault_27 (by decide) ?_
    exact hR _ _ _ _ _ _ dX6_fault_45 h S
/-! X6_formNormal -/
abbrev rm_X6_formNormal : Room := { frames := 3, cells := 0, slots := 0, locals := 65 }
def BX6_formNormal_80  (K22 : Int32 → Int32 → Sg → Prop) (post : Sg → Prop) (x1 : Int32) (x2 : Int32) (σ : Sg) : Prop := wpX1_at 5 x1 σ (fun q2 σ1 => s_kd q2 = 3 → wpX5_numberAt x2 σ1 (fun r4 σ3 => wpX0_appendOccurrence 3 q2 r4 σ3 (fun σ5 => K22 x1 ((x2 + 1)) σ5)))
def BX6_formNormal_22  (K9 : Int32 → Sg → Prop) (post : Sg → Prop) : Nat → Int32 → Int32 → Sg → Prop
  | 0, _, _, _ => False
  | n + 1, x1, x2, σ => ((((σ.1 90 6) ≤ x2) → K9 ((x1 + 1)) σ) ∧ ((¬ (σ.1 90 6) ≤ x2) → wpX5_memberAt x2 σ (fun r8 σ7 => (((¬ r8 = x1) → BX6_formNormal_22 K9 post n x1 ((x2 + 1)) σ7) ∧ ((r8 = x1) → ((((σ7.1 3 1) ≤ 0) → BX6_formNormal_80 (BX6_formNormal_22 K9 post n) post x1 x2 σ7) ∧ ((¬ (σ7.1 3 1) ≤ 0) → ((((σ7.1 5 3) = 0) → BX6_formNormal_80 (BX6_formNormal_22 K9 post n) post x1 x2 σ7) ∧ ((¬ (σ7.1 5 3) = 0) → wpX0_append 3 ((σ7.1 5 3)) σ7 (fun r13 σ12 => BX6_formNormal_80 (BX6_formNormal_22 K9 post n) post x1 x2 σ12))))))))))
def BX6_formNormal_9  (post : Sg → Prop) : Nat → Int32 → Sg → Prop
  | 0, _, _ => False
  | n + 1, x1, σ => ((((σ.1 5 2) ≤ x1) → post σ) ∧ ((¬ (σ.1 5 2) ≤ x1) → ∃ nf, BX6_formNormal_22 (BX6_formNormal_9 post n) post nf x1 ((0 : Int32)) σ))
def wpX6_formNormal  (σ : Sg) (post : Sg → Prop) : Prop := wpX0_clear 3 σ (fun σ15 => ∃ nf, BX6_formNormal_9 post nf ((0 : Int32)) σ15)
set_option maxHeartbeats 4000000 in
set_option maxRecDepth 100000 in
theorem TX6_formNormal_80 (C : s_C G p s args m c RX6 cX6_formNormal) (hml : c.maxLocals = 3) (hcs : cells ≤ (rm_X6_formNormal).cells ∧ slots ≤ (rm_X6_formNormal).slots)  {K22 : Int32 → Int32 → Sg → Prop} {post : Sg → Prop} (hR : ∀ (σ1 : Sg) (H : Heap) (locs : List Loc) (pc : Nat) (ls : Array Slot), decode cX6_formNormal pc = .ok (.return_, 1) → post σ1 → s_St G σ1 H0 H locs → W p l e rm_X6_formNormal s m args below meth c H locs cells slots Q (F0 m pc ls [])) (hK22 : ∀ (x1 : Int32) (x2 : Int32), ∀ (σ : Sg) (H : Heap) (locs : List Loc) (ls : Array Slot), s_St G σ H0 H locs → lv_has ls 3 [(0, .ref (G.2.2 + 0)), (1, .int x1), (2, .int x2)] → K22 x1 x2 σ → W p l e rm_X6_formNormal s m args below meth c H locs cells slots Q (F0 m 22 ls [])) : ∀ (x1 : Int32) (x2 : Int32), ∀ {σ : Sg} {H : Heap} {locs : List Loc} {ls : Array Slot}, s_St G σ H0 H locs → lv_has ls 3 [(0, .ref (G.2.2 + 0)), (1, .int x1), (2, .int x2)] → BX6_formNormal_80 K22 post x1 x2 σ → W p l e rm_X6_formNormal s m args below meth c H locs cells slots Q (F0 m 80 ls []) := by
  intro x1 x2  σ H locs ls S hl h
  unfold BX6_formNormal_80 at h
  refine lv_aload_n C.1 C.2.1 dX6_formNormal_80 rfl (lv_at hl 0 rfl) ?_
  refine g_X6_1 C fl_X6_16 kd_0 S fn_0_1 dX6_formNormal_81 ?_
  refine lv_aload_n C.1 C.2.1 dX6_formNormal_84 rfl (lv_at hl 0 rfl) ?_
  refine g_X6_2 C fl_X6_22 kd_0 S fn_0_2 dX6_formNormal_85 ?_
  refine lv_iload_n C.1 C.2.1 dX6_formNormal_88 rfl (lv_at hl 1 rfl) ?_
  refine k_r (kd := 3) (r_VN (As := [.int x1]) (rest := [.ref (G.2.2 + 3)]) C hml (c_X1_at l G 5 x1 σ _ kd_5 h) kM_X1_at im_X1_at se_X1_at nm_X6_96 ⟨rfl, rfl⟩ ⟨Nat.le_of_ble_eq_true rfl, Nat.le_of_ble_eq_true rfl⟩ hcs S kd_5 (by decide) (T := TX1) (N := 4) rfl rfl hl.1 rfl (Nat.le_of_ble_eq_true rfl) dX6_formNormal_89) S (fun q2 σ1 H locs hq2 h S => ?_)
  replace h := h hq2
  refine lv_aload_n C.1 C.2.1 dX6_formNormal_92 rfl (lv_at hl 0 rfl) ?_
  refine g_X6_6 C fl_X6_44 kd_0 S fn_0_6 dX6_formNormal_93 ?_
  refine lv_iload_n C.1 C.2.1 dX6_formNormal_96 rfl (lv_at hl 2 rfl) ?_
  refine k_i (r_VN (As := [.int x2]) (rest := [.ref (G.2.2 + q2), .ref (G.2.2 + 3)]) C hml (c_X5_numberAt l G x2 σ1 _ h) kM_X5_numberAt im_X5_numberAt se_X5_numberAt nm_X6_194 ⟨rfl, rfl⟩ ⟨Nat.le_of_ble_eq_true rfl, Nat.le_of_ble_eq_true rfl⟩ hcs S kd_90 (by decide) (T := TX5) (N := 8) rfl rfl hl.1 rfl (Nat.le_of_ble_eq_true rfl) dX6_formNormal_97) S (fun r4 σ3 H locs h S => ?_)
  refine k_v (r_VN (As := [.ref (G.2.2 + q2), .int r4]) (rest := []) C hml (c_X0_appendOccurrence l G 3 q2 r4 σ3 _ kd_3 hq2 h) kM_X0_appendOccurrence im_X0_appendOccurrence se_X0_appendOccurrence nm_X6_209 ⟨rfl, rfl⟩ ⟨Nat.le_of_ble_eq_true rfl, Nat.le_of_ble_eq_true rfl⟩ hcs S kd_3 (by decide) (T := TX0) (N := 2) rfl rfl hl.1 rfl (Nat.le_of_ble_eq_true rfl) dX6_formNormal_100) S (fun σ5 H locs h S => ?_)
  refine lv_iinc (v := (x2 + 1)) (lv' := [(2, .int (x2 + 1)), (0, .ref (G.2.2 + 0)), (1, .int x1)]) C.1 C.2.1 dX6_formNormal_103 hl (k := 2) rfl rfl (by decide) rfl (fun ls hl => ?_)
  refine lv_goto (tgt := 22) C.1 C.2.1 dX6_formNormal_106 (by decide) ?_
  exact hK22 x1 ((x2 + 1)) _ _ _ _ S (lv_sub hl [1, 2, 0] rfl) h
set_option maxHeartbeats 4000000 in
set_option maxRecDepth 100000 in
theorem TX6_formNormal_22 (C : s_C G p s args m c RX6 cX6_formNormal) (hml : c.maxLocals = 3) (hcs : cells ≤ (rm_X6_formNormal).cells ∧ slots ≤ (rm_X6_formNormal).slots)  {K9 : Int32 → Sg → Prop} {post : Sg → Prop} (hR : ∀ (σ1 : Sg) (H : Heap) (locs : List Loc) (pc : Nat) (ls : Array Slot), decode cX6_formNormal pc = .ok (.return_, 1) → post σ1 → s_St G σ1 H0 H locs → W p l e rm_X6_formNormal s m args below meth c H locs cells slots Q (F0 m pc ls [])) (hK9 : ∀ (x1 : Int32), ∀ (σ : Sg) (H : Heap) (locs : List Loc) (ls : Array Slot), s_St G σ H0 H locs → lv_has ls 3 [(0, .ref (G.2.2 + 0)), (1, .int x1)] → K9 x1 σ → W p l e rm_X6_formNormal s m args below meth c H locs cells slots Q (F0 m 9 ls [])) : ∀ (n : Nat) (x1 : Int32) (x2 : Int32), ∀ {σ : Sg} {H : Heap} {locs : List Loc} {ls : Array Slot}, s_St G σ H0 H locs → lv_has ls 3 [(0, .ref (G.2.2 + 0)), (1, .int x1), (2, .int x2)] → BX6_formNormal_22 K9 post n x1 x2 σ → W p l e rm_X6_formNormal s m args below meth c H locs cells slots Q (F0 m 22 ls []) := by
  intro n
  induction n with
  | zero =>
    intro x1 x2  σ H locs ls S hl h
    exact absurd h (fun h => h)
  | succ n ih0 =>
    have ih : ∀ (x1 : Int32) (x2 : Int32), ∀ (σ : Sg) (H : Heap) (locs : List Loc) (ls : Array Slot), s_St G σ H0 H locs → lv_has ls 3 [(0, .ref (G.2.2 + 0)), (1, .int x1), (2, .int x2)] → BX6_formNormal_22 K9 post n x1 x2 σ → W p l e rm_X6_formNormal s m args below meth c H locs cells slots Q (F0 m 22 ls []) := fun x1 x2  _ _ _ _ => ih0 x1 x2 
    intro x1 x2  σ H locs ls S hl h
    refine lv_iload_n C.1 C.2.1 dX6_formNormal_22 rfl (lv_at hl 2 rfl) ?_
    refine lv_aload_n C.1 C.2.1 dX6_formNormal_23 rfl (lv_at hl 0 rfl) ?_
    refine g_X6_6 C fl_X6_44 kd_0 S fn_0_6 dX6_formNormal_24 ?_
    refine gn_X5_6 C nf_X6_197 kd_90 S dX6_formNormal_27 ?_
    refine lv_icmp_ge (tgt := 109) C.1 C.2.1 dX6_formNormal_30 (by decide) (fun c6 => ?_) (fun c6 => ?_)
    · replace h := h.1 c6
      refine lv_iinc (v := (x1 + 1)) (lv' := [(1, .int (x1 + 1)), (0, .ref (G.2.2 + 0)), (2, .int x2)]) C.1 C.2.1 dX6_formNormal_109 hl (k := 1) rfl rfl (by decide) rfl (fun ls hl => ?_)
      refine lv_goto (tgt := 9) C.1 C.2.1 dX6_formNormal_112 (by decide) ?_
      exact hK9 ((x1 + 1)) _ _ _ _ S (lv_sub hl [1, 0] rfl) h
    · replace h := h.2 c6
      refine lv_aload_n C.1 C.2.1 dX6_formNormal_33 rfl (lv_at hl 0 rfl) ?_
      refine g_X6_6 C fl_X6_44 kd_0 S fn_0_6 dX6_formNormal_34 ?_
      refine lv_iload_n C.1 C.2.1 dX6_formNormal_37 rfl (lv_at hl 2 rfl) ?_
      refine k_i (r_VN (As := [.int x2]) (rest := []) C hml (c_X5_memberAt l G x2 σ _ h) kM_X5_memberAt im_X5_memberAt se_X5_memberAt nm_X6_188 ⟨rfl, rfl⟩ ⟨Nat.le_of_ble_eq_true rfl, Nat.le_of_ble_eq_true rfl⟩ hcs S kd_90 (by decide) (T := TX5) (N := 8) rfl rfl hl.1 rfl (Nat.le_of_ble_eq_true rfl) dX6_formNormal_38) S (fun r8 σ7 H locs h S => ?_)
      refine lv_iload_n C.1 C.2.1 dX6_formNormal_41 rfl (lv_at hl 1 rfl) ?_
      refine lv_icmp_ne (tgt := 103) C.1 C.2.1 dX6_formNormal_42 (by decide) (fun c9 => ?_) (fun c9 => ?_)
      · replace h := h.1 c9
        refine lv_iinc (v := (x2 + 1)) (lv' := [(2, .int (x2 + 1)), (0, .ref (G.2.2 + 0)), (1, .int x1)]) C.1 C.2.1 dX6_formNormal_103 hl (k := 2) rfl rfl (by decide) rfl (fun ls hl => ?_)
        refine lv_goto (tgt := 22) C.1 C.2.1 dX6_formNormal_106 (by decide) ?_
        exact ih x1 ((x2 + 1)) _ _ _ _ S (lv_sub hl [1, 2, 0] rfl) h
      · replace h := h.2 c9
        refine lv_aload_n C.1 C.2.1 dX6_formNormal_45 rfl (lv_at hl 0 rfl) ?_
        refine g_X6_1 C fl_X6_16 kd_0 S fn_0_1 dX6_formNormal_46 ?_
        refine gn_X0_1 C nf_X6_62 kd_3 S dX6_formNormal_49 ?_
        refine lv_if_le (tgt := 80) C.1 C.2.1 dX6_formNormal_52 (by decide) (fun c10 => ?_) (fun c10 => ?_)
        · replace h := h.1 c10
          exact TX6_formNormal_80 C hml hcs hR ih x1 x2 S (lv_sub hl [0, 1, 2] rfl) h
        · replace h := h.2 c10
          refine lv_aload_n C.1 C.2.1 dX6_formNormal_55 rfl (lv_at hl 0 rfl) ?_
          refine g_X6_2 C fl_X6_22 kd_0 S fn_0_2 dX6_formNormal_56 ?_
          refine gn_X1_3 C nf_X6_114 kd_5 S dX6_formNormal_59 ?_
          refine lv_if_eq (tgt := 80) C.1 C.2.1 dX6_formNormal_62 (by decide) (fun c11 => ?_) (fun c11 => ?_)
          · replace h := h.1 c11
            exact TX6_formNormal_80 C hml hcs hR ih x1 x2 S (lv_sub hl [0, 1, 2] rfl) h
          · replace h := h.2 c11
            refine lv_aload_n C.1 C.2.1 dX6_formNormal_65 rfl (lv_at hl 0 rfl) ?_
            refine g_X6_1 C fl_X6_16 kd_0 S fn_0_1 dX6_formNormal_66 ?_
            refine lv_aload_n C.1 C.2.1 dX6_formNormal_69 rfl (lv_at hl 0 rfl) ?_
            refine g_X6_2 C fl_X6_22 kd_0 S fn_0_2 dX6_formNormal_70 ?_
            refine gn_X1_3 C nf_X6_114 kd_5 S dX6_formNormal_73 ?_
            refine k_i (r_VN (As := [.int (σ7.1 5 3)]) (rest := []) C hml (c_X0_append l G 3 ((σ7.1 5 3)) σ7 _ kd_3 h) kM_X0_append im_X0_append se_X0_append nm_X6_55 ⟨rfl, rfl⟩ ⟨Nat.le_of_ble_eq_true rfl, Nat.le_of_ble_eq_true rfl⟩ hcs S kd_3 (by decide) (T := TX0) (N := 2) rfl rfl hl.1 rfl (Nat.le_of_ble_eq_true rfl) dX6_formNormal_76) S (fun r13 σ12 H locs h S => ?_)
            refine lv_pop C.1 C.2.1 dX6_formNormal_79 rfl ?_
            exact TX6_formNormal_80 C hml hcs hR ih x1 x2 S (lv_sub hl [0, 1, 2] rfl) h
set_option maxHeartbeats 4000000 in
set_option maxRecDepth 100000 in
theorem TX6_formNormal_9 (C : s_C G p s args m c RX6 cX6_formNormal) (hml : c.maxLocals = 3) (hcs : cells ≤ (rm_X6_formNormal).cells ∧ slots ≤ (rm_X6_formNormal).slots)  {post : Sg → Prop} (hR : ∀ (σ1 : Sg) (H : Heap) (locs : List Loc) (pc : Nat) (ls : Array Slot), decode cX6_formNormal pc = .ok (.return_, 1) → post σ1 → s_St G σ1 H0 H locs → W p l e rm_X6_formNormal s m args below meth c H locs cells slots Q (F0 m pc ls [])) : ∀ (n : Nat) (x1 : Int32), ∀ {σ : Sg} {H : Heap} {locs : List Loc} {ls : Array Slot}, s_St G σ H0 H locs → lv_has ls 3 [(0, .ref (G.2.2 + 0)), (1, .int x1)] → BX6_formNormal_9 post n x1 σ → W p l e rm_X6_formNormal s m args below meth c H locs cells slots Q (F0 m 9 ls []) := by
  intro n
  induction n with
  | zero =>
    intro x1  σ H locs ls S hl h
    exact absurd h (fun h => h)
  | succ n ih0 =>
    have ih : ∀ (x1 : Int32), ∀ (σ : Sg) (H : Heap) (locs : List Loc) (ls : Array Slot), s_St G σ H0 H locs → lv_has ls 3 [(0, .ref (G.2.2 + 0)), (1, .int x1)] → BX6_formNormal_9 post n x1 σ → W p l e rm_X6_formNormal s m args below meth c H locs cells slots Q (F0 m 9 ls []) := fun x1  _ _ _ _ => ih0 x1 
    intro x1  σ H locs ls S hl h
    refine lv_iload_n C.1 C.2.1 dX6_formNormal_9 rfl (lv_at hl 1 rfl) ?_
    refine lv_aload_n C.1 C.2.1 dX6_formNormal_10 rfl (lv_at hl 0 rfl) ?_
    refine g_X6_2 C fl_X6_22 kd_0 S fn_0_2 dX6_formNormal_11 ?_
    refine gn_X1_2 C nf_X6_79 kd_5 S dX6_formNormal_14 ?_
    refine lv_icmp_ge (tgt := 115) C.1 C.2.1 dX6_formNormal_17 (by decide) (fun c14 => ?_) (fun c14 => ?_)
    · replace h := h.1 c14
      exact hR _ _ _ _ _ dX6_formNormal_115 h S
    · replace h := h.2 c14
      refine lv_iconst (v := (0 : Int32)) C.1 C.2.1 dX6_formNormal_20 (by decide) ?_
      refine lv_istore_n (lv' := [(2, .int (0 : Int32)), (0, .ref (G.2.2 + 0)), (1, .int x1)]) C.1 C.2.1 dX6_formNormal_21 rfl hl (by decide) rfl (fun ls hl => ?_)
      obtain ⟨nf, h⟩ := h
      exact TX6_formNormal_22 C hml hcs hR ih nf x1 ((0 : Int32)) S (lv_sub hl [1, 2, 0] rfl) h
theorem kM_X6_formNormal : s_M yX6_formNormal cX6_formNormal 3 none 0 := ⟨co_X6_formNormal, in_X6, by decide, by decide, by decide +kernel⟩
set_option maxHeartbeats 4000000 in
set_option maxRecDepth 100000 in
theorem c_X6_formNormal (l : Launch) (G : s_G)  (σ : Sg) (post : Sg → Prop) (h : wpX6_formNormal σ post) : Met l yX6_formNormal (wsU yX6_formNormal cX6_formNormal 3 none) rm_X6_formNormal (va_Pc [.ref (G.2.2 + 0)] (s_Pre G σ)) (va_Qv post (s_B G) (s_A G.2.2)) 0 0 (s_A G.2.2) := by
  refine Met.ofW (cc := cX6_formNormal) (maxL := 3) (ret := none) (by decide) rfl ?_
  intro p e s m args below meth c s₁ B hml hv
  obtain ⟨rfl, hP, hrok, hK, hN⟩ := hv
  have C : s_C G p s (([.ref (G.2.2 + 0)] : List Value).toArray) m c RX6 cX6_formNormal := ⟨B.exec, B.bytes, findClass_of_methodNamed B.named, fun w hw => atoms_spec (ws := wsU yX6_formNormal cX6_formNormal 3 none) B.pre w (List.mem_cons_of_mem _ hw), hK, hN⟩
  have hr := B.returns
  have hlocks := B.notSynchronized
  have S : s_St G σ s.heap s.heap [] := ⟨hP, va_S.rf, hrok⟩
  have hcs : 0 ≤ (rm_X6_formNormal).cells ∧ 0 ≤ (rm_X6_formNormal).slots := ⟨Nat.le_refl 0, Nat.le_refl 0⟩
  have hR : ∀ (σ1 : Sg) (H : Heap) (locs : List Loc) (pc : Nat) (ls : Array Slot), decode cX6_formNormal pc = .ok (.return_, 1) → post σ1 → s_St G σ1 s.heap H locs → W p l e rm_X6_formNormal s m ([.ref (G.2.2 + 0)] : List Value).toArray below meth c H locs 0 0 (MQ below (va_Qv post (s_B G) (s_A G.2.2)) ([.ref (G.2.2 + 0)] : List Value).toArray s 0 0 (s_A G.2.2)) (F0 m pc ls []) := fun _ _ _ _ _ hd hp S => ret_v C hr hlocks hd hp S
  have hl := lv_entry ([.ref (G.2.2 + 0)]) (n := 3) (Nat.le_of_ble_eq_true rfl)
  rw [lg_entry_eq]
  generalize (lg_sl ([.ref (G.2.2 + 0)]) ++ List.replicate (3 - (lg_sl ([.ref (G.2.2 + 0)])).length) Slot.unset).toArray = ls at hl ⊢
  have hl : lv_has ls 3 [(0, .ref (G.2.2 + 0))] := hl
  unfold wpX6_formNormal at h
  refine lv_aload_n C.1 C.2.1 dX6_formNormal_0 rfl (lv_at hl 0 rfl) ?_
  refine g_X6_1 C fl_X6_16 kd_0 S fn_0_1 dX6_formNormal_1 ?_
  refine k_v (r_VN (As := []) (rest := []) C hml (c_X0_clear l G 3 σ _ kd_3 h) kM_X0_clear im_X0_clear se_X0_clear nm_X6_66 ⟨rfl, rfl⟩ ⟨Nat.le_of_ble_eq_true rfl, Nat.le_of_ble_eq_true rfl⟩ hcs S kd_3 (by decide) (T := TX0) (N := 2) rfl rfl hl.1 rfl (Nat.le_of_ble_eq_true rfl) dX6_formNormal_4) S (fun σ15 H locs h S => ?_)
  refine lv_iconst (v := (0 : Int32)) C.1 C.2.1 dX6_formNormal_7 (by decide) ?_
  refine lv_istore_n (lv' := [(1, .int (0 : Int32)), (0, .ref (G.2.2 + 0))]) C.1 C.2.1 dX6_formNormal_8 rfl hl (by decide) rfl (fun ls hl => ?_)
  obtain ⟨nf, h⟩ := h
  exact TX6_formNormal_9 C hml hcs hR nf ((0 : Int32)) S (lv_sub hl [1, 0] rfl) h
/-! X6_keep -/
abbrev rm_X6_keep : Room := { frames := 2, cells := 0, slots := 0, locals := 43 }
def wpX6_keep (x1 : Int32) (σ : Sg) (post : Int32 → Sg → Prop) : Prop := wpX6_isImage x1 σ (fun r2 σ1 => (((¬ r2 = 0) → (vp_in x1 2 ∧ (∀ q4 : Nat, q4 = (σ1.2.2 88 (x1).toNatClampNeg) → wpX1_copyFrom q4 5 σ1 (fun σ6 => (vp_in x1 2 ∧ (∀ σ7 : Sg, σ7 = setI σ6 89 (x1).toNatClampNeg (vp_nar .boolean ((1 : Int32))) → post ((σ7.1 5 2)) σ7)))))) ∧ ((r2 = 0) → post ((-1 : Int32)) σ1)))
theorem kM_X6_keep : s_M yX6_keep cX6_keep 2 (some .int) 1 := ⟨co_X6_keep, in_X6, by decide, by decide, by decide +kernel⟩
set_option maxHeartbeats 4000000 in
set_option maxRecDepth 100000 in
theorem c_X6_keep (l : Launch) (G : s_G) (x1 : Int32) (σ : Sg) (post : Int32 → Sg → Prop) (h : wpX6_keep x1 σ post) : Met l yX6_keep (wsU yX6_keep cX6_keep 2 (some .int)) rm_X6_keep (va_Pc [.ref (G.2.2 + 0), .int x1] (s_Pre G σ)) (va_Qi post (s_B G) (s_A G.2.2)) 0 0 (s_A G.2.2) := by
  refine Met.ofW (cc := cX6_keep) (maxL := 2) (ret := (some .int)) (by decide) rfl ?_
  intro p e s m args below meth c s₁ B hml hv
  obtain ⟨rfl, hP, hrok, hK, hN⟩ := hv
  have C : s_C G p s (([.ref (G.2.2 + 0), .int x1] : List Value).toArray) m c RX6 cX6_keep := ⟨B.exec, B.bytes, findClass_of_methodNamed B.named, fun w hw => atoms_spec (ws := wsU yX6_keep cX6_keep 2 (some .int)) B.pre w (List.mem_cons_of_mem _ hw), hK, hN⟩
  have hr := B.returns
  have hlocks := B.notSynchronized
  have S : s_St G σ s.heap s.heap [] := ⟨hP, va_S.rf, hrok⟩
  have hcs : 0 ≤ (rm_X6_keep).cells ∧ 0 ≤ (rm_X6_keep).slots := ⟨Nat.le_refl 0, Nat.le_refl 0⟩
  have hR : ∀ (r : Int32) (σ1 : Sg) (H : Heap) (locs : List Loc) (pc : Nat) (ls : Array Slot), decode cX6_keep pc = .ok (.ireturn, 1) → post r σ1 → s_St G σ1 s.heap H locs → W p l e rm_X6_keep s m ([.ref (G.2.2 + 0), .int x1] : List Value).toArray below meth c H locs 0 0 (MQ below (va_Qi post (s_B G) (s_A G.2.2)) ([.ref (G.2.2 + 0), .int x1] : List Value).toArray s 0 0 (s_A G.2.2)) (F0 m pc ls [.int r]) := fun _ _ _ _ _ _ hd hp S => ret_i C hr hlocks hd hp S
  have hl := lv_entry ([.ref (G.2.2 + 0), .int x1]) (n := 2) (Nat.le_of_ble_eq_true rfl)
  rw [lg_entry_eq]
  generalize (lg_sl ([.ref (G.2.2 + 0), .int x1]) ++ List.replicate (2 - (lg_sl ([.ref (G.2.2 + 0), .int x1])).length) Slot.unset).toArray = ls at hl ⊢
  have hl : lv_has ls 2 [(0, .ref (G.2.2 + 0)), (1, .int x1)] := hl
  unfold wpX6_keep at h
  refine lv_aload_n C.1 C.2.1 dX6_keep_0 rfl (lv_at hl 0 rfl) ?_
  refine lv_iload_n C.1 C.2.1 dX6_keep_1 rfl (lv_at hl 1 rfl) ?_
  refine k_i (r_V (As := [.int x1]) (rest := []) C hml (c_X6_isImage l G x1 σ _ h) kM_X6_isImage im_X6_isImage se_X6_isImage ml_X6_231 ⟨rfl, rfl⟩ ⟨Nat.le_of_ble_eq_true rfl, Nat.le_of_ble_eq_true rfl⟩ hcs S kd_0 (by decide) (T := TX6) (N := 8) rfl rfl hl.1 rfl (Nat.le_of_ble_eq_true rfl) dX6_keep_2) S (fun r2 σ1 H locs h S => ?_)
  refine lv_if_ne (tgt := 10) C.1 C.2.1 dX6_keep_5 (by decide) (fun c3 => ?_) (fun c3 => ?_)
  · replace h := h.1 c3
    refine lv_aload_n C.1 C.2.1 dX6_keep_10 rfl (lv_at hl 0 rfl) ?_
    refine g_X6_4 C fl_X6_33 kd_0 S fn_0_4 dX6_keep_11 ?_
    refine lv_iload_n C.1 C.2.1 dX6_keep_14 rfl (lv_at hl 1 rfl) ?_
    have hq4 := (S.2.2 88 (x1).toNatClampNeg (vp_lt ln_88 h.1)).2 kd_88
    refine a_dld C kd_88 S ln_88 h.1 dX6_keep_15 ?_
    replace h := h.2
    obtain ⟨q4, e5⟩ : ∃ z, z = (σ1.2.2 88 (x1).toNatClampNeg) := ⟨_, rfl⟩
    rw [← e5] at hq4 ⊢
    replace h := h q4 e5
    refine lv_aload_n C.1 C.2.1 dX6_keep_16 rfl (lv_at hl 0 rfl) ?_
    refine g_X6_2 C fl_X6_22 kd_0 S fn_0_2 dX6_keep_17 ?_
    refine k_v (r_VN (As := [.ref (G.2.2 + 5)]) (rest := []) C hml (c_X1_copyFrom l G q4 5 σ1 _ hq4 kd_5 h) kM_X1_copyFrom im_X1_copyFrom se_X1_copyFrom nm_X6_234 ⟨rfl, rfl⟩ ⟨Nat.le_of_ble_eq_true rfl, Nat.le_of_ble_eq_true rfl⟩ hcs S hq4 (by decide) (T := TX1) (N := 4) rfl rfl hl.1 rfl (Nat.le_of_ble_eq_true rfl) dX6_keep_20) S (fun σ6 H locs h S => ?_)
    refine lv_aload_n C.1 C.2.1 dX6_keep_23 rfl (lv_at hl 0 rfl) ?_
    refine g_X6_5 C fl_X6_37 kd_0 S fn_0_5 dX6_keep_24 ?_
    refine lv_iload_n C.1 C.2.1 dX6_keep_27 rfl (lv_at hl 1 rfl) ?_
    refine lv_iconst (v := (1 : Int32)) C.1 C.2.1 dX6_keep_28 (by decide) ?_
    refine a_zst C kd_89 S ln_89 h.1 dX6_keep_29 (fun σ7 H locs e8 S => ?_)
    replace h := h.2 σ7 e8
    refine lv_aload_n C.1 C.2.1 dX6_keep_30 rfl (lv_at hl 0 rfl) ?_
    refine g_X6_2 C fl_X6_22 kd_0 S fn_0_2 dX6_keep_31 ?_
    refine gn_X1_2 C nf_X6_79 kd_5 S dX6_keep_34 ?_
    exact hR _ _ _ _ _ _ dX6_keep_37 h S
  · replace h := h.2 c3
    refine lv_iconst (v := (-1 : Int32)) C.1 C.2.1 dX6_keep_8 (by decide) ?_
    exact hR _ _ _ _ _ _ dX6_keep_9 h S
/-! X6_member -/
abbrev rm_X6_member : Room := { frames := 3, cells := 0, slots := 0, locals := 66 }
def wpX6_member (x1 : Int32) (x2 : Int32) (σ : Sg) (post : Int32 → Sg → Prop) : Prop := wpX1_has 5 x1 σ (fun r2 σ1 => (((r2 = 0) → post ((-1 : Int32)) σ1) ∧ ((¬ r2 = 0) → (((x2 < 0) → post ((-1 : Int32)) σ1) ∧ ((¬ x2 < 0) → (((x2 ≤ (9 : Int32)) → wpX1_at 5 x1 σ1 (fun q7 σ6 => s_kd q7 = 3 → ((((x2).toInt < 4 ∨ 9 < (x2).toInt) → wpX3_property q7 x2 σ6 (fun r10 σ9 => post r10 σ9)) ∧ ((x2 = 4) → wpX3_wordLength q7 σ6 (fun r12 σ11 => post r12 σ11)) ∧ ((x2 = 5) → wpX3_letter q7 ((x2 - (5 : Int32))) σ6 (fun r14 σ13 => post r14 σ13)) ∧ ((x2 = 6) → wpX3_letter q7 ((x2 - (5 : Int32))) σ6 (fun r16 σ15 => post r16 σ15)) ∧ ((x2 = 7) → wpX3_letter q7 ((x2 - (5 : Int32))) σ6 (fun r18 σ17 => post r18 σ17)) ∧ ((x2 = 8) → post ((σ6.1 q7 5)) σ6) ∧ ((x2 = 9) → wpX1_clashesOf 5 x1 σ6 (fun r20 σ19 => post r20 σ19))))) ∧ ((¬ x2 ≤ (9 : Int32)) → post ((-1 : Int32)) σ1)))))))
theorem kM_X6_member : s_M yX6_member cX6_member 4 (some .int) 2 := ⟨co_X6_member, in_X6, by decide, by decide, by decide +kernel⟩
set_option maxHeartbeats 4000000 in
set_option maxRecDepth 100000 in
theorem c_X6_member (l : Launch) (G : s_G) (x1 : Int32) (x2 : Int32) (σ : Sg) (post : Int32 → Sg → Prop) (h : wpX6_member x1 x2 σ post) : Met l yX6_member (wsU yX6_member cX6_member 4 (some .int)) rm_X6_member (va_Pc [.ref (G.2.2 + 0), .int x1, .int x2] (s_Pre G σ)) (va_Qi post (s_B G) (s_A G.2.2)) 0 0 (s_A G.2.2) := by
  refine Met.ofW (cc := cX6_member) (maxL := 4) (ret := (some .int)) (by decide) rfl ?_
  intro p e s m args below meth c s₁ B hml hv
  obtain ⟨rfl, hP, hrok, hK, hN⟩ := hv
  have C : s_C G p s (([.ref (G.2.2 + 0), .int x1, .int x2] : List Value).toArray) m c RX6 cX6_member := ⟨B.exec, B.bytes, findClass_of_methodNamed B.named, fun w hw => atoms_spec (ws := wsU yX6_member cX6_member 4 (some .int)) B.pre w (List.mem_cons_of_mem _ hw), hK, hN⟩
  have hr := B.returns
  have hlocks := B.notSynchronized
  have S : s_St G σ s.heap s.heap [] := ⟨hP, va_S.rf, hrok⟩
  have hcs : 0 ≤ (rm_X6_member).cells ∧ 0 ≤ (rm_X6_member).slots := ⟨Nat.le_refl 0, Nat.le_refl 0⟩
  have hR : ∀ (r : Int32) (σ1 : Sg) (H : Heap) (locs : List Loc) (pc : Nat) (ls : Array Slot), decode cX6_member pc = .ok (.ireturn, 1) → post r σ1 → s_St G σ1 s.heap H locs → W p l e rm_X6_member s m ([.ref (G.2.2 + 0), .int x1, .int x2] : List Value).toArray below meth c H locs 0 0 (MQ below (va_Qi post (s_B G) (s_A G.2.2)) ([.ref (G.2.2 + 0), .int x1, .int x2] : List Value).toArray s 0 0 (s_A G.2.2)) (F0 m pc ls [.int r]) := fun _ _ _ _ _ _ hd hp S => ret_i C hr hlocks hd hp S
  have hl := lv_entry ([.ref (G.2.2 + 0), .int x1, .int x2]) (n := 4) (Nat.le_of_ble_eq_true rfl)
  rw [lg_entry_eq]
  generalize (lg_sl ([.ref (G.2.2 + 0), .int x1, .int x2]) ++ List.replicate (4 - (lg_sl ([.ref (G.2.2 + 0), .int x1, .int x2])).length) Slot.unset).toArray = ls at hl ⊢
  have hl : lv_has ls 4 [(0, .ref (G.2.2 + 0)), (1, .int x1), (2, .int x2)] := hl
  unfold wpX6_member at h
  refine lv_aload_n C.1 C.2.1 dX6_member_0 rfl (lv_at hl 0 rfl) ?_
  refine g_X6_2 C fl_X6_22 kd_0 S fn_0_2 dX6_member_1 ?_
  refine lv_iload_n C.1 C.2.1 dX6_member_4 rfl (lv_at hl 1 rfl) ?_
  refine k_i (r_VN (As := [.int x1]) (rest := []) C hml (c_X1_has l G 5 x1 σ _ kd_5 h) kM_X1_has im_X1_has se_X1_has nm_X6_89 ⟨rfl, rfl⟩ ⟨Nat.le_of_ble_eq_true rfl, Nat.le_of_ble_eq_true rfl⟩ hcs S kd_5 (by decide) (T := TX1) (N := 4) rfl rfl hl.1 rfl (Nat.le_of_ble_eq_true rfl) dX6_member_5) S (fun r2 σ1 H locs h S => ?_)
  refine lv_if_eq (tgt := 21) C.1 C.2.1 dX6_member_8 (by decide) (fun c3 => ?_) (fun c3 => ?_)
  · replace h := h.1 c3
    refine lv_iconst (v := (-1 : Int32)) C.1 C.2.1 dX6_member_21 (by decide) ?_
    exact hR _ _ _ _ _ _ dX6_member_22 h S
  · replace h := h.2 c3
    refine lv_iload_n C.1 C.2.1 dX6_member_11 rfl (lv_at hl 2 rfl) ?_
    refine lv_if_lt (tgt := 21) C.1 C.2.1 dX6_member_12 (by decide) (fun c4 => ?_) (fun c4 => ?_)
    · replace h := h.1 c4
      refine lv_iconst (v := (-1 : Int32)) C.1 C.2.1 dX6_member_21 (by decide) ?_
      exact hR _ _ _ _ _ _ dX6_member_22 h S
    · replace h := h.2 c4
      refine lv_iload_n C.1 C.2.1 dX6_member_15 rfl (lv_at hl 2 rfl) ?_
      refine lv_bipush (v := (9 : Int32)) C.1 C.2.1 dX6_member_16 (by decide) ?_
      refine lv_icmp_le (tgt := 23) C.1 C.2.1 dX6_member_18 (by decide) (fun c5 => ?_) (fun c5 => ?_)
      · replace h := h.1 c5
        refine lv_aload_n C.1 C.2.1 dX6_member_23 rfl (lv_at hl 0 rfl) ?_
        refine g_X6_2 C fl_X6_22 kd_0 S fn_0_2 dX6_member_24 ?_
        refine lv_iload_n C.1 C.2.1 dX6_member_27 rfl (lv_at hl 1 rfl) ?_
        refine k_r (kd := 3) (r_VN (As := [.int x1]) (rest := []) C hml (c_X1_at l G 5 x1 σ1 _ kd_5 h) kM_X1_at im_X1_at se_X1_at nm_X6_96 ⟨rfl, rfl⟩ ⟨Nat.le_of_ble_eq_true rfl, Nat.le_of_ble_eq_true rfl⟩ hcs S kd_5 (by decide) (T := TX1) (N := 4) rfl rfl hl.1 rfl (Nat.le_of_ble_eq_true rfl) dX6_member_28) S (fun q7 σ6 H locs hq7 h S => ?_)
        replace h := h hq7
        refine lv_astore_n (lv' := [(3, .ref (G.2.2 + q7)), (0, .ref (G.2.2 + 0)), (1, .int x1), (2, .int x2)]) C.1 C.2.1 dX6_member_31 rfl hl (by decide) rfl (fun ls hl => ?_)
        refine lv_iload_n C.1 C.2.1 dX6_member_32 rfl (lv_at hl 3 rfl) ?_
        rcases (sw_4_9 x2) with c8 | c8 | c8 | c8 | c8 | c8 | c8
        · replace h := h.1 c8
          refine lv_tableOut (tgt := 99) C.1 C.2.1 dX6_member_33 c8 (by decide) ?_
          refine lv_aload_n C.1 C.2.1 dX6_member_99 rfl (lv_at hl 0 rfl) ?_
          refine lv_iload_n C.1 C.2.1 dX6_member_100 rfl (lv_at hl 3 rfl) ?_
          refine k_i (r_VN (As := [.int x2]) (rest := []) C hml (c_X3_property l G q7 x2 σ6 _ hq7 h) kM_X3_property im_X3_property se_X3_property nm_X6_161 ⟨rfl, rfl⟩ ⟨Nat.le_of_ble_eq_true rfl, Nat.le_of_ble_eq_true rfl⟩ hcs S hq7 (by decide) (T := TX3) (N := 6) rfl rfl hl.1 rfl (Nat.le_of_ble_eq_true rfl) dX6_member_101) S (fun r10 σ9 H locs h S => ?_)
          exact hR _ _ _ _ _ _ dX6_member_104 h S
        · replace h := h.2.1 c8
          refine lv_tableIn (tgt := 72) (off := 39) C.1 C.2.1 dX6_member_33 (by rw [c8]; decide) (by rw [c8]; decide) (by rw [c8]; decide) (by decide) ?_
          refine lv_aload_n C.1 C.2.1 dX6_member_72 rfl (lv_at hl 0 rfl) ?_
          refine k_i (r_VN (As := []) (rest := []) C hml (c_X3_wordLength l G q7 σ6 _ hq7 h) kM_X3_wordLength im_X3_wordLength se_X3_wordLength nm_X6_151 ⟨rfl, rfl⟩ ⟨Nat.le_of_ble_eq_true rfl, Nat.le_of_ble_eq_true rfl⟩ hcs S hq7 (by decide) (T := TX3) (N := 6) rfl rfl hl.1 rfl (Nat.le_of_ble_eq_true rfl) dX6_member_73) S (fun r12 σ11 H locs h S => ?_)
          exact hR _ _ _ _ _ _ dX6_member_76 h S
        · replace h := h.2.2.1 c8
          refine lv_tableIn (tgt := 77) (off := 44) C.1 C.2.1 dX6_member_33 (by rw [c8]; decide) (by rw [c8]; decide) (by rw [c8]; decide) (by decide) ?_
          refine lv_aload_n C.1 C.2.1 dX6_member_77 rfl (lv_at hl 0 rfl) ?_
          refine lv_iload_n C.1 C.2.1 dX6_member_78 rfl (lv_at hl 3 rfl) ?_
          refine lv_iconst (v := (5 : Int32)) C.1 C.2.1 dX6_member_79 (by decide) ?_
          refine lv_isub C.1 C.2.1 dX6_member_80 ?_
          refine k_i (r_VN (As := [.int (x2 - (5 : Int32))]) (rest := []) C hml (c_X3_letter l G q7 ((x2 - (5 : Int32))) σ6 _ hq7 h) kM_X3_letter im_X3_letter se_X3_letter nm_X6_154 ⟨rfl, rfl⟩ ⟨Nat.le_of_ble_eq_true rfl, Nat.le_of_ble_eq_true rfl⟩ hcs S hq7 (by decide) (T := TX3) (N := 6) rfl rfl hl.1 rfl (Nat.le_of_ble_eq_true rfl) dX6_member_81) S (fun r14 σ13 H locs h S => ?_)
          exact hR _ _ _ _ _ _ dX6_member_84 h S
        · replace h := h.2.2.2.1 c8
          refine lv_tableIn (tgt := 77) (off := 44) C.1 C.2.1 dX6_member_33 (by rw [c8]; decide) (by rw [c8]; decide) (by rw [c8]; decide) (by decide) ?_
          refine lv_aload_n C.1 C.2.1 dX6_member_77 rfl (lv_at hl 0 rfl) ?_
          refine lv_iload_n C.1 C.2.1 dX6_member_78 rfl (lv_at hl 3 rfl) ?_
          refine lv_iconst (v := (5 : Int32)) C.1 C.2.1 dX6_member_79 (by decide) ?_
          refine lv_isub C.1 C.2.1 dX6_member_80 ?_
          refine k_i (r_VN (As := [.int (x2 - (5 : Int32))]) (rest := []) C hml (c_X3_letter l G q7 ((x2 - (5 : Int32))) σ6 _ hq7 h) kM_X3_letter im_X3_letter se_X3_letter nm_X6_154 ⟨rfl, rfl⟩ ⟨Nat.le_of_ble_eq_true rfl, Nat.le_of_ble_eq_true rfl⟩ hcs S hq7 (by decide) (T := TX3) (N := 6) rfl rfl hl.1 rfl (Nat.le_of_ble_eq_true rfl) dX6_member_81) S (fun r16 σ15 H locs h S => ?_)
          exact hR _ _ _ _ _ _ dX6_member_84 h S
        · replace h := h.2.2.2.2.1 c8
          refine lv_tableIn (tgt := 77) (off := 44) C.1 C.2.1 dX6_member_33 (by rw [c8]; decide) (by rw [c8]; decide) (by rw [c8]; decide) (by decide) ?_
          refine lv_aload_n C.1 C.2.1 dX6_member_77 rfl (lv_at hl 0 rfl) ?_
          refine lv_iload_n C.1 C.2.1 dX6_member_78 rfl (lv_at hl 3 rfl) ?_
          refine lv_iconst (v := (5 : Int32)) C.1 C.2.1 dX6_member_79 (by decide) ?_
          refine lv_isub C.1 C.2.1 dX6_member_80 ?_
          refine k_i (r_VN (As := [.int (x2 - (5 : Int32))]) (rest := []) C hml (c_X3_letter l G q7 ((x2 - (5 : Int32))) σ6 _ hq7 h) kM_X3_letter im_X3_letter se_X3_letter nm_X6_154 ⟨rfl, rfl⟩ ⟨Nat.le_of_ble_eq_true rfl, Nat.le_of_ble_eq_true rfl⟩ hcs S hq7 (by decide) (T := TX3) (N := 6) rfl rfl hl.1 rfl (Nat.le_of_ble_eq_true rfl) dX6_member_81) S (fun r18 σ17 H locs h S => ?_)
          exact hR _ _ _ _ _ _ dX6_member_84 h S
        · replace h := h.2.2.2.2.2.1 c8
          refine lv_tableIn (tgt := 85) (off := 52) C.1 C.2.1 dX6_member_33 (by rw [c8]; decide) (by rw [c8]; decide) (by rw [c8]; decide) (by decide) ?_
          refine lv_aload_n C.1 C.2.1 dX6_member_85 rfl (lv_at hl 0 rfl) ?_
          refine gn_X3_5 C nf_X6_117 hq7 S dX6_member_86 ?_
          exact hR _ _ _ _ _ _ dX6_member_89 h S
        · replace h := h.2.2.2.2.2.2 c8
          refine lv_tableIn (tgt := 90) (off := 57) C.1 C.2.1 dX6_member_33 (by rw [c8]; decide) (by rw [c8]; decide) (by rw [c8]; decide) (by decide) ?_
          refine lv_aload_n C.1 C.2.1 dX6_member_90 rfl (lv_at hl 1 rfl) ?_
          refine g_X6_2 C fl_X6_22 kd_0 S fn_0_2 dX6_member_91 ?_
          refine lv_iload_n C.1 C.2.1 dX6_member_94 rfl (lv_at hl 2 rfl) ?_
          refine k_i (r_VN (As := [.int x1]) (rest := []) C hml (c_X1_clashesOf l G 5 x1 σ6 _ kd_5 h) kM_X1_clashesOf im_X1_clashesOf se_X1_clashesOf nm_X6_158 ⟨rfl, rfl⟩ ⟨Nat.le_of_ble_eq_true rfl, Nat.le_of_ble_eq_true rfl⟩ hcs S kd_5 (by decide) (T := TX1) (N := 4) rfl rfl hl.1 rfl (Nat.le_of_ble_eq_true rfl) dX6_member_95) S (fun r20 σ19 H locs h S => ?_)
          exact hR _ _ _ _ _ _ dX6_member_98 h S
      · replace h := h.2 c5
        refine lv_iconst (v := (-1 : Int32)) C.1 C.2.1 dX6_member_21 (by decide) ?_
        exact hR _ _ _ _ _ _ dX6_member_22 h S
/-! X6_move -/
abbrev rm_X6_move : Room := { frames := 4, cells := 0, slots := 0, locals := 84 }
def wpX6_move (x1 : Int32) (x2 : Int32) (σ : Sg) (post : Int32 → Sg → Prop) : Prop := wpX1_has 5 x1 σ (fun r2 σ1 => (((r2 = 0) → post ((-1 : Int32)) σ1) ∧ ((¬ r2 = 0) → wpX1_has 5 x2 σ1 (fun r5 σ4 => (((¬ r5 = 0) → wpX6_beginChange σ4 (fun σ7 => wpX1_reseat 5 x1 x2 σ7 (fun σ8 => post x2 σ8))) ∧ ((r5 = 0) → post ((-1 : Int32)) σ4))))))
theorem kM_X6_move : s_M yX6_move cX6_move 3 (some .int) 2 := ⟨co_X6_move, in_X6, by decide, by decide, by decide +kernel⟩
set_option maxHeartbeats 4000000 in
set_option maxRecDepth 100000 in
theorem c_X6_move (l : Launch) (G : s_G) (x1 : Int32) (x2 : Int32) (σ : Sg) (post : Int32 → Sg → Prop) (h : wpX6_move x1 x2 σ post) : Met l yX6_move (wsU yX6_move cX6_move 3 (some .int)) rm_X6_move (va_Pc [.ref (G.2.2 + 0), .int x1, .int x2] (s_Pre G σ)) (va_Qi post (s_B G) (s_A G.2.2)) 0 0 (s_A G.2.2) := by
  refine Met.ofW (cc := cX6_move) (maxL := 3) (ret := (some .int)) (by decide) rfl ?_
  intro p e s m args below meth c s₁ B hml hv
  obtain ⟨rfl, hP, hrok, hK, hN⟩ := hv
  have C : s_C G p s (([.ref (G.2.2 + 0), .int x1, .int x2] : List Value).toArray) m c RX6 cX6_move := ⟨B.exec, B.bytes, findClass_of_methodNamed B.named, fun w hw => atoms_spec (ws := wsU yX6_move cX6_move 3 (some .int)) B.pre w (List.mem_cons_of_mem _ hw), hK, hN⟩
  have hr := B.returns
  have hlocks := B.notSynchronized
  have S : s_St G σ s.heap s.heap [] := ⟨hP, va_S.rf, hrok⟩
  have hcs : 0 ≤ (rm_X6_move).cells ∧ 0 ≤ (rm_X6_move).slots := ⟨Nat.le_refl 0, Nat.le_refl 0⟩
  have hR : ∀ (r : Int32) (σ1 : Sg) (H : Heap) (locs : List Loc) (pc : Nat) (ls : Array Slot), decode cX6_move pc = .ok (.ireturn, 1) → post r σ1 → s_St G σ1 s.heap H locs → W p l e rm_X6_move s m ([.ref (G.2.2 + 0), .int x1, .int x2] : List Value).toArray below meth c H locs 0 0 (MQ below (va_Qi post (s_B G) (s_A G.2.2)) ([.ref (G.2.2 + 0), .int x1, .int x2] : List Value).toArray s 0 0 (s_A G.2.2)) (F0 m pc ls [.int r]) := fun _ _ _ _ _ _ hd hp S => ret_i C hr hlocks hd hp S
  have hl := lv_entry ([.ref (G.2.2 + 0), .int x1, .int x2]) (n := 3) (Nat.le_of_ble_eq_true rfl)
  rw [lg_entry_eq]
  generalize (lg_sl ([.ref (G.2.2 + 0), .int x1, .int x2]) ++ List.replicate (3 - (lg_sl ([.ref (G.2.2 + 0), .int x1, .int x2])).length) Slot.unset).toArray = ls at hl ⊢
  have hl : lv_has ls 3 [(0, .ref (G.2.2 + 0)), (1, .int x1), (2, .int x2)] := hl
  unfold wpX6_move at h
  refine lv_aload_n C.1 C.2.1 dX6_move_0 rfl (lv_at hl 0 rfl) ?_
  refine g_X6_2 C fl_X6_22 kd_0 S fn_0_2 dX6_move_1 ?_
  refine lv_iload_n C.1 C.2.1 dX6_move_4 rfl (lv_at hl 1 rfl) ?_
  refine k_i (r_VN (As := [.int x1]) (rest := []) C hml (c_X1_has l G 5 x1 σ _ kd_5 h) kM_X1_has im_X1_has se_X1_has nm_X6_89 ⟨rfl, rfl⟩ ⟨Nat.le_of_ble_eq_true rfl, Nat.le_of_ble_eq_true rfl⟩ hcs S kd_5 (by decide) (T := TX1) (N := 4) rfl rfl hl.1 rfl (Nat.le_of_ble_eq_true rfl) dX6_move_5) S (fun r2 σ1 H locs h S => ?_)
  refine lv_if_eq (tgt := 22) C.1 C.2.1 dX6_move_8 (by decide) (fun c3 => ?_) (fun c3 => ?_)
  · replace h := h.1 c3
    refine lv_iconst (v := (-1 : Int32)) C.1 C.2.1 dX6_move_22 (by decide) ?_
    exact hR _ _ _ _ _ _ dX6_move_23 h S
  · replace h := h.2 c3
    refine lv_aload_n C.1 C.2.1 dX6_move_11 rfl (lv_at hl 0 rfl) ?_
    refine g_X6_2 C fl_X6_22 kd_0 S fn_0_2 dX6_move_12 ?_
    refine lv_iload_n C.1 C.2.1 dX6_move_15 rfl (lv_at hl 2 rfl) ?_
    refine k_i (r_VN (As := [.int x2]) (rest := []) C hml (c_X1_has l G 5 x2 σ1 _ kd_5 h) kM_X1_has im_X1_has se_X1_has nm_X6_89 ⟨rfl, rfl⟩ ⟨Nat.le_of_ble_eq_true rfl, Nat.le_of_ble_eq_true rfl⟩ hcs S kd_5 (by decide) (T := TX1) (N := 4) rfl rfl hl.1 rfl (Nat.le_of_ble_eq_true rfl) dX6_move_16) S (fun r5 σ4 H locs h S => ?_)
    refine lv_if_ne (tgt := 24) C.1 C.2.1 dX6_move_19 (by decide) (fun c6 => ?_) (fun c6 => ?_)
    · replace h := h.1 c6
      refine lv_aload_n C.1 C.2.1 dX6_move_24 rfl (lv_at hl 0 rfl) ?_
      refine k_v (r_V (As := []) (rest := []) C hml (c_X6_beginChange l G σ4 _ h) kM_X6_beginChange im_X6_beginChange se_X6_beginChange ml_X6_82 ⟨rfl, rfl⟩ ⟨Nat.le_of_ble_eq_true rfl, Nat.le_of_ble_eq_true rfl⟩ hcs S kd_0 (by decide) (T := TX6) (N := 8) rfl rfl hl.1 rfl (Nat.le_of_ble_eq_true rfl) dX6_move_25) S (fun σ7 H locs h S => ?_)
      refine lv_aload_n C.1 C.2.1 dX6_move_28 rfl (lv_at hl 0 rfl) ?_
      refine g_X6_2 C fl_X6_22 kd_0 S fn_0_2 dX6_move_29 ?_
      refine lv_iload_n C.1 C.2.1 dX6_move_32 rfl (lv_at hl 1 rfl) ?_
      refine lv_iload_n C.1 C.2.1 dX6_move_33 rfl (lv_at hl 2 rfl) ?_
      refine k_v (r_VN (As := [.int x1, .int x2]) (rest := []) C hml (c_X1_reseat l G 5 x1 x2 σ7 _ kd_5 h) kM_X1_reseat im_X1_reseat se_X1_reseat nm_X6_110 ⟨rfl, rfl⟩ ⟨Nat.le_of_ble_eq_true rfl, Nat.le_of_ble_eq_true rfl⟩ hcs S kd_5 (by decide) (T := TX1) (N := 4) rfl rfl hl.1 rfl (Nat.le_of_ble_eq_true rfl) dX6_move_34) S (fun σ8 H locs h S => ?_)
      refine lv_iload_n C.1 C.2.1 dX6_move_37 rfl (lv_at hl 2 rfl) ?_
      exact hR _ _ _ _ _ _ dX6_move_38 h S
    · replace h := h.2 c6
      refine lv_iconst (v := (-1 : Int32)) C.1 C.2.1 dX6_move_22 (by decide) ?_
      exact hR _ _ _ _ _ _ dX6_move_23 h S
/-! X6_next -/
abbrev rm_X6_next : Room := { frames := 6, cells := 0, slots := 0, locals := 144 }
def wpX6_next  (σ : Sg) (post : Int32 → Sg → Prop) : Prop := wpX5_learn σ (fun σ1 => wpX5_membersGoingOn σ1 (fun r3 σ2 => post r3 σ2))
theorem kM_X6_next : s_M yX6_next cX6_next 1 (some .int) 0 := ⟨co_X6_next, in_X6, by decide, by decide, by decide +kernel⟩
set_option maxHeartbeats 4000000 in
set_option maxRecDepth 100000 in
theorem c_X6_next (l : Launch) (G : s_G)  (σ : Sg) (post : Int32 → Sg → Prop) (h : wpX6_next σ post) : Met l yX6_next (wsU yX6_next cX6_next 1 (some .int)) rm_X6_next (va_Pc [.ref (G.2.2 + 0)] (s_Pre G σ)) (va_Qi post (s_B G) (s_A G.2.2)) 0 0 (s_A G.2.2) := by
  refine Met.ofW (cc := cX6_next) (maxL := 1) (ret := (some .int)) (by decide) rfl ?_
  intro p e s m args below meth c s₁ B hml hv
  obtain ⟨rfl, hP, hrok, hK, hN⟩ := hv
  have C : s_C G p s (([.ref (G.2.2 + 0)] : List Value).toArray) m c RX6 cX6_next := ⟨B.exec, B.bytes, findClass_of_methodNamed B.named, fun w hw => atoms_spec (ws := wsU yX6_next cX6_next 1 (some .int)) B.pre w (List.mem_cons_of_mem _ hw), hK, hN⟩
  have hr := B.returns
  have hlocks := B.notSynchronized
  have S : s_St G σ s.heap s.heap [] := ⟨hP, va_S.rf, hrok⟩
  have hcs : 0 ≤ (rm_X6_next).cells ∧ 0 ≤ (rm_X6_next).slots := ⟨Nat.le_refl 0, Nat.le_refl 0⟩
  have hR : ∀ (r : Int32) (σ1 : Sg) (H : Heap) (locs : List Loc) (pc : Nat) (ls : Array Slot), decode cX6_next pc = .ok (.ireturn, 1) → post r σ1 → s_St G σ1 s.heap H locs → W p l e rm_X6_next s m ([.ref (G.2.2 + 0)] : List Value).toArray below meth c H locs 0 0 (MQ below (va_Qi post (s_B G) (s_A G.2.2)) ([.ref (G.2.2 + 0)] : List Value).toArray s 0 0 (s_A G.2.2)) (F0 m pc ls [.int r]) := fun _ _ _ _ _ _ hd hp S => ret_i C hr hlocks hd hp S
  have hl := lv_entry ([.ref (G.2.2 + 0)]) (n := 1) (Nat.le_of_ble_eq_true rfl)
  rw [lg_entry_eq]
  generalize (lg_sl ([.ref (G.2.2 + 0)]) ++ List.replicate (1 - (lg_sl ([.ref (G.2.2 + 0)])).length) Slot.unset).toArray = ls at hl ⊢
  have hl : lv_has ls 1 [(0, .ref (G.2.2 + 0))] := hl
  unfold wpX6_next at h
  refine lv_aload_n C.1 C.2.1 dX6_next_0 rfl (lv_at hl 0 rfl) ?_
  refine g_X6_6 C fl_X6_44 kd_0 S fn_0_6 dX6_next_1 ?_
  refine lv_aload_n C.1 C.2.1 dX6_next_4 rfl (lv_at hl 0 rfl) ?_
  refine g_X6_2 C fl_X6_22 kd_0 S fn_0_2 dX6_next_5 ?_
  refine lv_aload_n C.1 C.2.1 dX6_next_8 rfl (lv_at hl 0 rfl) ?_
  refine g_X6_0 C fl_X6_10 kd_0 S fn_0_0 dX6_next_9 ?_
  refine k_v (r_VN (As := [.ref (G.2.2 + 5), .ref (G.2.2 + 1)]) (rest := []) C hml (c_X5_learn l G σ _ h) kM_X5_learn im_X5_learn se_X5_learn nm_X6_164 ⟨rfl, rfl⟩ ⟨Nat.le_of_ble_eq_true rfl, Nat.le_of_ble_eq_true rfl⟩ hcs S kd_90 (by decide) (T := TX5) (N := 8) rfl rfl hl.1 rfl (Nat.le_of_ble_eq_true rfl) dX6_next_12) S (fun σ1 H locs h S => ?_)
  refine lv_aload_n C.1 C.2.1 dX6_next_15 rfl (lv_at hl 0 rfl) ?_
  refine g_X6_6 C fl_X6_44 kd_0 S fn_0_6 dX6_next_16 ?_
  refine lv_aload_n C.1 C.2.1 dX6_next_19 rfl (lv_at hl 0 rfl) ?_
  refine g_X6_2 C fl_X6_22 kd_0 S fn_0_2 dX6_next_20 ?_
  refine lv_aload_n C.1 C.2.1 dX6_next_23 rfl (lv_at hl 0 rfl) ?_
  refine g_X6_0 C fl_X6_10 kd_0 S fn_0_0 dX6_next_24 ?_
  refine k_i (r_VN (As := [.ref (G.2.2 + 5), .ref (G.2.2 + 1)]) (rest := []) C hml (c_X5_membersGoingOn l G σ1 _ h) kM_X5_membersGoingOn im_X5_membersGoingOn se_X5_membersGoingOn nm_X6_201 ⟨rfl, rfl⟩ ⟨Nat.le_of_ble_eq_true rfl, Nat.le_of_ble_eq_true rfl⟩ hcs S kd_90 (by decide) (T := TX5) (N := 8) rfl rfl hl.1 rfl (Nat.le_of_ble_eq_true rfl) dX6_next_27) S (fun r3 σ2 H locs h S => ?_)
  exact hR _ _ _ _ _ _ dX6_next_30 h S
/-! X6_normal -/
abbrev rm_X6_normal : Room := { frames := 6, cells := 0, slots := 0, locals := 144 }
def wpX6_normal (x1 : Int32) (σ : Sg) (post : Int32 → Sg → Prop) : Prop := (((0 ≤ x1) → wpX5_learn σ (fun σ2 => wpX5_exists σ2 (fun r4 σ3 => (((¬ r4 = 0) → wpX6_formNormal σ3 (fun σ6 => wpX0_at 3 x1 σ6 (fun r8 σ7 => post r8 σ7))) ∧ ((r4 = 0) → post ((-2 : Int32)) σ3))))) ∧ ((¬ 0 ≤ x1) → post ((-1 : Int32)) σ))
theorem kM_X6_normal : s_M yX6_normal cX6_normal 2 (some .int) 1 := ⟨co_X6_normal, in_X6, by decide, by decide, by decide +kernel⟩
set_option maxHeartbeats 4000000 in
set_option maxRecDepth 100000 in
theorem c_X6_normal (l : Launch) (G : s_G) (x1 : Int32) (σ : Sg) (post : Int32 → Sg → Prop) (h : wpX6_normal x1 σ post) : Met l yX6_normal (wsU yX6_normal cX6_normal 2 (some .int)) rm_X6_normal (va_Pc [.ref (G.2.2 + 0), .int x1] (s_Pre G σ)) (va_Qi post (s_B G) (s_A G.2.2)) 0 0 (s_A G.2.2) := by
  refine Met.ofW (cc := cX6_normal) (maxL := 2) (ret := (some .int)) (by decide) rfl ?_
  intro p e s m args below meth c s₁ B hml hv
  obtain ⟨rfl, hP, hrok, hK, hN⟩ := hv
  have C : s_C G p s (([.ref (G.2.2 + 0), .int x1] : List Value).toArray) m c RX6 cX6_normal := ⟨B.exec, B.bytes, findClass_of_methodNamed B.named, fun w hw => atoms_spec (ws := wsU yX6_normal cX6_normal 2 (some .int)) B.pre w (List.mem_cons_of_mem _ hw), hK, hN⟩
  have hr := B.returns
  have hlocks := B.notSynchronized
  have S : s_St G σ s.heap s.heap [] := ⟨hP, va_S.rf, hrok⟩
  have hcs : 0 ≤ (rm_X6_normal).cells ∧ 0 ≤ (rm_X6_normal).slots := ⟨Nat.le_refl 0, Nat.le_refl 0⟩
  have hR : ∀ (r : Int32) (σ1 : Sg) (H : Heap) (locs : List Loc) (pc : Nat) (ls : Array Slot), decode cX6_normal pc = .ok (.ireturn, 1) → post r σ1 → s_St G σ1 s.heap H locs → W p l e rm_X6_normal s m ([.ref (G.2.2 + 0), .int x1] : List Value).toArray below meth c H locs 0 0 (MQ below (va_Qi post (s_B G) (s_A G.2.2)) ([.ref (G.2.2 + 0), .int x1] : List Value).toArray s 0 0 (s_A G.2.2)) (F0 m pc ls [.int r]) := fun _ _ _ _ _ _ hd hp S => ret_i C hr hlocks hd hp S
  have hl := lv_entry ([.ref (G.2.2 + 0), .int x1]) (n := 2) (Nat.le_of_ble_eq_true rfl)
  rw [lg_entry_eq]
  generalize (lg_sl ([.ref (G.2.2 + 0), .int x1]) ++ List.replicate (2 - (lg_sl ([.ref (G.2.2 + 0), .int x1])).length) Slot.unset).toArray = ls at hl ⊢
  have hl : lv_has ls 2 [(0, .ref (G.2.2 + 0)), (1, .int x1)] := hl
  unfold wpX6_normal at h
  refine lv_iload_n C.1 C.2.1 dX6_normal_0 rfl (lv_at hl 1 rfl) ?_
  refine lv_if_ge (tgt := 6) C.1 C.2.1 dX6_normal_1 (by decide) (fun c1 => ?_) (fun c1 => ?_)
  · replace h := h.1 c1
    refine lv_aload_n C.1 C.2.1 dX6_normal_6 rfl (lv_at hl 0 rfl) ?_
    refine g_X6_6 C fl_X6_44 kd_0 S fn_0_6 dX6_normal_7 ?_
    refine lv_aload_n C.1 C.2.1 dX6_normal_10 rfl (lv_at hl 0 rfl) ?_
    refine g_X6_2 C fl_X6_22 kd_0 S fn_0_2 dX6_normal_11 ?_
    refine lv_aload_n C.1 C.2.1 dX6_normal_14 rfl (lv_at hl 0 rfl) ?_
    refine g_X6_0 C fl_X6_10 kd_0 S fn_0_0 dX6_normal_15 ?_
    refine k_v (r_VN (As := [.ref (G.2.2 + 5), .ref (G.2.2 + 1)]) (rest := []) C hml (c_X5_learn l G σ _ h) kM_X5_learn im_X5_learn se_X5_learn nm_X6_164 ⟨rfl, rfl⟩ ⟨Nat.le_of_ble_eq_true rfl, Nat.le_of_ble_eq_true rfl⟩ hcs S kd_90 (by decide) (T := TX5) (N := 8) rfl rfl hl.1 rfl (Nat.le_of_ble_eq_true rfl) dX6_normal_18) S (fun σ2 H locs h S => ?_)
    refine lv_aload_n C.1 C.2.1 dX6_normal_21 rfl (lv_at hl 0 rfl) ?_
    refine g_X6_6 C fl_X6_44 kd_0 S fn_0_6 dX6_normal_22 ?_
    refine k_i (r_VN (As := []) (rest := []) C hml (c_X5_exists l G σ2 _ h) kM_X5_exists im_X5_exists se_X5_exists nm_X6_168 ⟨rfl, rfl⟩ ⟨Nat.le_of_ble_eq_true rfl, Nat.le_of_ble_eq_true rfl⟩ hcs S kd_90 (by decide) (T := TX5) (N := 8) rfl rfl hl.1 rfl (Nat.le_of_ble_eq_true rfl) dX6_normal_25) S (fun r4 σ3 H locs h S => ?_)
    refine lv_if_ne (tgt := 34) C.1 C.2.1 dX6_normal_28 (by decide) (fun c5 => ?_) (fun c5 => ?_)
    · replace h := h.1 c5
      refine lv_aload_n C.1 C.2.1 dX6_normal_34 rfl (lv_at hl 0 rfl) ?_
      refine k_v (r_V (As := []) (rest := []) C hml (c_X6_formNormal l G σ3 _ h) kM_X6_formNormal im_X6_formNormal se_X6_formNormal ml_X6_204 ⟨rfl, rfl⟩ ⟨Nat.le_of_ble_eq_true rfl, Nat.le_of_ble_eq_true rfl⟩ hcs S kd_0 (by decide) (T := TX6) (N := 8) rfl rfl hl.1 rfl (Nat.le_of_ble_eq_true rfl) dX6_normal_35) S (fun σ6 H locs h S => ?_)
      refine lv_aload_n C.1 C.2.1 dX6_normal_38 rfl (lv_at hl 0 rfl) ?_
      refine g_X6_1 C fl_X6_16 kd_0 S fn_0_1 dX6_normal_39 ?_
      refine lv_iload_n C.1 C.2.1 dX6_normal_42 rfl (lv_at hl 1 rfl) ?_
      refine k_i (r_VN (As := [.int x1]) (rest := []) C hml (c_X0_at l G 3 x1 σ6 _ kd_3 h) kM_X0_at im_X0_at se_X0_at nm_X6_207 ⟨rfl, rfl⟩ ⟨Nat.le_of_ble_eq_true rfl, Nat.le_of_ble_eq_true rfl⟩ hcs S kd_3 (by decide) (T := TX0) (N := 2) rfl rfl hl.1 rfl (Nat.le_of_ble_eq_true rfl) dX6_normal_43) S (fun r8 σ7 H locs h S => ?_)
      exact hR _ _ _ _ _ _ dX6_normal_46 h S
    · replace h := h.2 c5
      refine lv_bipush (v := (-2 : Int32)) C.1 C.2.1 dX6_normal_31 (by decide) ?_
      exact hR _ _ _ _ _ _ dX6_normal_33 h S
  · replace h := h.2 c1
    refine lv_iconst (v := (-1 : Int32)) C.1 C.2.1 dX6_normal_4 (by decide) ?_
    exact hR _ _ _ _ _ _ dX6_normal_5 h S
/-! X6_occurrence -/
abbrev rm_X6_occurrence : Room := { frames := 6, cells := 0, slots := 0, locals := 144 }
def wpX6_occurrence (x1 : Int32) (x2 : Int32) (σ : Sg) (post : Int32 → Sg → Prop) : Prop := (((x1 < 0) → post ((-1 : Int32)) σ) ∧ ((¬ x1 < 0) → (((x2 < 0) → post ((-1 : Int32)) σ) ∧ ((¬ x2 < 0) → (((x2 ≤ (2 : Int32)) → wpX5_learn σ (fun σ4 => wpX5_exists σ4 (fun r6 σ5 => (((¬ r6 = 0) → (((¬ x2 = 0 ∧ ¬ x2 = 1) → wpX5_numberAt x1 σ5 (fun r10 σ9 => post r10 σ9)) ∧ ((x2 = 0) → wpX5_memberAt x1 σ5 (fun r12 σ11 => post r12 σ11)) ∧ ((x2 = 1) → wpX5_startAt x1 σ5 (fun r14 σ13 => post r14 σ13)))) ∧ ((r6 = 0) → post ((-2 : Int32)) σ5))))) ∧ ((¬ x2 ≤ (2 : Int32)) → post ((-1 : Int32)) σ))))))
theorem kM_X6_occurrence : s_M yX6_occurrence cX6_occurrence 3 (some .int) 2 := ⟨co_X6_occurrence, in_X6, by decide, by decide, by decide +kernel⟩
set_option maxHeartbeats 4000000 in
set_option maxRecDepth 100000 in
theorem c_X6_occurrence (l : Launch) (G : s_G) (x1 : Int32) (x2 : Int32) (σ : Sg) (post : Int32 → Sg → Prop) (h : wpX6_occurrence x1 x2 σ post) : Met l yX6_occurrence (wsU yX6_occurrence cX6_occurrence 3 (some .int)) rm_X6_occurrence (va_Pc [.ref (G.2.2 + 0), .int x1, .int x2] (s_Pre G σ)) (va_Qi post (s_B G) (s_A G.2.2)) 0 0 (s_A G.2.2) := by
  refine Met.ofW (cc := cX6_occurrence) (maxL := 3) (ret := (some .int)) (by decide) rfl ?_
  intro p e s m args below meth c s₁ B hml hv
  obtain ⟨rfl, hP, hrok, hK, hN⟩ := hv
  have C : s_C G p s (([.ref (G.2.2 + 0), .int x1, .int x2] : List Value).toArray) m c RX6 cX6_occurrence := ⟨B.exec, B.bytes, findClass_of_methodNamed B.named, fun w hw => atoms_spec (ws := wsU yX6_occurrence cX6_occurrence 3 (some .int)) B.pre w (List.mem_cons_of_mem _ hw), hK, hN⟩
  have hr := B.returns
  have hlocks := B.notSynchronized
  have S : s_St G σ s.heap s.heap [] := ⟨hP, va_S.rf, hrok⟩
  have hcs : 0 ≤ (rm_X6_occurrence).cells ∧ 0 ≤ (rm_X6_occurrence).slots := ⟨Nat.le_refl 0, Nat.le_refl 0⟩
  have hR : ∀ (r : Int32) (σ1 : Sg) (H : Heap) (locs : List Loc) (pc : Nat) (ls : Array Slot), decode cX6_occurrence pc = .ok (.ireturn, 1) → post r σ1 → s_St G σ1 s.heap H locs → W p l e rm_X6_occurrence s m ([.ref (G.2.2 + 0), .int x1, .int x2] : List Value).toArray below meth c H locs 0 0 (MQ below (va_Qi post (s_B G) (s_A G.2.2)) ([.ref (G.2.2 + 0), .int x1, .int x2] : List Value).toArray s 0 0 (s_A G.2.2)) (F0 m pc ls [.int r]) := fun _ _ _ _ _ _ hd hp S => ret_i C hr hlocks hd hp S
  have hl := lv_entry ([.ref (G.2.2 + 0), .int x1, .int x2]) (n := 3) (Nat.le_of_ble_eq_true rfl)
  rw [lg_entry_eq]
  generalize (lg_sl ([.ref (G.2.2 + 0), .int x1, .int x2]) ++ List.replicate (3 - (lg_sl ([.ref (G.2.2 + 0), .int x1, .int x2])).length) Slot.unset).toArray = ls at hl ⊢
  have hl : lv_has ls 3 [(0, .ref (G.2.2 + 0)), (1, .int x1), (2, .int x2)] := hl
  unfold wpX6_occurrence at h
  refine lv_iload_n C.1 C.2.1 dX6_occurrence_0 rfl (lv_at hl 1 rfl) ?_
  refine lv_if_lt (tgt := 13) C.1 C.2.1 dX6_occurrence_1 (by decide) (fun c1 => ?_) (fun c1 => ?_)
  · replace h := h.1 c1
    refine lv_iconst (v := (-1 : Int32)) C.1 C.2.1 dX6_occurrence_13 (by decide) ?_
    exact hR _ _ _ _ _ _ dX6_occurrence_14 h S
  · replace h := h.2 c1
    refine lv_iload_n C.1 C.2.1 dX6_occurrence_4 rfl (lv_at hl 2 rfl) ?_
    refine lv_if_lt (tgt := 13) C.1 C.2.1 dX6_occurrence_5 (by decide) (fun c2 => ?_) (fun c2 => ?_)
    · replace h := h.1 c2
      refine lv_iconst (v := (-1 : Int32)) C.1 C.2.1 dX6_occurrence_13 (by decide) ?_
      exact hR _ _ _ _ _ _ dX6_occurrence_14 h S
    · replace h := h.2 c2
      refine lv_iload_n C.1 C.2.1 dX6_occurrence_8 rfl (lv_at hl 2 rfl) ?_
      refine lv_iconst (v := (2 : Int32)) C.1 C.2.1 dX6_occurrence_9 (by decide) ?_
      refine lv_icmp_le (tgt := 15) C.1 C.2.1 dX6_occurrence_10 (by decide) (fun c3 => ?_) (fun c3 => ?_)
      · replace h := h.1 c3
        refine lv_aload_n C.1 C.2.1 dX6_occurrence_15 rfl (lv_at hl 0 rfl) ?_
        refine g_X6_6 C fl_X6_44 kd_0 S fn_0_6 dX6_occurrence_16 ?_
        refine lv_aload_n C.1 C.2.1 dX6_occurrence_19 rfl (lv_at hl 0 rfl) ?_
        refine g_X6_2 C fl_X6_22 kd_0 S fn_0_2 dX6_occurrence_20 ?_
        refine lv_aload_n C.1 C.2.1 dX6_occurrence_23 rfl (lv_at hl 0 rfl) ?_
        refine g_X6_0 C fl_X6_10 kd_0 S fn_0_0 dX6_occurrence_24 ?_
        refine k_v (r_VN (As := [.ref (G.2.2 + 5), .ref (G.2.2 + 1)]) (rest := []) C hml (c_X5_learn l G σ _ h) kM_X5_learn im_X5_learn se_X5_learn nm_X6_164 ⟨rfl, rfl⟩ ⟨Nat.le_of_ble_eq_true rfl, Nat.le_of_ble_eq_true rfl⟩ hcs S kd_90 (by decide) (T := TX5) (N := 8) rfl rfl hl.1 rfl (Nat.le_of_ble_eq_true rfl) dX6_occurrence_27) S (fun σ4 H locs h S => ?_)
        refine lv_aload_n C.1 C.2.1 dX6_occurrence_30 rfl (lv_at hl 0 rfl) ?_
        refine g_X6_6 C fl_X6_44 kd_0 S fn_0_6 dX6_occurrence_31 ?_
        refine k_i (r_VN (As := []) (rest := []) C hml (c_X5_exists l G σ4 _ h) kM_X5_exists im_X5_exists se_X5_exists nm_X6_168 ⟨rfl, rfl⟩ ⟨Nat.le_of_ble_eq_true rfl, Nat.le_of_ble_eq_true rfl⟩ hcs S kd_90 (by decide) (T := TX5) (N := 8) rfl rfl hl.1 rfl (Nat.le_of_ble_eq_true rfl) dX6_occurrence_34) S (fun r6 σ5 H locs h S => ?_)
        refine lv_if_ne (tgt := 43) C.1 C.2.1 dX6_occurrence_37 (by decide) (fun c7 => ?_) (fun c7 => ?_)
        · replace h := h.1 c7
          refine lv_iload_n C.1 C.2.1 dX6_occurrence_43 rfl (lv_at hl 2 rfl) ?_
          rcases (lk_0_1 x2) with c8 | c8 | c8
          · replace h := h.1 c8
            refine lv_lookup (tgt := 90) (off := 46) C.1 C.2.1 dX6_occurrence_44 (by decide) (lkd_0_1 c8) (by decide) ?_
            refine lv_aload_n C.1 C.2.1 dX6_occurrence_90 rfl (lv_at hl 0 rfl) ?_
            refine g_X6_6 C fl_X6_44 kd_0 S fn_0_6 dX6_occurrence_91 ?_
            refine lv_iload_n C.1 C.2.1 dX6_occurrence_94 rfl (lv_at hl 1 rfl) ?_
            refine k_i (r_VN (As := [.int x1]) (rest := []) C hml (c_X5_numberAt l G x1 σ5 _ h) kM_X5_numberAt im_X5_numberAt se_X5_numberAt nm_X6_194 ⟨rfl, rfl⟩ ⟨Nat.le_of_ble_eq_true rfl, Nat.le_of_ble_eq_true rfl⟩ hcs S kd_90 (by decide) (T := TX5) (N := 8) rfl rfl hl.1 rfl (Nat.le_of_ble_eq_true rfl) dX6_occurrence_95) S (fun r10 σ9 H locs h S => ?_)
            exact hR _ _ _ _ _ _ dX6_occurrence_98 h S
          · replace h := h.2.1 c8
            refine lv_lookup (tgt := 72) (off := 28) C.1 C.2.1 dX6_occurrence_44 (by decide) (by rw [c8]; decide) (by decide) ?_
            refine lv_aload_n C.1 C.2.1 dX6_occurrence_72 rfl (lv_at hl 0 rfl) ?_
            refine g_X6_6 C fl_X6_44 kd_0 S fn_0_6 dX6_occurrence_73 ?_
            refine lv_iload_n C.1 C.2.1 dX6_occurrence_76 rfl (lv_at hl 1 rfl) ?_
            refine k_i (r_VN (As := [.int x1]) (rest := []) C hml (c_X5_memberAt l G x1 σ5 _ h) kM_X5_memberAt im_X5_memberAt se_X5_memberAt nm_X6_188 ⟨rfl, rfl⟩ ⟨Nat.le_of_ble_eq_true rfl, Nat.le_of_ble_eq_true rfl⟩ hcs S kd_90 (by decide) (T := TX5) (N := 8) rfl rfl hl.1 rfl (Nat.le_of_ble_eq_true rfl) dX6_occurrence_77) S (fun r12 σ11 H locs h S => ?_)
            exact hR _ _ _ _ _ _ dX6_occurrence_80 h S
          · replace h := h.2.2 c8
            refine lv_lookup (tgt := 81) (off := 37) C.1 C.2.1 dX6_occurrence_44 (by decide) (by rw [c8]; decide) (by decide) ?_
            refine lv_aload_n C.1 C.2.1 dX6_occurrence_81 rfl (lv_at hl 0 rfl) ?_
            refine g_X6_6 C fl_X6_44 kd_0 S fn_0_6 dX6_occurrence_82 ?_
            refine lv_iload_n C.1 C.2.1 dX6_occurrence_85 rfl (lv_at hl 1 rfl) ?_
            refine k_i (r_VN (As := [.int x1]) (rest := []) C hml (c_X5_startAt l G x1 σ5 _ h) kM_X5_startAt im_X5_startAt se_X5_startAt nm_X6_191 ⟨rfl, rfl⟩ ⟨Nat.le_of_ble_eq_true rfl, Nat.le_of_ble_eq_true rfl⟩ hcs S kd_90 (by decide) (T := TX5) (N := 8) rfl rfl hl.1 rfl (Nat.le_of_ble_eq_true rfl) dX6_occurrence_86) S (fun r14 σ13 H locs h S => ?_)
            exact hR _ _ _ _ _ _ dX6_occurrence_89 h S
        · replace h := h.2 c7
          refine lv_bipush (v := (-2 : Int32)) C.1 C.2.1 dX6_occurrence_40 (by decide) ?_
          exact hR _ _ _ _ _ _ dX6_occurrence_42 h S
      · replace h := h.2 c3
        refine lv_iconst (v := (-1 : Int32)) C.1 C.2.1 dX6_occurrence_13 (by decide) ?_
        exact hR _ _ _ _ _ _ dX6_occurrence_14 h S
/-! X6_order -/
abbrev rm_X6_order : Room := { frames := 6, cells := 0, slots := 0, locals := 149 }
def wpX6_order (x1 : Int64) (x3 : Int32) (σ : Sg) (post : Int32 → Sg → Prop) : Prop := ((((lg_cmp x1 (0 : Int64)) < 0) → post ((-1 : Int32)) σ) ∧ ((¬ (lg_cmp x1 (0 : Int64)) < 0) → (((0 ≤ x3) → wpX4_learn ((-1 : Int32)) σ (fun σ3 => wpX4_memberOf x1 x3 σ3 (fun r5 σ4 => post r5 σ4))) ∧ ((¬ 0 ≤ x3) → post ((-1 : Int32)) σ))))
theorem kM_X6_order : s_M yX6_order cX6_order 4 (some .int) 2 := ⟨co_X6_order, in_X6, by decide, by decide, by decide +kernel⟩
set_option maxHeartbeats 4000000 in
set_option maxRecDepth 100000 in
theorem c_X6_order (l : Launch) (G : s_G) (x1 : Int64) (x3 : Int32) (σ : Sg) (post : Int32 → Sg → Prop) (h : wpX6_order x1 x3 σ post) : Met l yX6_order (wsU yX6_order cX6_order 4 (some .int)) rm_X6_order (va_Pc [.ref (G.2.2 + 0), .long x1, .int x3] (s_Pre G σ)) (va_Qi post (s_B G) (s_A G.2.2)) 0 0 (s_A G.2.2) := by
  refine Met.ofW (cc := cX6_order) (maxL := 4) (ret := (some .int)) (by decide) rfl ?_
  intro p e s m args below meth c s₁ B hml hv
  obtain ⟨rfl, hP, hrok, hK, hN⟩ := hv
  have C : s_C G p s (([.ref (G.2.2 + 0), .long x1, .int x3] : List Value).toArray) m c RX6 cX6_order := ⟨B.exec, B.bytes, findClass_of_methodNamed B.named, fun w hw => atoms_spec (ws := wsU yX6_order cX6_order 4 (some .int)) B.pre w (List.mem_cons_of_mem _ hw), hK, hN⟩
  have hr := B.returns
  have hlocks := B.notSynchronized
  have S : s_St G σ s.heap s.heap [] := ⟨hP, va_S.rf, hrok⟩
  have hcs : 0 ≤ (rm_X6_order).cells ∧ 0 ≤ (rm_X6_order).slots := ⟨Nat.le_refl 0, Nat.le_refl 0⟩
  have hR : ∀ (r : Int32) (σ1 : Sg) (H : Heap) (locs : List Loc) (pc : Nat) (ls : Array Slot), decode cX6_order pc = .ok (.ireturn, 1) → post r σ1 → s_St G σ1 s.heap H locs → W p l e rm_X6_order s m ([.ref (G.2.2 + 0), .long x1, .int x3] : List Value).toArray below meth c H locs 0 0 (MQ below (va_Qi post (s_B G) (s_A G.2.2)) ([.ref (G.2.2 + 0), .long x1, .int x3] : List Value).toArray s 0 0 (s_A G.2.2)) (F0 m pc ls [.int r]) := fun _ _ _ _ _ _ hd hp S => ret_i C hr hlocks hd hp S
  have hl := lv_entry ([.ref (G.2.2 + 0), .long x1, .int x3]) (n := 4) (Nat.le_of_ble_eq_true rfl)
  rw [lg_entry_eq]
  generalize (lg_sl ([.ref (G.2.2 + 0), .long x1, .int x3]) ++ List.replicate (4 - (lg_sl ([.ref (G.2.2 + 0), .long x1, .int x3])).length) Slot.unset).toArray = ls at hl ⊢
  have hl : lv_has ls 4 [(0, .ref (G.2.2 + 0)), (1, .long x1), (3, .int x3)] := hl
  unfold wpX6_order at h
  refine lv_lload_n C.1 C.2.1 dX6_order_0 rfl (lv_at hl 1 rfl) ?_
  refine lv_lconst (v := (0 : Int64)) C.1 C.2.1 dX6_order_1 (by decide) ?_
  refine W.lcmp C.1 C.2.1 dX6_order_2 ?_
  refine lv_if_lt (tgt := 10) C.1 C.2.1 dX6_order_3 (by decide) (fun c1 => ?_) (fun c1 => ?_)
  · replace h := h.1 c1
    refine lv_iconst (v := (-1 : Int32)) C.1 C.2.1 dX6_order_10 (by decide) ?_
    exact hR _ _ _ _ _ _ dX6_order_11 h S
  · replace h := h.2 c1
    refine lv_iload_n C.1 C.2.1 dX6_order_6 rfl (lv_at hl 2 rfl) ?_
    refine lv_if_ge (tgt := 12) C.1 C.2.1 dX6_order_7 (by decide) (fun c2 => ?_) (fun c2 => ?_)
    · replace h := h.1 c2
      refine lv_aload_n C.1 C.2.1 dX6_order_12 rfl (lv_at hl 0 rfl) ?_
      refine g_X6_7 C fl_X6_51 kd_0 S fn_0_7 dX6_order_13 ?_
      refine lv_aload_n C.1 C.2.1 dX6_order_16 rfl (lv_at hl 0 rfl) ?_
      refine g_X6_2 C fl_X6_22 kd_0 S fn_0_2 dX6_order_17 ?_
      refine lv_iconst (v := (-1 : Int32)) C.1 C.2.1 dX6_order_20 (by decide) ?_
      refine k_v (r_VN (As := [.ref (G.2.2 + 5), .int (-1 : Int32)]) (rest := []) C hml (c_X4_learn l G ((-1 : Int32)) σ _ h) kM_X4_learn im_X4_learn se_X4_learn nm_X6_215 ⟨rfl, rfl⟩ ⟨Nat.le_of_ble_eq_true rfl, Nat.le_of_ble_eq_true rfl⟩ hcs S kd_97 (by decide) (T := TX4) (N := 2) rfl rfl hl.1 rfl (Nat.le_of_ble_eq_true rfl) dX6_order_21) S (fun σ3 H locs h S => ?_)
      refine lv_aload_n C.1 C.2.1 dX6_order_24 rfl (lv_at hl 0 rfl) ?_
      refine g_X6_7 C fl_X6_51 kd_0 S fn_0_7 dX6_order_25 ?_
      refine lv_aload_n C.1 C.2.1 dX6_order_28 rfl (lv_at hl 0 rfl) ?_
      refine g_X6_2 C fl_X6_22 kd_0 S fn_0_2 dX6_order_29 ?_
      refine lv_lload_n C.1 C.2.1 dX6_order_32 rfl (lv_at hl 1 rfl) ?_
      refine lv_iload_n C.1 C.2.1 dX6_order_33 rfl (lv_at hl 2 rfl) ?_
      refine k_i (r_VN (As := [.ref (G.2.2 + 5), .long x1, .int x3]) (rest := []) C hml (c_X4_memberOf l G x1 x3 σ3 _ h) kM_X4_memberOf im_X4_memberOf se_X4_memberOf nm_X6_221 ⟨rfl, rfl⟩ ⟨Nat.le_of_ble_eq_true rfl, Nat.le_of_ble_eq_true rfl⟩ hcs S kd_97 (by decide) (T := TX4) (N := 2) rfl rfl hl.1 rfl (Nat.le_of_ble_eq_true rfl) dX6_order_34) S (fun r5 σ4 H locs h S => ?_)
      exact hR _ _ _ _ _ _ dX6_order_37 h S
    · replace h := h.2 c2
      refine lv_iconst (v := (-1 : Int32)) C.1 C.2.1 dX6_order_10 (by decide) ?_
      exact hR _ _ _ _ _ _ dX6_order_11 h S
/-! X6_orders -/
abbrev rm_X6_orders : Room := { frames := 5, cells := 0, slots := 0, locals := 121 }
def wpX6_orders (x1 : Int32) (σ : Sg) (post : Int64 → Sg → Prop) : Prop := (((x1 < (-1 : Int32)) → post ((-1 : Int64)) σ) ∧ ((¬ x1 < (-1 : Int32)) → (((x1 ≤ (18 : Int32)) → wpX4_learn x1 σ (fun σ3 => wpX4_countFrom ((0 : Int32)) σ3 (fun r5 σ4 => post r5 σ4))) ∧ ((¬ x1 ≤ (18 : Int32)) → post ((-1 : Int64)) σ))))
theorem kM_X6_orders : s_M yX6_orders cX6_orders 2 (some .long) 1 := ⟨co_X6_orders, in_X6, by decide, by decide, by decide +kernel⟩
set_option maxHeartbeats 4000000 in
set_option maxRecDepth 100000 in
theorem c_X6_orders (l : Launch) (G : s_G) (x1 : Int32) (σ : Sg) (post : Int64 → Sg → Prop) (h : wpX6_orders x1 σ post) : Met l yX6_orders (wsU yX6_orders cX6_orders 2 (some .long)) rm_X6_orders (va_Pc [.ref (G.2.2 + 0), .int x1] (s_Pre G σ)) (va_Ql post (s_B G) (s_A G.2.2)) 0 0 (s_A G.2.2) := by
  refine Met.ofW (cc := cX6_orders) (maxL := 2) (ret := (some .long)) (by decide) rfl ?_
  intro p e s m args below meth c s₁ B hml hv
  obtain ⟨rfl, hP, hrok, hK, hN⟩ := hv
  have C : s_C G p s (([.ref (G.2.2 + 0), .int x1] : List Value).toArray) m c RX6 cX6_orders := ⟨B.exec, B.bytes, findClass_of_methodNamed B.named, fun w hw => atoms_spec (ws := wsU yX6_orders cX6_orders 2 (some .long)) B.pre w (List.mem_cons_of_mem _ hw), hK, hN⟩
  have hr := B.returns
  have hlocks := B.notSynchronized
  have S : s_St G σ s.heap s.heap [] := ⟨hP, va_S.rf, hrok⟩
  have hcs : 0 ≤ (rm_X6_orders).cells ∧ 0 ≤ (rm_X6_orders).slots := ⟨Nat.le_refl 0, Nat.le_refl 0⟩
  have hR : ∀ (r : Int64) (σ1 : Sg) (H : Heap) (locs : List Loc) (pc : Nat) (ls : Array Slot), decode cX6_orders pc = .ok (.lreturn, 1) → post r σ1 → s_St G σ1 s.heap H locs → W p l e rm_X6_orders s m ([.ref (G.2.2 + 0), .int x1] : List Value).toArray below meth c H locs 0 0 (MQ below (va_Ql post (s_B G) (s_A G.2.2)) ([.ref (G.2.2 + 0), .int x1] : List Value).toArray s 0 0 (s_A G.2.2)) (F0 m pc ls [.long r]) := fun _ _ _ _ _ _ hd hp S => ret_l C hr hlocks hd hp S
  have hl := lv_entry ([.ref (G.2.2 + 0), .int x1]) (n := 2) (Nat.le_of_ble_eq_true rfl)
  rw [lg_entry_eq]
  generalize (lg_sl ([.ref (G.2.2 + 0), .int x1]) ++ List.replicate (2 - (lg_sl ([.ref (G.2.2 + 0), .int x1])).length) Slot.unset).toArray = ls at hl ⊢
  have hl : lv_has ls 2 [(0, .ref (G.2.2 + 0)), (1, .int x1)] := hl
  unfold wpX6_orders at h
  refine lv_iload_n C.1 C.2.1 dX6_orders_0 rfl (lv_at hl 1 rfl) ?_
  refine lv_iconst (v := (-1 : Int32)) C.1 C.2.1 dX6_orders_1 (by decide) ?_
  refine lv_icmp_lt (tgt := 11) C.1 C.2.1 dX6_orders_2 (by decide) (fun c1 => ?_) (fun c1 => ?_)
  · replace h := h.1 c1
    refine lv_ldc2 (v := (-1 : Int64)) C.1 C.2.1 C.2.2.1 (C.2.2.2.1 _ cl_X6_213) dX6_orders_11 ?_
    exact hR _ _ _ _ _ _ dX6_orders_14 h S
  · replace h := h.2 c1
    refine lv_iload_n C.1 C.2.1 dX6_orders_5 rfl (lv_at hl 1 rfl) ?_
    refine lv_bipush (v := (18 : Int32)) C.1 C.2.1 dX6_orders_6 (by decide) ?_
    refine lv_icmp_le (tgt := 15) C.1 C.2.1 dX6_orders_8 (by decide) (fun c2 => ?_) (fun c2 => ?_)
    · replace h := h.1 c2
      refine lv_aload_n C.1 C.2.1 dX6_orders_15 rfl (lv_at hl 0 rfl) ?_
      refine g_X6_7 C fl_X6_51 kd_0 S fn_0_7 dX6_orders_16 ?_
      refine lv_aload_n C.1 C.2.1 dX6_orders_19 rfl (lv_at hl 0 rfl) ?_
      refine g_X6_2 C fl_X6_22 kd_0 S fn_0_2 dX6_orders_20 ?_
      refine lv_iload_n C.1 C.2.1 dX6_orders_23 rfl (lv_at hl 1 rfl) ?_
      refine k_v (r_VN (As := [.ref (G.2.2 + 5), .int x1]) (rest := []) C hml (c_X4_learn l G x1 σ _ h) kM_X4_learn im_X4_learn se_X4_learn nm_X6_215 ⟨rfl, rfl⟩ ⟨Nat.le_of_ble_eq_true rfl, Nat.le_of_ble_eq_true rfl⟩ hcs S kd_97 (by decide) (T := TX4) (N := 2) rfl rfl hl.1 rfl (Nat.le_of_ble_eq_true rfl) dX6_orders_24) S (fun σ3 H locs h S => ?_)
      refine lv_aload_n C.1 C.2.1 dX6_orders_27 rfl (lv_at hl 0 rfl) ?_
      refine g_X6_7 C fl_X6_51 kd_0 S fn_0_7 dX6_orders_28 ?_
      refine lv_iconst (v := (0 : Int32)) C.1 C.2.1 dX6_orders_31 (by decide) ?_
      refine k_l (r_VN (As := [.int (0 : Int32)]) (rest := []) C hml (c_X4_countFrom l G ((0 : Int32)) σ3 _ h) kM_X4_countFrom im_X4_countFrom se_X4_countFrom nm_X6_218 ⟨rfl, rfl⟩ ⟨Nat.le_of_ble_eq_true rfl, Nat.le_of_ble_eq_true rfl⟩ hcs S kd_97 (by decide) (T := TX4) (N := 2) rfl rfl hl.1 rfl (Nat.le_of_ble_eq_true rfl) dX6_orders_32) S (fun r5 σ4 H locs h S => ?_)
      exact hR _ _ _ _ _ _ dX6_orders_35 h S
    · replace h := h.2 c2
      refine lv_ldc2 (v := (-1 : Int64)) C.1 C.2.1 C.2.2.1 (C.2.2.2.1 _ cl_X6_213) dX6_orders_11 ?_
      exact hR _ _ _ _ _ _ dX6_orders_14 h S
end M5
