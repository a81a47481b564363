section M6
variable {p : Program} {l : Launch} {e : Env} {R : Room} {s : State} {m : MethodId} {args : Array Value} {below : List Frame} {meth : Method} {c : Code} {H0 : Heap} {cells slots : Nat} {Q : State → Prop} {G : s_G}
/-! X6_set -/
abbrev rm_X6_set : Room := { frames := 4, cells := 0, slots := 0, locals := 84 }
def wpX6_set (x1 : Int32) (x2 : Int32) (x3 : Int32) (σ : Sg) (post : Int32 → Sg → Prop) : Prop := wpX1_has 5 x1 σ (fun r2 σ1 => (((r2 = 0) → post ((-1 : Int32)) σ1) ∧ ((¬ r2 = 0) → wpX1_at 5 x1 σ1 (fun q5 σ4 => s_kd q5 = 3 → wpX3_accepts q5 x2 x3 σ4 (fun r7 σ6 => (((¬ r7 = 0) → wpX6_beginChange σ6 (fun σ9 => wpX1_at 5 x1 σ9 (fun q11 σ10 => s_kd q11 = 3 → wpX3_exchange q11 x2 x3 σ10 (fun r13 σ12 => post r13 σ12)))) ∧ ((r7 = 0) → post ((-1 : Int32)) σ6)))))))
theorem kM_X6_set : s_M yX6_set cX6_set 4 (some .int) 3 := ⟨co_X6_set, in_X6, by decide, by decide, by decide +kernel⟩
set_option maxHeartbeats 4000000 in
set_option maxRecDepth 100000 in
theorem c_X6_set (l : Launch) (G : s_G) (x1 : Int32) (x2 : Int32) (x3 : Int32) (σ : Sg) (post : Int32 → Sg → Prop) (h : wpX6_set x1 x2 x3 σ post) : Met l yX6_set (wsU yX6_set cX6_set 4 (some .int)) rm_X6_set (va_Pc [.ref (G.2.2 + 0), .int x1, .int x2, .int x3] (s_Pre G σ)) (va_Qi post (s_B G) (s_A G.2.2)) 0 0 (s_A G.2.2) := by
  refine Met.ofW (cc := cX6_set) (maxL := 4) (ret := (some .int)) (by decide) rfl ?_
  intro p e s m args below meth c s₁ B hml hv
  obtain ⟨rfl, hP, hrok, hK, hN⟩ := hv
  have C : s_C G p s (([.ref (G.2.2 + 0), .int x1, .int x2, .int x3] : List Value).toArray) m c RX6 cX6_set := ⟨B.exec, B.bytes, findClass_of_methodNamed B.named, fun w hw => atoms_spec (ws := wsU yX6_set cX6_set 4 (some .int)) B.pre w (List.mem_cons_of_mem _ hw), hK, hN⟩
  have hr := B.returns
  have hlocks := B.notSynchronized
  have S : s_St G σ s.heap s.heap [] := ⟨hP, va_S.rf, hrok⟩
  have hcs : 0 ≤ (rm_X6_set).cells ∧ 0 ≤ (rm_X6_set).slots := ⟨Nat.le_refl 0, Nat.le_refl 0⟩
  have hR : ∀ (r : Int32) (σ1 : Sg) (H : Heap) (locs : List Loc) (pc : Nat) (ls : Array Slot), decode cX6_set pc = .ok (.ireturn, 1) → post r σ1 → s_St G σ1 s.heap H locs → W p l e rm_X6_set s m ([.ref (G.2.2 + 0), .int x1, .int x2, .int x3] : List Value).toArray below meth c H locs 0 0 (MQ below (va_Qi post (s_B G) (s_A G.2.2)) ([.ref (G.2.2 + 0), .int x1, .int x2, .int x3] : List Value).toArray s 0 0 (s_A G.2.2)) (F0 m pc ls [.int r]) := fun _ _ _ _ _ _ hd hp S => ret_i C hr hlocks hd hp S
  have hl := lv_entry ([.ref (G.2.2 + 0), .int x1, .int x2, .int x3]) (n := 4) (Nat.le_of_ble_eq_true rfl)
  rw [lg_entry_eq]
  generalize (lg_sl ([.ref (G.2.2 + 0), .int x1, .int x2, .int x3]) ++ List.replicate (4 - (lg_sl ([.ref (G.2.2 + 0), .int x1, .int x2, .int x3])).length) Slot.unset).toArray = ls at hl ⊢
  have hl : lv_has ls 4 [(0, .ref (G.2.2 + 0)), (1, .int x1), (2, .int x2), (3, .int x3)] := hl
  unfold wpX6_set at h
  refine lv_aload_n C.1 C.2.1 dX6_set_0 rfl (lv_at hl 0 rfl) ?_
  refine g_X6_2 C fl_X6_22 kd_0 S fn_0_2 dX6_set_1 ?_
  refine lv_iload_n C.1 C.2.1 dX6_set_4 rfl (lv_at hl 1 rfl) ?_
  refine k_i (r_VN (As := [.int x1]) (rest := []) C hml (c_X1_has l G 5 x1 σ _ kd_5 h) kM_X1_has im_X1_has se_X1_has nm_X6_89 ⟨rfl, rfl⟩ ⟨Nat.le_of_ble_eq_true rfl, Nat.le_of_ble_eq_true rfl⟩ hcs S.v kd_5 (by decide) (T := TX1) (N := 4) rfl rfl hl.1 rfl (Nat.le_of_ble_eq_true rfl) dX6_set_5) S (fun r2 σ1 H locs h S => ?_)
  refine lv_if_eq (tgt := 27) C.1 C.2.1 dX6_set_8 (by decide) (fun c3 => ?_) (fun c3 => ?_)
  · replace h := h.1 c3
    refine lv_iconst (v := (-1 : Int32)) C.1 C.2.1 dX6_set_27 (by decide) ?_
    exact hR _ _ _ _ _ _ dX6_set_28 h S
  · replace h := h.2 c3
    refine lv_aload_n C.1 C.2.1 dX6_set_11 rfl (lv_at hl 0 rfl) ?_
    refine g_X6_2 C fl_X6_22 kd_0 S fn_0_2 dX6_set_12 ?_
    refine lv_iload_n C.1 C.2.1 dX6_set_15 rfl (lv_at hl 1 rfl) ?_
    refine k_r (kd := 3) (r_VN (As := [.int x1]) (rest := []) C hml (c_X1_at l G 5 x1 σ1 _ kd_5 h) kM_X1_at im_X1_at se_X1_at nm_X6_96 ⟨rfl, rfl⟩ ⟨Nat.le_of_ble_eq_true rfl, Nat.le_of_ble_eq_true rfl⟩ hcs S.v kd_5 (by decide) (T := TX1) (N := 4) rfl rfl hl.1 rfl (Nat.le_of_ble_eq_true rfl) dX6_set_16) S (fun q5 σ4 H locs hq5 h S => ?_)
    replace h := h hq5
    refine lv_iload_n C.1 C.2.1 dX6_set_19 rfl (lv_at hl 2 rfl) ?_
    refine lv_iload_n C.1 C.2.1 dX6_set_20 rfl (lv_at hl 3 rfl) ?_
    refine k_i (r_VN (As := [.int x2, .int x3]) (rest := []) C hml (c_X3_accepts l G q5 x2 x3 σ4 _ hq5 h) kM_X3_accepts im_X3_accepts se_X3_accepts nm_X6_100 ⟨rfl, rfl⟩ ⟨Nat.le_of_ble_eq_true rfl, Nat.le_of_ble_eq_true rfl⟩ hcs S.v hq5 (by decide) (T := TX3) (N := 6) rfl rfl hl.1 rfl (Nat.le_of_ble_eq_true rfl) dX6_set_21) S (fun r7 σ6 H locs h S => ?_)
    refine lv_if_ne (tgt := 29) C.1 C.2.1 dX6_set_24 (by decide) (fun c8 => ?_) (fun c8 => ?_)
    · replace h := h.1 c8
      refine lv_aload_n C.1 C.2.1 dX6_set_29 rfl (lv_at hl 0 rfl) ?_
      refine k_v (r_V (As := []) (rest := []) C hml (c_X6_beginChange l G σ6 _ h) kM_X6_beginChange im_X6_beginChange se_X6_beginChange ml_X6_82 ⟨rfl, rfl⟩ ⟨Nat.le_of_ble_eq_true rfl, Nat.le_of_ble_eq_true rfl⟩ hcs S.v kd_0 (by decide) (T := TX6) (N := 8) rfl rfl hl.1 rfl (Nat.le_of_ble_eq_true rfl) dX6_set_30) S (fun σ9 H locs h S => ?_)
      refine lv_aload_n C.1 C.2.1 dX6_set_33 rfl (lv_at hl 0 rfl) ?_
      refine g_X6_2 C fl_X6_22 kd_0 S fn_0_2 dX6_set_34 ?_
      refine lv_iload_n C.1 C.2.1 dX6_set_37 rfl (lv_at hl 1 rfl) ?_
      refine k_r (kd := 3) (r_VN (As := [.int x1]) (rest := []) C hml (c_X1_at l G 5 x1 σ9 _ kd_5 h) kM_X1_at im_X1_at se_X1_at nm_X6_96 ⟨rfl, rfl⟩ ⟨Nat.le_of_ble_eq_true rfl, Nat.le_of_ble_eq_true rfl⟩ hcs S.v kd_5 (by decide) (T := TX1) (N := 4) rfl rfl hl.1 rfl (Nat.le_of_ble_eq_true rfl) dX6_set_38) S (fun q11 σ10 H locs hq11 h S => ?_)
      replace h := h hq11
      refine lv_iload_n C.1 C.2.1 dX6_set_41 rfl (lv_at hl 2 rfl) ?_
      refine lv_iload_n C.1 C.2.1 dX6_set_42 rfl (lv_at hl 3 rfl) ?_
      refine k_i (r_VN (As := [.int x2, .int x3]) (rest := []) C hml (c_X3_exchange l G q11 x2 x3 σ10 _ hq11 h) kM_X3_exchange im_X3_exchange se_X3_exchange nm_X6_106 ⟨rfl, rfl⟩ ⟨Nat.le_of_ble_eq_true rfl, Nat.le_of_ble_eq_true rfl⟩ hcs S.v hq11 (by decide) (T := TX3) (N := 6) rfl rfl hl.1 rfl (Nat.le_of_ble_eq_true rfl) dX6_set_43) S (fun r13 σ12 H locs h S => ?_)
      exact hR _ _ _ _ _ _ dX6_set_46 h S
    · replace h := h.2 c8
      refine lv_iconst (v := (-1 : Int32)) C.1 C.2.1 dX6_set_27 (by decide) ?_
      exact hR _ _ _ _ _ _ dX6_set_28 h S
/-! X6_setSeparator -/
abbrev rm_X6_setSeparator : Room := { frames := 4, cells := 0, slots := 0, locals := 84 }
def BX6_setSeparator_18 (x1 : Int32) (post : Int32 → Sg → Prop)  (σ : Sg) : Prop := wpX6_beginChange σ (fun σ1 => (∀ σ2 : Sg, σ2 = setI σ1 5 3 x1 → post ((σ1.1 5 3)) σ2))
def wpX6_setSeparator (x1 : Int32) (σ : Sg) (post : Int32 → Sg → Prop) : Prop := (((x1 = 0) → BX6_setSeparator_18 x1 post σ) ∧ ((¬ x1 = 0) → (((x1 < (33 : Int32)) → post ((-1 : Int32)) σ) ∧ ((¬ x1 < (33 : Int32)) → (((x1 ≤ (47 : Int32)) → BX6_setSeparator_18 x1 post σ) ∧ ((¬ x1 ≤ (47 : Int32)) → post ((-1 : Int32)) σ))))))
set_option maxHeartbeats 4000000 in
set_option maxRecDepth 100000 in
theorem TX6_setSeparator_18 (C : s_C G p s args m c RX6 cX6_setSeparator) (hml : c.maxLocals = 3) (hcs : cells ≤ (rm_X6_setSeparator).cells ∧ slots ≤ (rm_X6_setSeparator).slots) {x1 : Int32} {post : Int32 → Sg → Prop} (hR : ∀ (r : Int32) (σ1 : Sg) (H : Heap) (locs : List Loc) (pc : Nat) (ls : Array Slot), decode cX6_setSeparator pc = .ok (.ireturn, 1) → post r σ1 → s_St G σ1 H0 H locs → W p l e rm_X6_setSeparator s m args below meth c H locs cells slots Q (F0 m pc ls [.int r])) : ∀ {σ : Sg} {H : Heap} {locs : List Loc} {ls : Array Slot}, s_St G σ H0 H locs → lv_has ls 3 [(0, .ref (G.2.2 + 0)), (1, .int x1)] → BX6_setSeparator_18 x1 post σ → W p l e rm_X6_setSeparator s m args below meth c H locs cells slots Q (F0 m 18 ls []) := by
  intro   σ H locs ls S hl h
  unfold BX6_setSeparator_18 at h
  refine lv_aload_n C.1 C.2.1 dX6_setSeparator_18 rfl (lv_at hl 0 rfl) ?_
  refine k_v (r_V (As := []) (rest := []) C hml (c_X6_beginChange l G σ _ h) kM_X6_beginChange im_X6_beginChange se_X6_beginChange ml_X6_82 ⟨rfl, rfl⟩ ⟨Nat.le_of_ble_eq_true rfl, Nat.le_of_ble_eq_true rfl⟩ hcs S.v kd_0 (by decide) (T := TX6) (N := 8) rfl rfl hl.1 rfl (Nat.le_of_ble_eq_true rfl) dX6_setSeparator_19) S (fun σ1 H locs h S => ?_)
  refine lv_aload_n C.1 C.2.1 dX6_setSeparator_22 rfl (lv_at hl 0 rfl) ?_
  refine g_X6_2 C fl_X6_22 kd_0 S fn_0_2 dX6_setSeparator_23 ?_
  refine gn_X1_3 C nf_X6_114 kd_5 S dX6_setSeparator_26 ?_
  refine lv_istore_n (lv' := [(2, .int (σ1.1 5 3)), (0, .ref (G.2.2 + 0)), (1, .int x1)]) C.1 C.2.1 dX6_setSeparator_29 rfl hl (by decide) rfl (fun ls hl => ?_)
  refine lv_aload_n C.1 C.2.1 dX6_setSeparator_30 rfl (lv_at hl 1 rfl) ?_
  refine g_X6_2 C fl_X6_22 kd_0 S fn_0_2 dX6_setSeparator_31 ?_
  refine lv_iload_n C.1 C.2.1 dX6_setSeparator_34 rfl (lv_at hl 2 rfl) ?_
  refine pn_X1_3 C nf_X6_114 kd_5 S dX6_setSeparator_35 (fun σ2 H locs e3 S => ?_)
  replace h := h σ2 e3
  refine lv_iload_n C.1 C.2.1 dX6_setSeparator_38 rfl (lv_at hl 0 rfl) ?_
  exact hR _ _ _ _ _ _ dX6_setSeparator_39 h S
theorem kM_X6_setSeparator : s_M yX6_setSeparator cX6_setSeparator 3 (some .int) 1 := ⟨co_X6_setSeparator, in_X6, by decide, by decide, by decide +kernel⟩
set_option maxHeartbeats 4000000 in
set_option maxRecDepth 100000 in
theorem c_X6_setSeparator (l : Launch) (G : s_G) (x1 : Int32) (σ : Sg) (post : Int32 → Sg → Prop) (h : wpX6_setSeparator x1 σ post) : Met l yX6_setSeparator (wsU yX6_setSeparator cX6_setSeparator 3 (some .int)) rm_X6_setSeparator (va_Pc [.ref (G.2.2 + 0), .int x1] (s_Pre G σ)) (va_Qi post (s_B G) (s_A G.2.2)) 0 0 (s_A G.2.2) := by
  refine Met.ofW (cc := cX6_setSeparator) (maxL := 3) (ret := (some .int)) (by decide) rfl ?_
  intro p e s m args below meth c s₁ B hml hv
  obtain ⟨rfl, hP, hrok, hK, hN⟩ := hv
  have C : s_C G p s (([.ref (G.2.2 + 0), .int x1] : List Value).toArray) m c RX6 cX6_setSeparator := ⟨B.exec, B.bytes, findClass_of_methodNamed B.named, fun w hw => atoms_spec (ws := wsU yX6_setSeparator cX6_setSeparator 3 (some .int)) B.pre w (List.mem_cons_of_mem _ hw), hK, hN⟩
  have hr := B.returns
  have hlocks := B.notSynchronized
  have S : s_St G σ s.heap s.heap [] := ⟨hP, va_S.rf, hrok⟩
  have hcs : 0 ≤ (rm_X6_setSeparator).cells ∧ 0 ≤ (rm_X6_setSeparator).slots := ⟨Nat.le_refl 0, Nat.le_refl 0⟩
  have hR : ∀ (r : Int32) (σ1 : Sg) (H : Heap) (locs : List Loc) (pc : Nat) (ls : Array Slot), decode cX6_setSeparator pc = .ok (.ireturn, 1) → post r σ1 → s_St G σ1 s.heap H locs → W p l e rm_X6_setSeparator s m ([.ref (G.2.2 + 0), .int x1] : List Value).toArray below meth c H locs 0 0 (MQ below (va_Qi post (s_B G) (s_A G.2.2)) ([.ref (G.2.2 + 0), .int x1] : List Value).toArray s 0 0 (s_A G.2.2)) (F0 m pc ls [.int r]) := fun _ _ _ _ _ _ hd hp S => ret_i C hr hlocks hd hp S
  have hl := lv_entry ([.ref (G.2.2 + 0), .int x1]) (n := 3) (Nat.le_of_ble_eq_true rfl)
  rw [lg_entry_eq]
  generalize (lg_sl ([.ref (G.2.2 + 0), .int x1]) ++ List.replicate (3 - (lg_sl ([.ref (G.2.2 + 0), .int x1])).length) Slot.unset).toArray = ls at hl ⊢
  have hl : lv_has ls 3 [(0, .ref (G.2.2 + 0)), (1, .int x1)] := hl
  unfold wpX6_setSeparator at h
  refine lv_iload_n C.1 C.2.1 dX6_setSeparator_0 rfl (lv_at hl 1 rfl) ?_
  refine lv_if_eq (tgt := 18) C.1 C.2.1 dX6_setSeparator_1 (by decide) (fun c4 => ?_) (fun c4 => ?_)
  · replace h := h.1 c4
    exact TX6_setSeparator_18 C hml hcs hR S (lv_sub hl [0, 1] rfl) h
  · replace h := h.2 c4
    refine lv_iload_n C.1 C.2.1 dX6_setSeparator_4 rfl (lv_at hl 1 rfl) ?_
    refine lv_bipush (v := (33 : Int32)) C.1 C.2.1 dX6_setSeparator_5 (by decide) ?_
    refine lv_icmp_lt (tgt := 16) C.1 C.2.1 dX6_setSeparator_7 (by decide) (fun c5 => ?_) (fun c5 => ?_)
    · replace h := h.1 c5
      refine lv_iconst (v := (-1 : Int32)) C.1 C.2.1 dX6_setSeparator_16 (by decide) ?_
      exact hR _ _ _ _ _ _ dX6_setSeparator_17 h S
    · replace h := h.2 c5
      refine lv_iload_n C.1 C.2.1 dX6_setSeparator_10 rfl (lv_at hl 1 rfl) ?_
      refine lv_bipush (v := (47 : Int32)) C.1 C.2.1 dX6_setSeparator_11 (by decide) ?_
      refine lv_icmp_le (tgt := 18) C.1 C.2.1 dX6_setSeparator_13 (by decide) (fun c6 => ?_) (fun c6 => ?_)
      · replace h := h.1 c6
        exact TX6_setSeparator_18 C hml hcs hR S (lv_sub hl [0, 1] rfl) h
      · replace h := h.2 c6
        refine lv_iconst (v := (-1 : Int32)) C.1 C.2.1 dX6_setSeparator_16 (by decide) ?_
        exact hR _ _ _ _ _ _ dX6_setSeparator_17 h S
/-! X2_restore -/
abbrev rm_X2_restore : Room := { frames := 2, cells := 0, slots := 0, locals := 43 }
def wpX2_restore  (σ : Sg) (post : Sg → Prop) : Prop := ((((σ.1 14 1) ≤ 0) → post σ) ∧ ((¬ (σ.1 14 1) ≤ 0) → ((((8 : Int32) < (σ.1 14 1)) → post σ) ∧ ((¬ (8 : Int32) < (σ.1 14 1)) → (∀ σ3 : Sg, σ3 = setI σ 14 1 (((σ.1 14 1) - (1 : Int32))) → (vp_in ((σ3.1 14 1)) 8 ∧ (∀ q5 : Nat, q5 = (σ3.2.2 15 ((σ3.1 14 1)).toNatClampNeg) → wpX1_copyFrom 5 q5 σ3 (fun σ7 => post σ7))))))))
theorem kM_X2_restore : s_M yX2_restore cX2_restore 2 none 1 := ⟨co_X2_restore, in_X2, by decide, by decide, by decide +kernel⟩
set_option maxHeartbeats 4000000 in
set_option maxRecDepth 100000 in
theorem c_X2_restore (l : Launch) (G : s_G)  (σ : Sg) (post : Sg → Prop) (h : wpX2_restore σ post) : Met l yX2_restore (wsU yX2_restore cX2_restore 2 none) rm_X2_restore (va_Pc [.ref (G.2.2 + 14), .ref (G.2.2 + 5)] (s_Pre G σ)) (va_Qv post (s_B G) (s_A G.2.2)) 0 0 (s_A G.2.2) := by
  refine Met.ofW (cc := cX2_restore) (maxL := 2) (ret := none) (by decide) rfl ?_
  intro p e s m args below meth c s₁ B hml hv
  obtain ⟨rfl, hP, hrok, hK, hN⟩ := hv
  have C : s_C G p s (([.ref (G.2.2 + 14), .ref (G.2.2 + 5)] : List Value).toArray) m c RX2 cX2_restore := ⟨B.exec, B.bytes, findClass_of_methodNamed B.named, fun w hw => atoms_spec (ws := wsU yX2_restore cX2_restore 2 none) B.pre w (List.mem_cons_of_mem _ hw), hK, hN⟩
  have hr := B.returns
  have hlocks := B.notSynchronized
  have S : s_St G σ s.heap s.heap [] := ⟨hP, va_S.rf, hrok⟩
  have hcs : 0 ≤ (rm_X2_restore).cells ∧ 0 ≤ (rm_X2_restore).slots := ⟨Nat.le_refl 0, Nat.le_refl 0⟩
  have hR : ∀ (σ1 : Sg) (H : Heap) (locs : List Loc) (pc : Nat) (ls : Array Slot), decode cX2_restore pc = .ok (.return_, 1) → post σ1 → s_St G σ1 s.heap H locs → W p l e rm_X2_restore s m ([.ref (G.2.2 + 14), .ref (G.2.2 + 5)] : List Value).toArray below meth c H locs 0 0 (MQ below (va_Qv post (s_B G) (s_A G.2.2)) ([.ref (G.2.2 + 14), .ref (G.2.2 + 5)] : List Value).toArray s 0 0 (s_A G.2.2)) (F0 m pc ls []) := fun _ _ _ _ _ hd hp S => ret_v C hr hlocks hd hp S
  have hl := lv_entry ([.ref (G.2.2 + 14), .ref (G.2.2 + 5)]) (n := 2) (Nat.le_of_ble_eq_true rfl)
  rw [lg_entry_eq]
  generalize (lg_sl ([.ref (G.2.2 + 14), .ref (G.2.2 + 5)]) ++ List.replicate (2 - (lg_sl ([.ref (G.2.2 + 14), .ref (G.2.2 + 5)])).length) Slot.unset).toArray = ls at hl ⊢
  have hl : lv_has ls 2 [(0, .ref (G.2.2 + 14)), (1, .ref (G.2.2 + 5))] := hl
  unfold wpX2_restore at h
  refine lv_aload_n C.1 C.2.1 dX2_restore_0 rfl (lv_at hl 0 rfl) ?_
  refine g_X2_1 C fl_X2_18 kd_14 S dX2_restore_1 ?_
  refine lv_if_le (tgt := 42) C.1 C.2.1 dX2_restore_4 (by decide) (fun c1 => ?_) (fun c1 => ?_)
  · replace h := h.1 c1
    exact hR _ _ _ _ _ dX2_restore_42 h S
  · replace h := h.2 c1
    refine lv_aload_n C.1 C.2.1 dX2_restore_7 rfl (lv_at hl 0 rfl) ?_
    refine g_X2_1 C fl_X2_18 kd_14 S dX2_restore_8 ?_
    refine lv_aload_n C.1 C.2.1 dX2_restore_11 rfl (lv_at hl 0 rfl) ?_
    refine g_X2_0 C fl_X2_11 kd_14 S fn_14_0 dX2_restore_12 ?_
    refine a_len12 C kd_15 S (v := (8 : Int32)) (by rw [ln_15]; rfl) dX2_restore_15 ?_
    refine lv_icmp_gt (tgt := 42) C.1 C.2.1 dX2_restore_16 (by decide) (fun c2 => ?_) (fun c2 => ?_)
    · replace h := h.1 c2
      exact hR _ _ _ _ _ dX2_restore_42 h S
    · replace h := h.2 c2
      refine lv_aload_n C.1 C.2.1 dX2_restore_19 rfl (lv_at hl 0 rfl) ?_
      refine lv_dup C.1 C.2.1 dX2_restore_20 rfl ?_
      refine g_X2_1 C fl_X2_18 kd_14 S dX2_restore_21 ?_
      refine lv_iconst (v := (1 : Int32)) C.1 C.2.1 dX2_restore_24 (by decide) ?_
      refine lv_isub C.1 C.2.1 dX2_restore_25 ?_
      refine p_X2_1 C fl_X2_18 kd_14 S dX2_restore_26 (fun σ3 H locs e4 S => ?_)
      replace h := h σ3 e4
      refine lv_aload_n C.1 C.2.1 dX2_restore_29 rfl (lv_at hl 1 rfl) ?_
      refine lv_aload_n C.1 C.2.1 dX2_restore_30 rfl (lv_at hl 0 rfl) ?_
      refine g_X2_0 C fl_X2_11 kd_14 S fn_14_0 dX2_restore_31 ?_
      refine lv_aload_n C.1 C.2.1 dX2_restore_34 rfl (lv_at hl 0 rfl) ?_
      refine g_X2_1 C fl_X2_18 kd_14 S dX2_restore_35 ?_
      have hq5 := (S.2.2 15 ((σ3.1 14 1)).toNatClampNeg (vp_lt ln_15 h.1)).2 kd_15
      refine a_dld C kd_15 S ln_15 h.1 dX2_restore_38 ?_
      replace h := h.2
      obtain ⟨q5, e6⟩ : ∃ z, z = (σ3.2.2 15 ((σ3.1 14 1)).toNatClampNeg) := ⟨_, rfl⟩
      rw [← e6] at hq5 ⊢
      replace h := h q5 e6
      refine k_v (r_VN (As := [.ref (G.2.2 + q5)]) (rest := []) C hml (c_X1_copyFrom l G 5 q5 σ3 _ kd_5 hq5 h) kM_X1_copyFrom im_X1_copyFrom se_X1_copyFrom nm_X2_25 ⟨rfl, rfl⟩ ⟨Nat.le_of_ble_eq_true rfl, Nat.le_of_ble_eq_true rfl⟩ hcs S.v kd_5 (by decide) (T := TX1) (N := 4) rfl rfl hl.1 rfl (Nat.le_of_ble_eq_true rfl) dX2_restore_39) S (fun σ7 H locs h S => ?_)
      exact hR _ _ _ _ _ dX2_restore_42 h S
/-! X6_undo -/
abbrev rm_X6_undo : Room := { frames := 3, cells := 0, slots := 0, locals := 64 }
def wpX6_undo  (σ : Sg) (post : Int32 → Sg → Prop) : Prop := (((¬ (σ.1 14 1) = 0) → wpX2_restore σ (fun σ2 => wpX6_forgetTables σ2 (fun σ3 => post ((σ3.1 14 1)) σ3))) ∧ (((σ.1 14 1) = 0) → post ((-2 : Int32)) σ))
theorem kM_X6_undo : s_M yX6_undo cX6_undo 1 (some .int) 0 := ⟨co_X6_undo, in_X6, by decide, by decide, by decide +kernel⟩
set_option maxHeartbeats 4000000 in
set_option maxRecDepth 100000 in
theorem c_X6_undo (l : Launch) (G : s_G)  (σ : Sg) (post : Int32 → Sg → Prop) (h : wpX6_undo σ post) : Met l yX6_undo (wsU yX6_undo cX6_undo 1 (some .int)) rm_X6_undo (va_Pc [.ref (G.2.2 + 0)] (s_Pre G σ)) (va_Qi post (s_B G) (s_A G.2.2)) 0 0 (s_A G.2.2) := by
  refine Met.ofW (cc := cX6_undo) (maxL := 1) (ret := (some .int)) (by decide) rfl ?_
  intro p e s m args below meth c s₁ B hml hv
  obtain ⟨rfl, hP, hrok, hK, hN⟩ := hv
  have C : s_C G p s (([.ref (G.2.2 + 0)] : List Value).toArray) m c RX6 cX6_undo := ⟨B.exec, B.bytes, findClass_of_methodNamed B.named, fun w hw => atoms_spec (ws := wsU yX6_undo cX6_undo 1 (some .int)) B.pre w (List.mem_cons_of_mem _ hw), hK, hN⟩
  have hr := B.returns
  have hlocks := B.notSynchronized
  have S : s_St G σ s.heap s.heap [] := ⟨hP, va_S.rf, hrok⟩
  have hcs : 0 ≤ (rm_X6_undo).cells ∧ 0 ≤ (rm_X6_undo).slots := ⟨Nat.le_refl 0, Nat.le_refl 0⟩
  have hR : ∀ (r : Int32) (σ1 : Sg) (H : Heap) (locs : List Loc) (pc : Nat) (ls : Array Slot), decode cX6_undo pc = .ok (.ireturn, 1) → post r σ1 → s_St G σ1 s.heap H locs → W p l e rm_X6_undo s m ([.ref (G.2.2 + 0)] : List Value).toArray below meth c H locs 0 0 (MQ below (va_Qi post (s_B G) (s_A G.2.2)) ([.ref (G.2.2 + 0)] : List Value).toArray s 0 0 (s_A G.2.2)) (F0 m pc ls [.int r]) := fun _ _ _ _ _ _ hd hp S => ret_i C hr hlocks hd hp S
  have hl := lv_entry ([.ref (G.2.2 + 0)]) (n := 1) (Nat.le_of_ble_eq_true rfl)
  rw [lg_entry_eq]
  generalize (lg_sl ([.ref (G.2.2 + 0)]) ++ List.replicate (1 - (lg_sl ([.ref (G.2.2 + 0)])).length) Slot.unset).toArray = ls at hl ⊢
  have hl : lv_has ls 1 [(0, .ref (G.2.2 + 0))] := hl
  unfold wpX6_undo at h
  refine lv_aload_n C.1 C.2.1 dX6_undo_0 rfl (lv_at hl 0 rfl) ?_
  refine g_X6_3 C fl_X6_29 kd_0 S fn_0_3 dX6_undo_1 ?_
  refine gn_X2_1 C nf_X6_127 kd_14 S dX6_undo_4 ?_
  refine lv_if_ne (tgt := 13) C.1 C.2.1 dX6_undo_7 (by decide) (fun c1 => ?_) (fun c1 => ?_)
  · replace h := h.1 c1
    refine lv_aload_n C.1 C.2.1 dX6_undo_13 rfl (lv_at hl 0 rfl) ?_
    refine g_X6_3 C fl_X6_29 kd_0 S fn_0_3 dX6_undo_14 ?_
    refine lv_aload_n C.1 C.2.1 dX6_undo_17 rfl (lv_at hl 0 rfl) ?_
    refine g_X6_2 C fl_X6_22 kd_0 S fn_0_2 dX6_undo_18 ?_
    refine k_v (r_VN (As := [.ref (G.2.2 + 5)]) (rest := []) C hml (c_X2_restore l G σ _ h) kM_X2_restore im_X2_restore se_X2_restore nm_X6_128 ⟨rfl, rfl⟩ ⟨Nat.le_of_ble_eq_true rfl, Nat.le_of_ble_eq_true rfl⟩ hcs S.v kd_14 (by decide) (T := TX2) (N := 2) rfl rfl hl.1 rfl (Nat.le_of_ble_eq_true rfl) dX6_undo_21) S (fun σ2 H locs h S => ?_)
    refine lv_aload_n C.1 C.2.1 dX6_undo_24 rfl (lv_at hl 0 rfl) ?_
    refine k_v (r_V (As := []) (rest := []) C hml (c_X6_forgetTables l G σ2 _ h) kM_X6_forgetTables im_X6_forgetTables se_X6_forgetTables ml_X6_132 ⟨rfl, rfl⟩ ⟨Nat.le_of_ble_eq_true rfl, Nat.le_of_ble_eq_true rfl⟩ hcs S.v kd_0 (by decide) (T := TX6) (N := 8) rfl rfl hl.1 rfl (Nat.le_of_ble_eq_true rfl) dX6_undo_25) S (fun σ3 H locs h S => ?_)
    refine lv_aload_n C.1 C.2.1 dX6_undo_28 rfl (lv_at hl 0 rfl) ?_
    refine g_X6_3 C fl_X6_29 kd_0 S fn_0_3 dX6_undo_29 ?_
    refine gn_X2_1 C nf_X6_127 kd_14 S dX6_undo_32 ?_
    exact hR _ _ _ _ _ _ dX6_undo_35 h S
  · replace h := h.2 c1
    refine lv_bipush (v := (-2 : Int32)) C.1 C.2.1 dX6_undo_10 (by decide) ?_
    exact hR _ _ _ _ _ _ dX6_undo_12 h S
/-! L_change -/
abbrev rm_L_change : Room := { frames := 5, cells := 0, slots := 0, locals := 111 }
def BL_change_115 (x1 : Int32) (x2 : Int32) (post : Int32 → Sg → Prop) (x5 : Int32) (y0 : Int32) (σ : Sg) : Prop := (((0 ≤ x5) → wpL_low ((x1 >>> ((5 : Int32) &&& 31))) ((3 : Int32)) σ (fun r3 σ2 => wpL_low ((x2 >>> ((14 : Int32) &&& 31))) ((2 : Int32)) σ2 (fun r5 σ4 => wpX6_declare r3 y0 (((y0 + (1 : Int32)) + r5)) σ4 (fun r7 σ6 => post r7 σ6)))) ∧ ((¬ 0 ≤ x5) → post x5 σ))
def BL_change_84 (x1 : Int32) (x2 : Int32) (post : Int32 → Sg → Prop)  (σ : Sg) : Prop := wpL_word x2 σ (fun r9 σ8 => wpL_low ((x2 >>> ((10 : Int32) &&& 31))) ((4 : Int32)) σ8 (fun r11 σ10 => ((((2 : Int32) ≤ r11) → wpL_low ((x2 >>> ((12 : Int32) &&& 31))) ((2 : Int32)) σ10 (fun r14 σ13 => BL_change_115 x1 x2 post r9 r14 σ13)) ∧ ((¬ (2 : Int32) ≤ r11) → BL_change_115 x1 x2 post r9 ((0 : Int32)) σ10))))
def BL_change_218 (x1 : Int32) (x2 : Int32) (post : Int32 → Sg → Prop) (x3 : Int32) (x4 : Int32) (σ : Sg) : Prop := wpL_low x2 ((4 : Int32)) σ (fun r16 σ15 => (((¬ r16 = 0) → wpX6_rule x3 x4 ((1 : Int32)) σ15 (fun r19 σ18 => post r19 σ18)) ∧ ((r16 = 0) → wpX6_rule x3 x4 ((0 : Int32)) σ15 (fun r21 σ20 => post r21 σ20))))
def wpL_change (x1 : Int32) (x2 : Int32) (σ : Sg) (post : Int32 → Sg → Prop) : Prop := wpL_low ((x1 >>> ((5 : Int32) &&& 31))) ((4 : Int32)) σ (fun r23 σ22 => wpL_low ((x1 >>> ((8 : Int32) &&& 31))) ((4 : Int32)) σ22 (fun r25 σ24 => wpL_low x1 ((14 : Int32)) σ24 (fun r27 σ26 => ((((r27).toInt < 0 ∨ 10 < (r27).toInt) → wpX6_undo σ26 (fun r30 σ29 => post r30 σ29)) ∧ ((r27 = 0) → BL_change_84 x1 x2 post σ26) ∧ ((r27 = 1) → BL_change_84 x1 x2 post σ26) ∧ ((r27 = 2) → BL_change_84 x1 x2 post σ26) ∧ ((r27 = 3) → BL_change_84 x1 x2 post σ26) ∧ ((r27 = 4) → wpL_low x2 ((3 : Int32)) σ26 (fun r32 σ31 => (((¬ r32 = 0) → post ((-9 : Int32)) σ31) ∧ ((r32 = 0) → wpX6_remove r23 σ31 (fun r35 σ34 => post r35 σ34))))) ∧ ((r27 = 5) → wpL_low x2 ((4 : Int32)) σ26 (fun r37 σ36 => wpL_low ((x2 >>> ((2 : Int32) &&& 31))) ((4 : Int32)) σ36 (fun r39 σ38 => wpX6_set r23 r37 r39 σ38 (fun r41 σ40 => post r41 σ40)))) ∧ ((r27 = 6) → wpX6_move r23 r25 σ26 (fun r43 σ42 => post r43 σ42)) ∧ ((r27 = 7) → wpL_low x2 ((3 : Int32)) σ26 (fun r45 σ44 => (((¬ r45 = 0) → wpX6_setSeparator ((44 : Int32)) σ44 (fun r48 σ47 => post r48 σ47)) ∧ ((r45 = 0) → wpX6_setSeparator ((0 : Int32)) σ44 (fun r50 σ49 => post r50 σ49))))) ∧ ((r27 = 8) → BL_change_218 x1 x2 post r23 r25 σ26) ∧ ((r27 = 9) → BL_change_218 x1 x2 post r23 r25 σ26) ∧ ((r27 = 10) → wpL_low x2 ((2 : Int32)) σ26 (fun r52 σ51 => (((¬ r52 = 0) → wpL_low ((x2 >>> ((1 : Int32) &&& 31))) ((2 : Int32)) σ51 (fun r55 σ54 => wpX6_back r55 σ54 (fun r57 σ56 => post r57 σ56))) ∧ ((r52 = 0) → wpL_low ((x2 >>> ((1 : Int32) &&& 31))) ((2 : Int32)) σ51 (fun r59 σ58 => wpX6_keep r59 σ58 (fun r61 σ60 => post r61 σ60))))))))))
set_option maxHeartbeats 4000000 in
set_option maxRecDepth 100000 in
theorem TL_change_115 (C : s_C G p s args m c RL cL_change) (hml : c.maxLocals = 7) (hcs : cells ≤ (rm_L_change).cells ∧ slots ≤ (rm_L_change).slots) {x1 : Int32} {x2 : Int32} {post : Int32 → Sg → Prop} (hR : ∀ (r : Int32) (σ1 : Sg) (H : Heap) (locs : List Loc) (pc : Nat) (ls : Array Slot), decode cL_change pc = .ok (.ireturn, 1) → post r σ1 → s_St G σ1 H0 H locs → W p l e rm_L_change s m args below meth c H locs cells slots Q (F0 m pc ls [.int r])) : ∀ (x5 : Int32) (y0 : Int32), ∀ {σ : Sg} {H : Heap} {locs : List Loc} {ls : Array Slot}, s_St G σ H0 H locs → lv_has ls 7 [(0, .ref (G.2.2 + 0)), (1, .int x1), (2, .int x2), (5, .int x5)] → BL_change_115 x1 x2 post x5 y0 σ → W p l e rm_L_change s m args below meth c H locs cells slots Q (F0 m 115 ls [.int y0]) := by
  intro x5 y0  σ H locs ls S hl h
  unfold BL_change_115 at h
  refine lv_istore (lv' := [(6, .int y0), (0, .ref (G.2.2 + 0)), (1, .int x1), (2, .int x2), (5, .int x5)]) C.1 C.2.1 dL_change_115 hl (by decide) rfl (fun ls hl => ?_)
  refine lv_iload C.1 C.2.1 dL_change_117 (lv_at hl 4 rfl) ?_
  refine lv_if_ge (tgt := 127) C.1 C.2.1 dL_change_119 (by decide) (fun c1 => ?_) (fun c1 => ?_)
  · replace h := h.1 c1
    refine lv_aload_n C.1 C.2.1 dL_change_127 rfl (lv_at hl 1 rfl) ?_
    refine lv_iload_n C.1 C.2.1 dL_change_128 rfl (lv_at hl 2 rfl) ?_
    refine lv_iconst (v := (5 : Int32)) C.1 C.2.1 dL_change_129 (by decide) ?_
    refine lv_ishr C.1 C.2.1 dL_change_130 ?_
    refine lv_iconst (v := (3 : Int32)) C.1 C.2.1 dL_change_131 (by decide) ?_
    refine k_i (r_S (As := [.int (x1 >>> ((5 : Int32) &&& 31)), .int (3 : Int32)]) (rest := [.ref (G.2.2 + 0)]) C hml (c_L_low l G ((x1 >>> ((5 : Int32) &&& 31))) ((3 : Int32)) σ _ h) kM_L_low st_L_low ml_L_15 ⟨rfl, rfl⟩ ⟨Nat.le_of_ble_eq_true rfl, Nat.le_of_ble_eq_true rfl⟩ hcs S.v rfl hl.1 rfl (Nat.le_of_ble_eq_true rfl) dL_change_132) S (fun r3 σ2 H locs h S => ?_)
    refine lv_iload C.1 C.2.1 dL_change_135 (lv_at hl 0 rfl) ?_
    refine lv_iload C.1 C.2.1 dL_change_137 (lv_at hl 0 rfl) ?_
    refine lv_iconst (v := (1 : Int32)) C.1 C.2.1 dL_change_139 (by decide) ?_
    refine lv_iadd C.1 C.2.1 dL_change_140 ?_
    refine lv_iload_n C.1 C.2.1 dL_change_141 rfl (lv_at hl 3 rfl) ?_
    refine lv_bipush (v := (14 : Int32)) C.1 C.2.1 dL_change_142 (by decide) ?_
    refine lv_ishr C.1 C.2.1 dL_change_144 ?_
    refine lv_iconst (v := (2 : Int32)) C.1 C.2.1 dL_change_145 (by decide) ?_
    refine k_i (r_S (As := [.int (x2 >>> ((14 : Int32) &&& 31)), .int (2 : Int32)]) (rest := [.int (y0 + (1 : Int32)), .int y0, .int r3, .ref (G.2.2 + 0)]) C hml (c_L_low l G ((x2 >>> ((14 : Int32) &&& 31))) ((2 : Int32)) σ2 _ h) kM_L_low st_L_low ml_L_15 ⟨rfl, rfl⟩ ⟨Nat.le_of_ble_eq_true rfl, Nat.le_of_ble_eq_true rfl⟩ hcs S.v rfl hl.1 rfl (Nat.le_of_ble_eq_true rfl) dL_change_146) S (fun r5 σ4 H locs h S => ?_)
    refine lv_iadd C.1 C.2.1 dL_change_149 ?_
    refine k_i (r_V (As := [.int r3, .int y0, .int ((y0 + (1 : Int32)) + r5)]) (rest := []) C hml (c_X6_declare l G r3 y0 (((y0 + (1 : Int32)) + r5)) σ4 _ h) kM_X6_declare im_X6_declare se_X6_declare ml_L_29 ⟨rfl, rfl⟩ ⟨Nat.le_of_ble_eq_true rfl, Nat.le_of_ble_eq_true rfl⟩ hcs S.v kd_0 (by decide) (T := TX6) (N := 8) rfl rfl hl.1 rfl (Nat.le_of_ble_eq_true rfl) dL_change_150) S (fun r7 σ6 H locs h S => ?_)
    exact hR _ _ _ _ _ _ dL_change_153 h S
  · replace h := h.2 c1
    refine lv_iload C.1 C.2.1 dL_change_122 (lv_at hl 4 rfl) ?_
    refine lv_goto (tgt := 153) C.1 C.2.1 dL_change_124 (by decide) ?_
    exact hR _ _ _ _ _ _ dL_change_153 h S
set_option maxHeartbeats 4000000 in
set_option maxRecDepth 100000 in
theorem TL_change_84 (C : s_C G p s args m c RL cL_change) (hml : c.maxLocals = 7) (hcs : cells ≤ (rm_L_change).cells ∧ slots ≤ (rm_L_change).slots) {x1 : Int32} {x2 : Int32} {post : Int32 → Sg → Prop} (hR : ∀ (r : Int32) (σ1 : Sg) (H : Heap) (locs : List Loc) (pc : Nat) (ls : Array Slot), decode cL_change pc = .ok (.ireturn, 1) → post r σ1 → s_St G σ1 H0 H locs → W p l e rm_L_change s m args below meth c H locs cells slots Q (F0 m pc ls [.int r])) : ∀ {σ : Sg} {H : Heap} {locs : List Loc} {ls : Array Slot}, s_St G σ H0 H locs → lv_has ls 7 [(0, .ref (G.2.2 + 0)), (1, .int x1), (2, .int x2)] → BL_change_84 x1 x2 post σ → W p l e rm_L_change s m args below meth c H locs cells slots Q (F0 m 84 ls []) := by
  intro   σ H locs ls S hl h
  unfold BL_change_84 at h
  refine lv_aload_n C.1 C.2.1 dL_change_84 rfl (lv_at hl 0 rfl) ?_
  refine lv_iload_n C.1 C.2.1 dL_change_85 rfl (lv_at hl 2 rfl) ?_
  refine k_i (r_S (As := [.ref (G.2.2 + 0), .int x2]) (rest := []) C hml (c_L_word l G x2 σ _ h) kM_L_word st_L_word ml_L_25 ⟨rfl, rfl⟩ ⟨Nat.le_of_ble_eq_true rfl, Nat.le_of_ble_eq_true rfl⟩ hcs S.v rfl hl.1 rfl (Nat.le_of_ble_eq_true rfl) dL_change_86) S (fun r9 σ8 H locs h S => ?_)
  refine lv_istore (lv' := [(5, .int r9), (0, .ref (G.2.2 + 0)), (1, .int x1), (2, .int x2)]) C.1 C.2.1 dL_change_89 hl (by decide) rfl (fun ls hl => ?_)
  refine lv_iload_n C.1 C.2.1 dL_change_91 rfl (lv_at hl 3 rfl) ?_
  refine lv_bipush (v := (10 : Int32)) C.1 C.2.1 dL_change_92 (by decide) ?_
  refine lv_ishr C.1 C.2.1 dL_change_94 ?_
  refine lv_iconst (v := (4 : Int32)) C.1 C.2.1 dL_change_95 (by decide) ?_
  refine k_i (r_S (As := [.int (x2 >>> ((10 : Int32) &&& 31)), .int (4 : Int32)]) (rest := []) C hml (c_L_low l G ((x2 >>> ((10 : Int32) &&& 31))) ((4 : Int32)) σ8 _ h) kM_L_low st_L_low ml_L_15 ⟨rfl, rfl⟩ ⟨Nat.le_of_ble_eq_true rfl, Nat.le_of_ble_eq_true rfl⟩ hcs S.v rfl hl.1 rfl (Nat.le_of_ble_eq_true rfl) dL_change_96) S (fun r11 σ10 H locs h S => ?_)
  refine lv_iconst (v := (2 : Int32)) C.1 C.2.1 dL_change_99 (by decide) ?_
  refine lv_icmp_ge (tgt := 107) C.1 C.2.1 dL_change_100 (by decide) (fun c12 => ?_) (fun c12 => ?_)
  · replace h := h.1 c12
    refine lv_iload_n C.1 C.2.1 dL_change_107 rfl (lv_at hl 3 rfl) ?_
    refine lv_bipush (v := (12 : Int32)) C.1 C.2.1 dL_change_108 (by decide) ?_
    refine lv_ishr C.1 C.2.1 dL_change_110 ?_
    refine lv_iconst (v := (2 : Int32)) C.1 C.2.1 dL_change_111 (by decide) ?_
    refine k_i (r_S (As := [.int (x2 >>> ((12 : Int32) &&& 31)), .int (2 : Int32)]) (rest := []) C hml (c_L_low l G ((x2 >>> ((12 : Int32) &&& 31))) ((2 : Int32)) σ10 _ h) kM_L_low st_L_low ml_L_15 ⟨rfl, rfl⟩ ⟨Nat.le_of_ble_eq_true rfl, Nat.le_of_ble_eq_true rfl⟩ hcs S.v rfl hl.1 rfl (Nat.le_of_ble_eq_true rfl) dL_change_112) S (fun r14 σ13 H locs h S => ?_)
    exact TL_change_115 C hml hcs hR r9 r14 S (lv_sub hl [1, 2, 3, 0] rfl) h
  · replace h := h.2 c12
    refine lv_iconst (v := (0 : Int32)) C.1 C.2.1 dL_change_103 (by decide) ?_
    refine lv_goto (tgt := 115) C.1 C.2.1 dL_change_104 (by decide) ?_
    exact TL_change_115 C hml hcs hR r9 ((0 : Int32)) S (lv_sub hl [1, 2, 3, 0] rfl) h
set_option maxHeartbeats 4000000 in
set_option maxRecDepth 100000 in
theorem TL_change_218 (C : s_C G p s args m c RL cL_change) (hml : c.maxLocals = 7) (hcs : cells ≤ (rm_L_change).cells ∧ slots ≤ (rm_L_change).slots) {x1 : Int32} {x2 : Int32} {post : Int32 → Sg → Prop} (hR : ∀ (r : Int32) (σ1 : Sg) (H : Heap) (locs : List Loc) (pc : Nat) (ls : Array Slot), decode cL_change pc = .ok (.ireturn, 1) → post r σ1 → s_St G σ1 H0 H locs → W p l e rm_L_change s m args below meth c H locs cells slots Q (F0 m pc ls [.int r])) : ∀ (x3 : Int32) (x4 : Int32), ∀ {σ : Sg} {H : Heap} {locs : List Loc} {ls : Array Slot}, s_St G σ H0 H locs → lv_has ls 7 [(0, .ref (G.2.2 + 0)), (2, .int x2), (3, .int x3), (4, .int x4)] → BL_change_218 x1 x2 post x3 x4 σ → W p l e rm_L_change s m args below meth c H locs cells slots Q (F0 m 218 ls []) := by
  intro x3 x4  σ H locs ls S hl h
  unfold BL_change_218 at h
  refine lv_aload_n C.1 C.2.1 dL_change_218 rfl (lv_at hl 0 rfl) ?_
  refine lv_iload_n C.1 C.2.1 dL_change_219 rfl (lv_at hl 2 rfl) ?_
  refine lv_iload C.1 C.2.1 dL_change_220 (lv_at hl 3 rfl) ?_
  refine lv_iload_n C.1 C.2.1 dL_change_222 rfl (lv_at hl 1 rfl) ?_
  refine lv_iconst (v := (4 : Int32)) C.1 C.2.1 dL_change_223 (by decide) ?_
  refine k_i (r_S (As := [.int x2, .int (4 : Int32)]) (rest := [.int x4, .int x3, .ref (G.2.2 + 0)]) C hml (c_L_low l G x2 ((4 : Int32)) σ _ h) kM_L_low st_L_low ml_L_15 ⟨rfl, rfl⟩ ⟨Nat.le_of_ble_eq_true rfl, Nat.le_of_ble_eq_true rfl⟩ hcs S.v rfl hl.1 rfl (Nat.le_of_ble_eq_true rfl) dL_change_224) S (fun r16 σ15 H locs h S => ?_)
  refine lv_if_ne (tgt := 234) C.1 C.2.1 dL_change_227 (by decide) (fun c17 => ?_) (fun c17 => ?_)
  · replace h := h.1 c17
    refine lv_iconst (v := (1 : Int32)) C.1 C.2.1 dL_change_234 (by decide) ?_
    refine k_i (r_V (As := [.int x3, .int x4, .int (1 : Int32)]) (rest := []) C hml (c_X6_rule l G x3 x4 ((1 : Int32)) σ15 _ h) kM_X6_rule im_X6_rule se_X6_rule ml_L_45 ⟨rfl, rfl⟩ ⟨Nat.le_of_ble_eq_true rfl, Nat.le_of_ble_eq_true rfl⟩ hcs S.v kd_0 (by decide) (T := TX6) (N := 8) rfl rfl hl.1 rfl (Nat.le_of_ble_eq_true rfl) dL_change_235) S (fun r19 σ18 H locs h S => ?_)
    exact hR _ _ _ _ _ _ dL_change_238 h S
  · replace h := h.2 c17
    refine lv_iconst (v := (0 : Int32)) C.1 C.2.1 dL_change_230 (by decide) ?_
    refine lv_goto (tgt := 235) C.1 C.2.1 dL_change_231 (by decide) ?_
    refine k_i (r_V (As := [.int x3, .int x4, .int (0 : Int32)]) (rest := []) C hml (c_X6_rule l G x3 x4 ((0 : Int32)) σ15 _ h) kM_X6_rule im_X6_rule se_X6_rule ml_L_45 ⟨rfl, rfl⟩ ⟨Nat.le_of_ble_eq_true rfl, Nat.le_of_ble_eq_true rfl⟩ hcs S.v kd_0 (by decide) (T := TX6) (N := 8) rfl rfl hl.1 rfl (Nat.le_of_ble_eq_true rfl) dL_change_235) S (fun r21 σ20 H locs h S => ?_)
    exact hR _ _ _ _ _ _ dL_change_238 h S
theorem kM_L_change : s_M yL_change cL_change 7 (some .int) 3 := ⟨co_L_change, in_L, by decide, by decide, by decide +kernel⟩
set_option maxHeartbeats 4000000 in
set_option maxRecDepth 100000 in
theorem c_L_change (l : Launch) (G : s_G) (x1 : Int32) (x2 : Int32) (σ : Sg) (post : Int32 → Sg → Prop) (h : wpL_change x1 x2 σ post) : Met l yL_change (wsU yL_change cL_change 7 (some .int)) rm_L_change (va_Pc [.ref (G.2.2 + 0), .int x1, .int x2] (s_Pre G σ)) (va_Qi post (s_B G) (s_A G.2.2)) 0 0 (s_A G.2.2) := by
  refine Met.ofW (cc := cL_change) (maxL := 7) (ret := (some .int)) (by decide) rfl ?_
  intro p e s m args below meth c s₁ B hml hv
  obtain ⟨rfl, hP, hrok, hK, hN⟩ := hv
  have C : s_C G p s (([.ref (G.2.2 + 0), .int x1, .int x2] : List Value).toArray) m c RL cL_change := ⟨B.exec, B.bytes, findClass_of_methodNamed B.named, fun w hw => atoms_spec (ws := wsU yL_change cL_change 7 (some .int)) B.pre w (List.mem_cons_of_mem _ hw), hK, hN⟩
  have hr := B.returns
  have hlocks := B.notSynchronized
  have S : s_St G σ s.heap s.heap [] := ⟨hP, va_S.rf, hrok⟩
  have hcs : 0 ≤ (rm_L_change).cells ∧ 0 ≤ (rm_L_change).slots := ⟨Nat.le_refl 0, Nat.le_refl 0⟩
  have hR : ∀ (r : Int32) (σ1 : Sg) (H : Heap) (locs : List Loc) (pc : Nat) (ls : Array Slot), decode cL_change pc = .ok (.ireturn, 1) → post r σ1 → s_St G σ1 s.heap H locs → W p l e rm_L_change s m ([.ref (G.2.2 + 0), .int x1, .int x2] : List Value).toArray below meth c H locs 0 0 (MQ below (va_Qi post (s_B G) (s_A G.2.2)) ([.ref (G.2.2 + 0), .int x1, .int x2] : List Value).toArray s 0 0 (s_A G.2.2)) (F0 m pc ls [.int r]) := fun _ _ _ _ _ _ hd hp S => ret_i C hr hlocks hd hp S
  have hl := lv_entry ([.ref (G.2.2 + 0), .int x1, .int x2]) (n := 7) (Nat.le_of_ble_eq_true rfl)
  rw [lg_entry_eq]
  generalize (lg_sl ([.ref (G.2.2 + 0), .int x1, .int x2]) ++ List.replicate (7 - (lg_sl ([.ref (G.2.2 + 0), .int x1, .int x2])).length) Slot.unset).toArray = ls at hl ⊢
  have hl : lv_has ls 7 [(0, .ref (G.2.2 + 0)), (1, .int x1), (2, .int x2)] := hl
  unfold wpL_change at h
  refine lv_iload_n C.1 C.2.1 dL_change_0 rfl (lv_at hl 1 rfl) ?_
  refine lv_iconst (v := (5 : Int32)) C.1 C.2.1 dL_change_1 (by decide) ?_
  refine lv_ishr C.1 C.2.1 dL_change_2 ?_
  refine lv_iconst (v := (4 : Int32)) C.1 C.2.1 dL_change_3 (by decide) ?_
  refine k_i (r_S (As := [.int (x1 >>> ((5 : Int32) &&& 31)), .int (4 : Int32)]) (rest := []) C hml (c_L_low l G ((x1 >>> ((5 : Int32) &&& 31))) ((4 : Int32)) σ _ h) kM_L_low st_L_low ml_L_15 ⟨rfl, rfl⟩ ⟨Nat.le_of_ble_eq_true rfl, Nat.le_of_ble_eq_true rfl⟩ hcs S.v rfl hl.1 rfl (Nat.le_of_ble_eq_true rfl) dL_change_4) S (fun r23 σ22 H locs h S => ?_)
  refine lv_istore_n (lv' := [(3, .int r23), (0, .ref (G.2.2 + 0)), (1, .int x1), (2, .int x2)]) C.1 C.2.1 dL_change_7 rfl hl (by decide) rfl (fun ls hl => ?_)
  refine lv_iload_n C.1 C.2.1 dL_change_8 rfl (lv_at hl 2 rfl) ?_
  refine lv_bipush (v := (8 : Int32)) C.1 C.2.1 dL_change_9 (by decide) ?_
  refine lv_ishr C.1 C.2.1 dL_change_11 ?_
  refine lv_iconst (v := (4 : Int32)) C.1 C.2.1 dL_change_12 (by decide) ?_
  refine k_i (r_S (As := [.int (x1 >>> ((8 : Int32) &&& 31)), .int (4 : Int32)]) (rest := []) C hml (c_L_low l G ((x1 >>> ((8 : Int32) &&& 31))) ((4 : Int32)) σ22 _ h) kM_L_low st_L_low ml_L_15 ⟨rfl, rfl⟩ ⟨Nat.le_of_ble_eq_true rfl, Nat.le_of_ble_eq_true rfl⟩ hcs S.v rfl hl.1 rfl (Nat.le_of_ble_eq_true rfl) dL_change_13) S (fun r25 σ24 H locs h S => ?_)
  refine lv_istore (lv' := [(4, .int r25), (3, .int r23), (0, .ref (G.2.2 + 0)), (1, .int x1), (2, .int x2)]) C.1 C.2.1 dL_change_16 hl (by decide) rfl (fun ls hl => ?_)
  refine lv_iload_n C.1 C.2.1 dL_change_18 rfl (lv_at hl 3 rfl) ?_
  refine lv_bipush (v := (14 : Int32)) C.1 C.2.1 dL_change_19 (by decide) ?_
  refine k_i (r_S (As := [.int x1, .int (14 : Int32)]) (rest := []) C hml (c_L_low l G x1 ((14 : Int32)) σ24 _ h) kM_L_low st_L_low ml_L_15 ⟨rfl, rfl⟩ ⟨Nat.le_of_ble_eq_true rfl, Nat.le_of_ble_eq_true rfl⟩ hcs S.v rfl hl.1 rfl (Nat.le_of_ble_eq_true rfl) dL_change_21) S (fun r27 σ26 H locs h S => ?_)
  rcases (sw_0_10 r27) with c28 | c28 | c28 | c28 | c28 | c28 | c28 | c28 | c28 | c28 | c28 | c28
  · replace h := h.1 c28
    refine lv_tableOut (tgt := 273) C.1 C.2.1 dL_change_24 c28 (by decide) ?_
    refine lv_aload_n C.1 C.2.1 dL_change_273 rfl (lv_at hl 2 rfl) ?_
    refine k_i (r_V (As := []) (rest := []) C hml (c_X6_undo l G σ26 _ h) kM_X6_undo im_X6_undo se_X6_undo ml_L_54 ⟨rfl, rfl⟩ ⟨Nat.le_of_ble_eq_true rfl, Nat.le_of_ble_eq_true rfl⟩ hcs S.v kd_0 (by decide) (T := TX6) (N := 8) rfl rfl hl.1 rfl (Nat.le_of_ble_eq_true rfl) dL_change_274) S (fun r30 σ29 H locs h S => ?_)
    exact hR _ _ _ _ _ _ dL_change_277 h S
  · replace h := h.2.1 c28
    refine lv_tableIn (tgt := 84) (off := 60) C.1 C.2.1 dL_change_24 (by rw [c28]; decide) (by rw [c28]; decide) (by rw [c28]; decide) (by decide) ?_
    exact TL_change_84 C hml hcs hR S (lv_sub hl [2, 3, 4] rfl) h
  · replace h := h.2.2.1 c28
    refine lv_tableIn (tgt := 84) (off := 60) C.1 C.2.1 dL_change_24 (by rw [c28]; decide) (by rw [c28]; decide) (by rw [c28]; decide) (by decide) ?_
    exact TL_change_84 C hml hcs hR S (lv_sub hl [2, 3, 4] rfl) h
  · replace h := h.2.2.2.1 c28
    refine lv_tableIn (tgt := 84) (off := 60) C.1 C.2.1 dL_change_24 (by rw [c28]; decide) (by rw [c28]; decide) (by rw [c28]; decide) (by decide) ?_
    exact TL_change_84 C hml hcs hR S (lv_sub hl [2, 3, 4] rfl) h
  · replace h := h.2.2.2.2.1 c28
    refine lv_tableIn (tgt := 84) (off := 60) C.1 C.2.1 dL_change_24 (by rw [c28]; decide) (by rw [c28]; decide) (by rw [c28]; decide) (by decide) ?_
    exact TL_change_84 C hml hcs hR S (lv_sub hl [2, 3, 4] rfl) h
  · replace h := h.2.2.2.2.2.1 c28
    refine lv_tableIn (tgt := 154) (off := 130) C.1 C.2.1 dL_change_24 (by rw [c28]; decide) (by rw [c28]; decide) (by rw [c28]; decide) (by decide) ?_
    refine lv_iload_n C.1 C.2.1 dL_change_154 rfl (lv_at hl 4 rfl) ?_
    refine lv_iconst (v := (3 : Int32)) C.1 C.2.1 dL_change_155 (by decide) ?_
    refine k_i (r_S (As := [.int x2, .int (3 : Int32)]) (rest := []) C hml (c_L_low l G x2 ((3 : Int32)) σ26 _ h) kM_L_low st_L_low ml_L_15 ⟨rfl, rfl⟩ ⟨Nat.le_of_ble_eq_true rfl, Nat.le_of_ble_eq_true rfl⟩ hcs S.v rfl hl.1 rfl (Nat.le_of_ble_eq_true rfl) dL_change_156) S (fun r32 σ31 H locs h S => ?_)
    refine lv_if_ne (tgt := 170) C.1 C.2.1 dL_change_159 (by decide) (fun c33 => ?_) (fun c33 => ?_)
    · replace h := h.1 c33
      refine lv_bipush (v := (-9 : Int32)) C.1 C.2.1 dL_change_170 (by decide) ?_
      exact hR _ _ _ _ _ _ dL_change_172 h S
    · replace h := h.2 c33
      refine lv_aload_n C.1 C.2.1 dL_change_162 rfl (lv_at hl 2 rfl) ?_
      refine lv_iload_n C.1 C.2.1 dL_change_163 rfl (lv_at hl 1 rfl) ?_
      refine k_i (r_V (As := [.int r23]) (rest := []) C hml (c_X6_remove l G r23 σ31 _ h) kM_X6_remove im_X6_remove se_X6_remove ml_L_33 ⟨rfl, rfl⟩ ⟨Nat.le_of_ble_eq_true rfl, Nat.le_of_ble_eq_true rfl⟩ hcs S.v kd_0 (by decide) (T := TX6) (N := 8) rfl rfl hl.1 rfl (Nat.le_of_ble_eq_true rfl) dL_change_164) S (fun r35 σ34 H locs h S => ?_)
      refine lv_goto (tgt := 172) C.1 C.2.1 dL_change_167 (by decide) ?_
      exact hR _ _ _ _ _ _ dL_change_172 h S
  · replace h := h.2.2.2.2.2.2.1 c28
    refine lv_tableIn (tgt := 173) (off := 149) C.1 C.2.1 dL_change_24 (by rw [c28]; decide) (by rw [c28]; decide) (by rw [c28]; decide) (by decide) ?_
    refine lv_aload_n C.1 C.2.1 dL_change_173 rfl (lv_at hl 2 rfl) ?_
    refine lv_iload_n C.1 C.2.1 dL_change_174 rfl (lv_at hl 1 rfl) ?_
    refine lv_iload_n C.1 C.2.1 dL_change_175 rfl (lv_at hl 4 rfl) ?_
    refine lv_iconst (v := (4 : Int32)) C.1 C.2.1 dL_change_176 (by decide) ?_
    refine k_i (r_S (As := [.int x2, .int (4 : Int32)]) (rest := [.int r23, .ref (G.2.2 + 0)]) C hml (c_L_low l G x2 ((4 : Int32)) σ26 _ h) kM_L_low st_L_low ml_L_15 ⟨rfl, rfl⟩ ⟨Nat.le_of_ble_eq_true rfl, Nat.le_of_ble_eq_true rfl⟩ hcs S.v rfl hl.1 rfl (Nat.le_of_ble_eq_true rfl) dL_change_177) S (fun r37 σ36 H locs h S => ?_)
    refine lv_iload_n C.1 C.2.1 dL_change_180 rfl (lv_at hl 4 rfl) ?_
    refine lv_iconst (v := (2 : Int32)) C.1 C.2.1 dL_change_181 (by decide) ?_
    refine lv_ishr C.1 C.2.1 dL_change_182 ?_
    refine lv_iconst (v := (4 : Int32)) C.1 C.2.1 dL_change_183 (by decide) ?_
    refine k_i (r_S (As := [.int (x2 >>> ((2 : Int32) &&& 31)), .int (4 : Int32)]) (rest := [.int r37, .int r23, .ref (G.2.2 + 0)]) C hml (c_L_low l G ((x2 >>> ((2 : Int32) &&& 31))) ((4 : Int32)) σ36 _ h) kM_L_low st_L_low ml_L_15 ⟨rfl, rfl⟩ ⟨Nat.le_of_ble_eq_true rfl, Nat.le_of_ble_eq_true rfl⟩ hcs S.v rfl hl.1 rfl (Nat.le_of_ble_eq_true rfl) dL_change_184) S (fun r39 σ38 H locs h S => ?_)
    refine k_i (r_V (As := [.int r23, .int r37, .int r39]) (rest := []) C hml (c_X6_set l G r23 r37 r39 σ38 _ h) kM_X6_set im_X6_set se_X6_set ml_L_36 ⟨rfl, rfl⟩ ⟨Nat.le_of_ble_eq_true rfl, Nat.le_of_ble_eq_true rfl⟩ hcs S.v kd_0 (by decide) (T := TX6) (N := 8) rfl rfl hl.1 rfl (Nat.le_of_ble_eq_true rfl) dL_change_187) S (fun r41 σ40 H locs h S => ?_)
    exact hR _ _ _ _ _ _ dL_change_190 h S
  · replace h := h.2.2.2.2.2.2.2.1 c28
    refine lv_tableIn (tgt := 191) (off := 167) C.1 C.2.1 dL_change_24 (by rw [c28]; decide) (by rw [c28]; decide) (by rw [c28]; decide) (by decide) ?_
    refine lv_aload_n C.1 C.2.1 dL_change_191 rfl (lv_at hl 2 rfl) ?_
    refine lv_iload_n C.1 C.2.1 dL_change_192 rfl (lv_at hl 1 rfl) ?_
    refine lv_iload C.1 C.2.1 dL_change_193 (lv_at hl 0 rfl) ?_
    refine k_i (r_V (As := [.int r23, .int r25]) (rest := []) C hml (c_X6_move l G r23 r25 σ26 _ h) kM_X6_move im_X6_move se_X6_move ml_L_39 ⟨rfl, rfl⟩ ⟨Nat.le_of_ble_eq_true rfl, Nat.le_of_ble_eq_true rfl⟩ hcs S.v kd_0 (by decide) (T := TX6) (N := 8) rfl rfl hl.1 rfl (Nat.le_of_ble_eq_true rfl) dL_change_195) S (fun r43 σ42 H locs h S => ?_)
    exact hR _ _ _ _ _ _ dL_change_198 h S
  · replace h := h.2.2.2.2.2.2.2.2.1 c28
    refine lv_tableIn (tgt := 199) (off := 175) C.1 C.2.1 dL_change_24 (by rw [c28]; decide) (by rw [c28]; decide) (by rw [c28]; decide) (by decide) ?_
    refine lv_aload_n C.1 C.2.1 dL_change_199 rfl (lv_at hl 2 rfl) ?_
    refine lv_iload_n C.1 C.2.1 dL_change_200 rfl (lv_at hl 4 rfl) ?_
    refine lv_iconst (v := (3 : Int32)) C.1 C.2.1 dL_change_201 (by decide) ?_
    refine k_i (r_S (As := [.int x2, .int (3 : Int32)]) (rest := [.ref (G.2.2 + 0)]) C hml (c_L_low l G x2 ((3 : Int32)) σ26 _ h) kM_L_low st_L_low ml_L_15 ⟨rfl, rfl⟩ ⟨Nat.le_of_ble_eq_true rfl, Nat.le_of_ble_eq_true rfl⟩ hcs S.v rfl hl.1 rfl (Nat.le_of_ble_eq_true rfl) dL_change_202) S (fun r45 σ44 H locs h S => ?_)
    refine lv_if_ne (tgt := 212) C.1 C.2.1 dL_change_205 (by decide) (fun c46 => ?_) (fun c46 => ?_)
    · replace h := h.1 c46
      refine lv_bipush (v := (44 : Int32)) C.1 C.2.1 dL_change_212 (by decide) ?_
      refine k_i (r_V (As := [.int (44 : Int32)]) (rest := []) C hml (c_X6_setSeparator l G ((44 : Int32)) σ44 _ h) kM_X6_setSeparator im_X6_setSeparator se_X6_setSeparator ml_L_42 ⟨rfl, rfl⟩ ⟨Nat.le_of_ble_eq_true rfl, Nat.le_of_ble_eq_true rfl⟩ hcs S.v kd_0 (by decide) (T := TX6) (N := 8) rfl rfl hl.1 rfl (Nat.le_of_ble_eq_true rfl) dL_change_214) S (fun r48 σ47 H locs h S => ?_)
      exact hR _ _ _ _ _ _ dL_change_217 h S
    · replace h := h.2 c46
      refine lv_iconst (v := (0 : Int32)) C.1 C.2.1 dL_change_208 (by decide) ?_
      refine lv_goto (tgt := 214) C.1 C.2.1 dL_change_209 (by decide) ?_
      refine k_i (r_V (As := [.int (0 : Int32)]) (rest := []) C hml (c_X6_setSeparator l G ((0 : Int32)) σ44 _ h) kM_X6_setSeparator im_X6_setSeparator se_X6_setSeparator ml_L_42 ⟨rfl, rfl⟩ ⟨Nat.le_of_ble_eq_true rfl, Nat.le_of_ble_eq_true rfl⟩ hcs S.v kd_0 (by decide) (T := TX6) (N := 8) rfl rfl hl.1 rfl (Nat.le_of_ble_eq_true rfl) dL_change_214) S (fun r50 σ49 H locs h S => ?_)
      exact hR _ _ _ _ _ _ dL_change_217 h S
  · replace h := h.2.2.2.2.2.2.2.2.2.1 c28
    refine lv_tableIn (tgt := 218) (off := 194) C.1 C.2.1 dL_change_24 (by rw [c28]; decide) (by rw [c28]; decide) (by rw [c28]; decide) (by decide) ?_
    exact TL_change_218 C hml hcs hR r23 r25 S (lv_sub hl [2, 4, 1, 0] rfl) h
  · replace h := h.2.2.2.2.2.2.2.2.2.2.1 c28
    refine lv_tableIn (tgt := 218) (off := 194) C.1 C.2.1 dL_change_24 (by rw [c28]; decide) (by rw [c28]; decide) (by rw [c28]; decide) (by decide) ?_
    exact TL_change_218 C hml hcs hR r23 r25 S (lv_sub hl [2, 4, 1, 0] rfl) h
  · replace h := h.2.2.2.2.2.2.2.2.2.2.2 c28
    refine lv_tableIn (tgt := 239) (off := 215) C.1 C.2.1 dL_change_24 (by rw [c28]; decide) (by rw [c28]; decide) (by rw [c28]; decide) (by decide) ?_
    refine lv_iload_n C.1 C.2.1 dL_change_239 rfl (lv_at hl 4 rfl) ?_
    refine lv_iconst (v := (2 : Int32)) C.1 C.2.1 dL_change_240 (by decide) ?_
    refine k_i (r_S (As := [.int x2, .int (2 : Int32)]) (rest := []) C hml (c_L_low l G x2 ((2 : Int32)) σ26 _ h) kM_L_low st_L_low ml_L_15 ⟨rfl, rfl⟩ ⟨Nat.le_of_ble_eq_true rfl, Nat.le_of_ble_eq_true rfl⟩ hcs S.v rfl hl.1 rfl (Nat.le_of_ble_eq_true rfl) dL_change_241) S (fun r52 σ51 H locs h S => ?_)
    refine lv_if_ne (tgt := 261) C.1 C.2.1 dL_change_244 (by decide) (fun c53 => ?_) (fun c53 => ?_)
    · replace h := h.1 c53
      refine lv_aload_n C.1 C.2.1 dL_change_261 rfl (lv_at hl 2 rfl) ?_
      refine lv_iload_n C.1 C.2.1 dL_change_262 rfl (lv_at hl 4 rfl) ?_
      refine lv_iconst (v := (1 : Int32)) C.1 C.2.1 dL_change_263 (by decide) ?_
      refine lv_ishr C.1 C.2.1 dL_change_264 ?_
      refine lv_iconst (v := (2 : Int32)) C.1 C.2.1 dL_change_265 (by decide) ?_
      refine k_i (r_S (As := [.int (x2 >>> ((1 : Int32) &&& 31)), .int (2 : Int32)]) (rest := [.ref (G.2.2 + 0)]) C hml (c_L_low l G ((x2 >>> ((1 : Int32) &&& 31))) ((2 : Int32)) σ51 _ h) kM_L_low st_L_low ml_L_15 ⟨rfl, rfl⟩ ⟨Nat.le_of_ble_eq_true rfl, Nat.le_of_ble_eq_true rfl⟩ hcs S.v rfl hl.1 rfl (Nat.le_of_ble_eq_true rfl) dL_change_266) S (fun r55 σ54 H locs h S => ?_)
      refine k_i (r_V (As := [.int r55]) (rest := []) C hml (c_X6_back l G r55 σ54 _ h) kM_X6_back im_X6_back se_X6_back ml_L_51 ⟨rfl, rfl⟩ ⟨Nat.le_of_ble_eq_true rfl, Nat.le_of_ble_eq_true rfl⟩ hcs S.v kd_0 (by decide) (T := TX6) (N := 8) rfl rfl hl.1 rfl (Nat.le_of_ble_eq_true rfl) dL_change_269) S (fun r57 σ56 H locs h S => ?_)
      exact hR _ _ _ _ _ _ dL_change_272 h S
    · replace h := h.2 c53
      refine lv_aload_n C.1 C.2.1 dL_change_247 rfl (lv_at hl 2 rfl) ?_
      refine lv_iload_n C.1 C.2.1 dL_change_248 rfl (lv_at hl 4 rfl) ?_
      refine lv_iconst (v := (1 : Int32)) C.1 C.2.1 dL_change_249 (by decide) ?_
      refine lv_ishr C.1 C.2.1 dL_change_250 ?_
      refine lv_iconst (v := (2 : Int32)) C.1 C.2.1 dL_change_251 (by decide) ?_
      refine k_i (r_S (As := [.int (x2 >>> ((1 : Int32) &&& 31)), .int (2 : Int32)]) (rest := [.ref (G.2.2 + 0)]) C hml (c_L_low l G ((x2 >>> ((1 : Int32) &&& 31))) ((2 : Int32)) σ51 _ h) kM_L_low st_L_low ml_L_15 ⟨rfl, rfl⟩ ⟨Nat.le_of_ble_eq_true rfl, Nat.le_of_ble_eq_true rfl⟩ hcs S.v rfl hl.1 rfl (Nat.le_of_ble_eq_true rfl) dL_change_252) S (fun r59 σ58 H locs h S => ?_)
      refine k_i (r_V (As := [.int r59]) (rest := []) C hml (c_X6_keep l G r59 σ58 _ h) kM_X6_keep im_X6_keep se_X6_keep ml_L_48 ⟨rfl, rfl⟩ ⟨Nat.le_of_ble_eq_true rfl, Nat.le_of_ble_eq_true rfl⟩ hcs S.v kd_0 (by decide) (T := TX6) (N := 8) rfl rfl hl.1 rfl (Nat.le_of_ble_eq_true rfl) dL_change_255) S (fun r61 σ60 H locs h S => ?_)
      refine lv_goto (tgt := 272) C.1 C.2.1 dL_change_258 (by decide) ?_
      exact hR _ _ _ _ _ _ dL_change_272 h S
/-! L_isFollowed -/
abbrev rm_L_isFollowed : Room := { frames := 7, cells := 0, slots := 0, locals := 164 }
def BL_isFollowed_21  (post : Int32 → Sg → Prop) (x1 : Int32) (σ : Sg) : Prop := (((¬ x1 = (-9 : Int32)) → post (1 : Int32) σ) ∧ ((x1 = (-9 : Int32)) → wpX6_readings σ (fun r3 σ2 => (((¬ r3 = 0) → post (0 : Int32) σ2) ∧ ((r3 = 0) → post (1 : Int32) σ2)))))
def wpL_isFollowed  (σ : Sg) (post : Int32 → Sg → Prop) : Prop := wpX6_next σ (fun r6 σ5 => (((r6 = (-9 : Int32)) → BL_isFollowed_21 post r6 σ5) ∧ ((¬ r6 = (-9 : Int32)) → wpX6_told ((4 : Int32)) σ5 (fun r9 σ8 => (((r9 ≤ (50 : Int32)) → wpX6_told ((4 : Int32)) σ8 (fun r12 σ11 => wpX6_readings σ11 (fun r14 σ13 => (((0 < r14) → post (1 : Int32) σ13) ∧ ((¬ 0 < r14) → wpX6_fault σ13 (fun r17 σ16 => (((¬ r17 = r12) → post (0 : Int32) σ16) ∧ ((r17 = r12) → (((¬ (r6 >>> ((6 : Int32) &&& 31)) = 0) → post (0 : Int32) σ16) ∧ (((r6 >>> ((6 : Int32) &&& 31)) = 0) → post (1 : Int32) σ16)))))))))) ∧ ((¬ r9 ≤ (50 : Int32)) → BL_isFollowed_21 post r6 σ8))))))
set_option maxHeartbeats 4000000 in
set_option maxRecDepth 100000 in
theorem TL_isFollowed_21 (C : s_C G p s args m c RL cL_isFollowed) (hml : c.maxLocals = 3) (hcs : cells ≤ (rm_L_isFollowed).cells ∧ slots ≤ (rm_L_isFollowed).slots)  {post : Int32 → Sg → Prop} (hR : ∀ (r : Int32) (σ1 : Sg) (H : Heap) (locs : List Loc) (pc : Nat) (ls : Array Slot), decode cL_isFollowed pc = .ok (.ireturn, 1) → narrow .boolean (.int r) = .int r → post r σ1 → s_St G σ1 H0 H locs → W p l e rm_L_isFollowed s m args below meth c H locs cells slots Q (F0 m pc ls [.int r])) : ∀ (x1 : Int32), ∀ {σ : Sg} {H : Heap} {locs : List Loc} {ls : Array Slot}, s_St G σ H0 H locs → lv_has ls 3 [(0, .ref (G.2.2 + 0)), (1, .int x1)] → BL_isFollowed_21 post x1 σ → W p l e rm_L_isFollowed s m args below meth c H locs cells slots Q (F0 m 21 ls []) := by
  intro x1  σ H locs ls S hl h
  unfold BL_isFollowed_21 at h
  refine lv_iload_n C.1 C.2.1 dL_isFollowed_21 rfl (lv_at hl 1 rfl) ?_
  refine lv_bipush (v := (-9 : Int32)) C.1 C.2.1 dL_isFollowed_22 (by decide) ?_
  refine lv_icmp_ne (tgt := 34) C.1 C.2.1 dL_isFollowed_24 (by decide) (fun c1 => ?_) (fun c1 => ?_)
  · replace h := h.1 c1
    refine lv_iconst (v := (1 : Int32)) C.1 C.2.1 dL_isFollowed_34 (by decide) ?_
    refine lv_goto (tgt := 39) C.1 C.2.1 dL_isFollowed_35 (by decide) ?_
    exact hR _ _ _ _ _ _ dL_isFollowed_39 rfl h S
  · replace h := h.2 c1
    refine lv_aload_n C.1 C.2.1 dL_isFollowed_27 rfl (lv_at hl 0 rfl) ?_
    refine k_i (r_V (As := []) (rest := []) C hml (c_X6_readings l G σ _ h) kM_X6_readings im_X6_readings se_X6_readings ml_L_63 ⟨rfl, rfl⟩ ⟨Nat.le_of_ble_eq_true rfl, Nat.le_of_ble_eq_true rfl⟩ hcs S.v kd_0 (by decide) (T := TX6) (N := 8) rfl rfl hl.1 rfl (Nat.le_of_ble_eq_true rfl) dL_isFollowed_28) S (fun r3 σ2 H locs h S => ?_)
    refine lv_if_ne (tgt := 38) C.1 C.2.1 dL_isFollowed_31 (by decide) (fun c4 => ?_) (fun c4 => ?_)
    · replace h := h.1 c4
      refine lv_iconst (v := (0 : Int32)) C.1 C.2.1 dL_isFollowed_38 (by decide) ?_
      exact hR _ _ _ _ _ _ dL_isFollowed_39 rfl h S
    · replace h := h.2 c4
      refine lv_iconst (v := (1 : Int32)) C.1 C.2.1 dL_isFollowed_34 (by decide) ?_
      refine lv_goto (tgt := 39) C.1 C.2.1 dL_isFollowed_35 (by decide) ?_
      exact hR _ _ _ _ _ _ dL_isFollowed_39 rfl h S
theorem kM_L_isFollowed : s_M yL_isFollowed cL_isFollowed 3 (some .boolean) 1 := ⟨co_L_isFollowed, in_L, by decide, by decide, by decide +kernel⟩
set_option maxHeartbeats 4000000 in
set_option maxRecDepth 100000 in
theorem c_L_isFollowed (l : Launch) (G : s_G)  (σ : Sg) (post : Int32 → Sg → Prop) (h : wpL_isFollowed σ post) : Met l yL_isFollowed (wsU yL_isFollowed cL_isFollowed 3 (some .boolean)) rm_L_isFollowed (va_Pc [.ref (G.2.2 + 0)] (s_Pre G σ)) (va_Qi post (s_B G) (s_A G.2.2)) 0 0 (s_A G.2.2) := by
  refine Met.ofW (cc := cL_isFollowed) (maxL := 3) (ret := (some .boolean)) (by decide) rfl ?_
  intro p e s m args below meth c s₁ B hml hv
  obtain ⟨rfl, hP, hrok, hK, hN⟩ := hv
  have C : s_C G p s (([.ref (G.2.2 + 0)] : List Value).toArray) m c RL cL_isFollowed := ⟨B.exec, B.bytes, findClass_of_methodNamed B.named, fun w hw => atoms_spec (ws := wsU yL_isFollowed cL_isFollowed 3 (some .boolean)) B.pre w (List.mem_cons_of_mem _ hw), hK, hN⟩
  have hr := B.returns
  have hlocks := B.notSynchronized
  have S : s_St G σ s.heap s.heap [] := ⟨hP, va_S.rf, hrok⟩
  have hcs : 0 ≤ (rm_L_isFollowed).cells ∧ 0 ≤ (rm_L_isFollowed).slots := ⟨Nat.le_refl 0, Nat.le_refl 0⟩
  have hR : ∀ (r : Int32) (σ1 : Sg) (H : Heap) (locs : List Loc) (pc : Nat) (ls : Array Slot), decode cL_isFollowed pc = .ok (.ireturn, 1) → narrow .boolean (.int r) = .int r → post r σ1 → s_St G σ1 s.heap H locs → W p l e rm_L_isFollowed s m ([.ref (G.2.2 + 0)] : List Value).toArray below meth c H locs 0 0 (MQ below (va_Qi post (s_B G) (s_A G.2.2)) ([.ref (G.2.2 + 0)] : List Value).toArray s 0 0 (s_A G.2.2)) (F0 m pc ls [.int r]) := fun _ _ _ _ _ _ hd hn hp S => ret_z C hr hlocks hd hn hp S
  have hl := lv_entry ([.ref (G.2.2 + 0)]) (n := 3) (Nat.le_of_ble_eq_true rfl)
  rw [lg_entry_eq]
  generalize (lg_sl ([.ref (G.2.2 + 0)]) ++ List.replicate (3 - (lg_sl ([.ref (G.2.2 + 0)])).length) Slot.unset).toArray = ls at hl ⊢
  have hl : lv_has ls 3 [(0, .ref (G.2.2 + 0))] := hl
  unfold wpL_isFollowed at h
  refine lv_aload_n C.1 C.2.1 dL_isFollowed_0 rfl (lv_at hl 0 rfl) ?_
  refine k_i (r_V (As := []) (rest := []) C hml (c_X6_next l G σ _ h) kM_X6_next im_X6_next se_X6_next ml_L_92 ⟨rfl, rfl⟩ ⟨Nat.le_of_ble_eq_true rfl, Nat.le_of_ble_eq_true rfl⟩ hcs S.v kd_0 (by decide) (T := TX6) (N := 8) rfl rfl hl.1 rfl (Nat.le_of_ble_eq_true rfl) dL_isFollowed_1) S (fun r6 σ5 H locs h S => ?_)
  refine lv_istore_n (lv' := [(1, .int r6), (0, .ref (G.2.2 + 0))]) C.1 C.2.1 dL_isFollowed_4 rfl hl (by decide) rfl (fun ls hl => ?_)
  refine lv_iload_n C.1 C.2.1 dL_isFollowed_5 rfl (lv_at hl 0 rfl) ?_
  refine lv_bipush (v := (-9 : Int32)) C.1 C.2.1 dL_isFollowed_6 (by decide) ?_
  refine lv_icmp_eq (tgt := 21) C.1 C.2.1 dL_isFollowed_8 (by decide) (fun c7 => ?_) (fun c7 => ?_)
  · replace h := h.1 c7
    exact TL_isFollowed_21 C hml hcs hR r6 S (lv_sub hl [1, 0] rfl) h
  · replace h := h.2 c7
    refine lv_aload_n C.1 C.2.1 dL_isFollowed_11 rfl (lv_at hl 1 rfl) ?_
    refine lv_iconst (v := (4 : Int32)) C.1 C.2.1 dL_isFollowed_12 (by decide) ?_
    refine k_i (r_V (As := [.int (4 : Int32)]) (rest := []) C hml (c_X6_told l G ((4 : Int32)) σ5 _ h) kM_X6_told im_X6_told se_X6_told ml_L_57 ⟨rfl, rfl⟩ ⟨Nat.le_of_ble_eq_true rfl, Nat.le_of_ble_eq_true rfl⟩ hcs S.v kd_0 (by decide) (T := TX6) (N := 8) rfl rfl hl.1 rfl (Nat.le_of_ble_eq_true rfl) dL_isFollowed_13) S (fun r9 σ8 H locs h S => ?_)
    refine lv_bipush (v := (50 : Int32)) C.1 C.2.1 dL_isFollowed_16 (by decide) ?_
    refine lv_icmp_le (tgt := 40) C.1 C.2.1 dL_isFollowed_18 (by decide) (fun c10 => ?_) (fun c10 => ?_)
    · replace h := h.1 c10
      refine lv_aload_n C.1 C.2.1 dL_isFollowed_40 rfl (lv_at hl 1 rfl) ?_
      refine lv_iconst (v := (4 : Int32)) C.1 C.2.1 dL_isFollowed_41 (by decide) ?_
      refine k_i (r_V (As := [.int (4 : Int32)]) (rest := []) C hml (c_X6_told l G ((4 : Int32)) σ8 _ h) kM_X6_told im_X6_told se_X6_told ml_L_57 ⟨rfl, rfl⟩ ⟨Nat.le_of_ble_eq_true rfl, Nat.le_of_ble_eq_true rfl⟩ hcs S.v kd_0 (by decide) (T := TX6) (N := 8) rfl rfl hl.1 rfl (Nat.le_of_ble_eq_true rfl) dL_isFollowed_42) S (fun r12 σ11 H locs h S => ?_)
      refine lv_istore_n (lv' := [(2, .int r12), (1, .int r6), (0, .ref (G.2.2 + 0))]) C.1 C.2.1 dL_isFollowed_45 rfl hl (by decide) rfl (fun ls hl => ?_)
      refine lv_aload_n C.1 C.2.1 dL_isFollowed_46 rfl (lv_at hl 2 rfl) ?_
      refine k_i (r_V (As := []) (rest := []) C hml (c_X6_readings l G σ11 _ h) kM_X6_readings im_X6_readings se_X6_readings ml_L_63 ⟨rfl, rfl⟩ ⟨Nat.le_of_ble_eq_true rfl, Nat.le_of_ble_eq_true rfl⟩ hcs S.v kd_0 (by decide) (T := TX6) (N := 8) rfl rfl hl.1 rfl (Nat.le_of_ble_eq_true rfl) dL_isFollowed_47) S (fun r14 σ13 H locs h S => ?_)
      refine lv_if_gt (tgt := 68) C.1 C.2.1 dL_isFollowed_50 (by decide) (fun c15 => ?_) (fun c15 => ?_)
      · replace h := h.1 c15
        refine lv_iconst (v := (1 : Int32)) C.1 C.2.1 dL_isFollowed_68 (by decide) ?_
        refine lv_goto (tgt := 73) C.1 C.2.1 dL_isFollowed_69 (by decide) ?_
        exact hR _ _ _ _ _ _ dL_isFollowed_73 rfl h S
      · replace h := h.2 c15
        refine lv_aload_n C.1 C.2.1 dL_isFollowed_53 rfl (lv_at hl 2 rfl) ?_
        refine k_i (r_V (As := []) (rest := []) C hml (c_X6_fault l G σ13 _ h) kM_X6_fault im_X6_fault se_X6_fault ml_L_66 ⟨rfl, rfl⟩ ⟨Nat.le_of_ble_eq_true rfl, Nat.le_of_ble_eq_true rfl⟩ hcs S.v kd_0 (by decide) (T := TX6) (N := 8) rfl rfl hl.1 rfl (Nat.le_of_ble_eq_true rfl) dL_isFollowed_54) S (fun r17 σ16 H locs h S => ?_)
        refine lv_iload_n C.1 C.2.1 dL_isFollowed_57 rfl (lv_at hl 0 rfl) ?_
        refine lv_icmp_ne (tgt := 72) C.1 C.2.1 dL_isFollowed_58 (by decide) (fun c18 => ?_) (fun c18 => ?_)
        · replace h := h.1 c18
          refine lv_iconst (v := (0 : Int32)) C.1 C.2.1 dL_isFollowed_72 (by decide) ?_
          exact hR _ _ _ _ _ _ dL_isFollowed_73 rfl h S
        · replace h := h.2 c18
          refine lv_iload_n C.1 C.2.1 dL_isFollowed_61 rfl (lv_at hl 1 rfl) ?_
          refine lv_bipush (v := (6 : Int32)) C.1 C.2.1 dL_isFollowed_62 (by decide) ?_
          refine lv_ishr C.1 C.2.1 dL_isFollowed_64 ?_
          refine lv_if_ne (tgt := 72) C.1 C.2.1 dL_isFollowed_65 (by decide) (fun c19 => ?_) (fun c19 => ?_)
          · replace h := h.1 c19
            refine lv_iconst (v := (0 : Int32)) C.1 C.2.1 dL_isFollowed_72 (by decide) ?_
            exact hR _ _ _ _ _ _ dL_isFollowed_73 rfl h S
          · replace h := h.2 c19
            refine lv_iconst (v := (1 : Int32)) C.1 C.2.1 dL_isFollowed_68 (by decide) ?_
            refine lv_goto (tgt := 73) C.1 C.2.1 dL_isFollowed_69 (by decide) ?_
            exact hR _ _ _ _ _ _ dL_isFollowed_73 rfl h S
    · replace h := h.2 c10
      exact TL_isFollowed_21 C hml hcs hR r6 S (lv_sub hl [1, 0] rfl) h
/-! X0_appendNumber -/
abbrev rm_X0_appendNumber : Room := { frames := 1, cells := 0, slots := 0, locals := 21 }
def BX0_appendNumber_39 (k0 : Nat) (x1 : Int32) (post : Sg → Prop)  (σ : Sg) : Prop := wpX0_append k0 (((48 : Int32) + (x1 - x1 / (10 : Int32) * (10 : Int32)))) σ (fun r2 σ1 => post σ1)
def BX0_appendNumber_18 (k0 : Nat) (x1 : Int32) (post : Sg → Prop)  (σ : Sg) : Prop := (((x1 < (10 : Int32)) → BX0_appendNumber_39 k0 x1 post σ) ∧ ((¬ x1 < (10 : Int32)) → wpX0_append k0 (((48 : Int32) + ((x1 / (10 : Int32)) - (x1 / (10 : Int32)) / (10 : Int32) * (10 : Int32)))) σ (fun r5 σ4 => BX0_appendNumber_39 k0 x1 post σ4)))
def wpX0_appendNumber (k0 : Nat) (x1 : Int32) (σ : Sg) (post : Sg → Prop) : Prop := (((x1 < (100 : Int32)) → BX0_appendNumber_18 k0 x1 post σ) ∧ ((¬ x1 < (100 : Int32)) → wpX0_append k0 (((48 : Int32) + (x1 / (100 : Int32)))) σ (fun r8 σ7 => BX0_appendNumber_18 k0 x1 post σ7)))
set_option maxHeartbeats 4000000 in
set_option maxRecDepth 100000 in
theorem TX0_appendNumber_39 (C : s_C G p s args m c RX0 cX0_appendNumber) (hml : c.maxLocals = 2) (hcs : cells ≤ (rm_X0_appendNumber).cells ∧ slots ≤ (rm_X0_appendNumber).slots) {k0 : Nat} {x1 : Int32} (hk0 : s_kd k0 = 0) {post : Sg → Prop} (hR : ∀ (σ1 : Sg) (H : Heap) (locs : List Loc) (pc : Nat) (ls : Array Slot), decode cX0_appendNumber pc = .ok (.return_, 1) → post σ1 → s_St G σ1 H0 H locs → W p l e rm_X0_appendNumber s m args below meth c H locs cells slots Q (F0 m pc ls [])) : ∀ {σ : Sg} {H : Heap} {locs : List Loc} {ls : Array Slot}, s_St G σ H0 H locs → lv_has ls 2 [(0, .ref (G.2.2 + k0)), (1, .int x1)] → BX0_appendNumber_39 k0 x1 post σ → W p l e rm_X0_appendNumber s m args below meth c H locs cells slots Q (F0 m 39 ls []) := by
  intro   σ H locs ls S hl h
  unfold BX0_appendNumber_39 at h
  refine lv_aload_n C.1 C.2.1 dX0_appendNumber_39 rfl (lv_at hl 0 rfl) ?_
  refine lv_bipush (v := (48 : Int32)) C.1 C.2.1 dX0_appendNumber_40 (by decide) ?_
  refine lv_iload_n C.1 C.2.1 dX0_appendNumber_42 rfl (lv_at hl 1 rfl) ?_
  refine lv_bipush (v := (10 : Int32)) C.1 C.2.1 dX0_appendNumber_43 (by decide) ?_
  refine lv_irem C.1 C.2.1 dX0_appendNumber_45 (by decide) ?_
  refine lv_iadd C.1 C.2.1 dX0_appendNumber_46 ?_
  refine k_i (r_V (As := [.int ((48 : Int32) + (x1 - x1 / (10 : Int32) * (10 : Int32)))]) (rest := []) C hml (c_X0_append l G k0 (((48 : Int32) + (x1 - x1 / (10 : Int32) * (10 : Int32)))) σ _ hk0 h) kM_X0_append im_X0_append se_X0_append ml_X0_52 ⟨rfl, rfl⟩ ⟨Nat.le_of_ble_eq_true rfl, Nat.le_of_ble_eq_true rfl⟩ hcs S.v hk0 (by decide) (T := TX0) (N := 2) rfl rfl hl.1 rfl (Nat.le_of_ble_eq_true rfl) dX0_appendNumber_47) S (fun r2 σ1 H locs h S => ?_)
  refine lv_pop C.1 C.2.1 dX0_appendNumber_50 rfl ?_
  exact hR _ _ _ _ _ dX0_appendNumber_51 h S
set_option maxHeartbeats 4000000 in
set_option maxRecDepth 100000 in
theorem TX0_appendNumber_18 (C : s_C G p s args m c RX0 cX0_appendNumber) (hml : c.maxLocals = 2) (hcs : cells ≤ (rm_X0_appendNumber).cells ∧ slots ≤ (rm_X0_appendNumber).slots) {k0 : Nat} {x1 : Int32} (hk0 : s_kd k0 = 0) {post : Sg → Prop} (hR : ∀ (σ1 : Sg) (H : Heap) (locs : List Loc) (pc : Nat) (ls : Array Slot), decode cX0_appendNumber pc = .ok (.return_, 1) → post σ1 → s_St G σ1 H0 H locs → W p l e rm_X0_appendNumber s m args below meth c H locs cells slots Q (F0 m pc ls [])) : ∀ {σ : Sg} {H : Heap} {locs : List Loc} {ls : Array Slot}, s_St G σ H0 H locs → lv_has ls 2 [(0, .ref (G.2.2 + k0)), (1, .int x1)] → BX0_appendNumber_18 k0 x1 post σ → W p l e rm_X0_appendNumber s m args below meth c H locs cells slots Q (F0 m 18 ls []) := by
  intro   σ H locs ls S hl h
  unfold BX0_appendNumber_18 at h
  refine lv_iload_n C.1 C.2.1 dX0_appendNumber_18 rfl (lv_at hl 1 rfl) ?_
  refine lv_bipush (v := (10 : Int32)) C.1 C.2.1 dX0_appendNumber_19 (by decide) ?_
  refine lv_icmp_lt (tgt := 39) C.1 C.2.1 dX0_appendNumber_21 (by decide) (fun c3 => ?_) (fun c3 => ?_)
  · replace h := h.1 c3
    exact TX0_appendNumber_39 C hml hcs hk0 hR S (lv_sub hl [0, 1] rfl) h
  · replace h := h.2 c3
    refine lv_aload_n C.1 C.2.1 dX0_appendNumber_24 rfl (lv_at hl 0 rfl) ?_
    refine lv_bipush (v := (48 : Int32)) C.1 C.2.1 dX0_appendNumber_25 (by decide) ?_
    refine lv_iload_n C.1 C.2.1 dX0_appendNumber_27 rfl (lv_at hl 1 rfl) ?_
    refine lv_bipush (v := (10 : Int32)) C.1 C.2.1 dX0_appendNumber_28 (by decide) ?_
    refine lv_idiv C.1 C.2.1 dX0_appendNumber_30 (by decide) ?_
    refine lv_bipush (v := (10 : Int32)) C.1 C.2.1 dX0_appendNumber_31 (by decide) ?_
    refine lv_irem C.1 C.2.1 dX0_appendNumber_33 (by decide) ?_
    refine lv_iadd C.1 C.2.1 dX0_appendNumber_34 ?_
    refine k_i (r_V (As := [.int ((48 : Int32) + ((x1 / (10 : Int32)) - (x1 / (10 : Int32)) / (10 : Int32) * (10 : Int32)))]) (rest := []) C hml (c_X0_append l G k0 (((48 : Int32) + ((x1 / (10 : Int32)) - (x1 / (10 : Int32)) / (10 : Int32) * (10 : Int32)))) σ _ hk0 h) kM_X0_append im_X0_append se_X0_append ml_X0_52 ⟨rfl, rfl⟩ ⟨Nat.le_of_ble_eq_true rfl, Nat.le_of_ble_eq_true rfl⟩ hcs S.v hk0 (by decide) (T := TX0) (N := 2) rfl rfl hl.1 rfl (Nat.le_of_ble_eq_true rfl) dX0_appendNumber_35) S (fun r5 σ4 H locs h S => ?_)
    refine lv_pop C.1 C.2.1 dX0_appendNumber_38 rfl ?_
    exact TX0_appendNumber_39 C hml hcs hk0 hR S (lv_sub hl [0, 1] rfl) h
theorem kM_X0_appendNumber : s_M yX0_appendNumber cX0_appendNumber 2 none 1 := ⟨co_X0_appendNumber, in_X0, by decide, by decide, by decide +kernel⟩
set_option maxHeartbeats 4000000 in
set_option maxRecDepth 100000 in
theorem c_X0_appendNumber (l : Launch) (G : s_G) (k0 : Nat) (x1 : Int32) (σ : Sg) (post : Sg → Prop) (hk0 : s_kd k0 = 0) (h : wpX0_appendNumber k0 x1 σ post) : Met l yX0_appendNumber (wsU yX0_appendNumber cX0_appendNumber 2 none) rm_X0_appendNumber (va_Pc [.ref (G.2.2 + k0), .int x1] (s_Pre G σ)) (va_Qv post (s_B G) (s_A G.2.2)) 0 0 (s_A G.2.2) := by
  refine Met.ofW (cc := cX0_appendNumber) (maxL := 2) (ret := none) (by decide) rfl ?_
  intro p e s m args below meth c s₁ B hml hv
  obtain ⟨rfl, hP, hrok, hK, hN⟩ := hv
  have C : s_C G p s (([.ref (G.2.2 + k0), .int x1] : List Value).toArray) m c RX0 cX0_appendNumber := ⟨B.exec, B.bytes, findClass_of_methodNamed B.named, fun w hw => atoms_spec (ws := wsU yX0_appendNumber cX0_appendNumber 2 none) B.pre w (List.mem_cons_of_mem _ hw), hK, hN⟩
  have hr := B.returns
  have hlocks := B.notSynchronized
  have S : s_St G σ s.heap s.heap [] := ⟨hP, va_S.rf, hrok⟩
  have hcs : 0 ≤ (rm_X0_appendNumber).cells ∧ 0 ≤ (rm_X0_appendNumber).slots := ⟨Nat.le_refl 0, Nat.le_refl 0⟩
  have hR : ∀ (σ1 : Sg) (H : Heap) (locs : List Loc) (pc : Nat) (ls : Array Slot), decode cX0_appendNumber pc = .ok (.return_, 1) → post σ1 → s_St G σ1 s.heap H locs → W p l e rm_X0_appendNumber s m ([.ref (G.2.2 + k0), .int x1] : List Value).toArray below meth c H locs 0 0 (MQ below (va_Qv post (s_B G) (s_A G.2.2)) ([.ref (G.2.2 + k0), .int x1] : List Value).toArray s 0 0 (s_A G.2.2)) (F0 m pc ls []) := fun _ _ _ _ _ hd hp S => ret_v C hr hlocks hd hp S
  have hl := lv_entry ([.ref (G.2.2 + k0), .int x1]) (n := 2) (Nat.le_of_ble_eq_true rfl)
  rw [lg_entry_eq]
  generalize (lg_sl ([.ref (G.2.2 + k0), .int x1]) ++ List.replicate (2 - (lg_sl ([.ref (G.2.2 + k0), .int x1])).length) Slot.unset).toArray = ls at hl ⊢
  have hl : lv_has ls 2 [(0, .ref (G.2.2 + k0)), (1, .int x1)] := hl
  unfold wpX0_appendNumber at h
  refine lv_iload_n C.1 C.2.1 dX0_appendNumber_0 rfl (lv_at hl 1 rfl) ?_
  refine lv_bipush (v := (100 : Int32)) C.1 C.2.1 dX0_appendNumber_1 (by decide) ?_
  refine lv_icmp_lt (tgt := 18) C.1 C.2.1 dX0_appendNumber_3 (by decide) (fun c6 => ?_) (fun c6 => ?_)
  · replace h := h.1 c6
    exact TX0_appendNumber_18 C hml hcs hk0 hR S (lv_sub hl [0, 1] rfl) h
  · replace h := h.2 c6
    refine lv_aload_n C.1 C.2.1 dX0_appendNumber_6 rfl (lv_at hl 0 rfl) ?_
    refine lv_bipush (v := (48 : Int32)) C.1 C.2.1 dX0_appendNumber_7 (by decide) ?_
    refine lv_iload_n C.1 C.2.1 dX0_appendNumber_9 rfl (lv_at hl 1 rfl) ?_
    refine lv_bipush (v := (100 : Int32)) C.1 C.2.1 dX0_appendNumber_10 (by decide) ?_
    refine lv_idiv C.1 C.2.1 dX0_appendNumber_12 (by decide) ?_
    refine lv_iadd C.1 C.2.1 dX0_appendNumber_13 ?_
    refine k_i (r_V (As := [.int ((48 : Int32) + (x1 / (100 : Int32)))]) (rest := []) C hml (c_X0_append l G k0 (((48 : Int32) + (x1 / (100 : Int32)))) σ _ hk0 h) kM_X0_append im_X0_append se_X0_append ml_X0_52 ⟨rfl, rfl⟩ ⟨Nat.le_of_ble_eq_true rfl, Nat.le_of_ble_eq_true rfl⟩ hcs S.v hk0 (by decide) (T := TX0) (N := 2) rfl rfl hl.1 rfl (Nat.le_of_ble_eq_true rfl) dX0_appendNumber_14) S (fun r8 σ7 H locs h S => ?_)
    refine lv_pop C.1 C.2.1 dX0_appendNumber_17 rfl ?_
    exact TX0_appendNumber_18 C hml hcs hk0 hR S (lv_sub hl [0, 1] rfl) h
/-! X0_appendOccurrence -/
abbrev rm_X0_appendOccurrence : Room := { frames := 2, cells := 0, slots := 0, locals := 42 }
def BX0_appendOccurrence_2 (k0 : Nat) (k1 : Nat) (x2 : Int32) (post : Sg → Prop) : Nat → Int32 → Sg → Prop
  | 0, _, _ => False
  | n + 1, x3, σ => wpX3_wordLength k1 σ (fun r2 σ1 => (((r2 ≤ x3) → (((¬ (σ1.1 k1 1) = (1 : Int32)) → (((¬ (σ1.1 k1 1) = (2 : Int32)) → post σ1) ∧ (((σ1.1 k1 1) = (2 : Int32)) → wpX0_append k0 (((65 : Int32) + x2)) σ1 (fun r7 σ6 => post σ6)))) ∧ (((σ1.1 k1 1) = (1 : Int32)) → wpX0_appendNumber k0 x2 σ1 (fun σ8 => post σ8)))) ∧ ((¬ r2 ≤ x3) → wpX3_letter k1 x3 σ1 (fun r10 σ9 => wpX0_append k0 r10 σ9 (fun r12 σ11 => BX0_appendOccurrence_2 k0 k1 x2 post n ((x3 + 1)) σ11)))))
def wpX0_appendOccurrence (k0 : Nat) (k1 : Nat) (x2 : Int32) (σ : Sg) (post : Sg → Prop) : Prop := ∃ nf, BX0_appendOccurrence_2 k0 k1 x2 post nf ((0 : Int32)) σ
set_option maxHeartbeats 4000000 in
set_option maxRecDepth 100000 in
theorem TX0_appendOccurrence_2 (C : s_C G p s args m c RX0 cX0_appendOccurrence) (hml : c.maxLocals = 4) (hcs : cells ≤ (rm_X0_appendOccurrence).cells ∧ slots ≤ (rm_X0_appendOccurrence).slots) {k0 : Nat} {k1 : Nat} {x2 : Int32} (hk0 : s_kd k0 = 0) (hk1 : s_kd k1 = 3) {post : Sg → Prop} (hR : ∀ (σ1 : Sg) (H : Heap) (locs : List Loc) (pc : Nat) (ls : Array Slot), decode cX0_appendOccurrence pc = .ok (.return_, 1) → post σ1 → s_St G σ1 H0 H locs → W p l e rm_X0_appendOccurrence s m args below meth c H locs cells slots Q (F0 m pc ls [])) : ∀ (n : Nat) (x3 : Int32), ∀ {σ : Sg} {H : Heap} {locs : List Loc} {ls : Array Slot}, s_St G σ H0 H locs → lv_has ls 4 [(0, .ref (G.2.2 + k0)), (1, .ref (G.2.2 + k1)), (2, .int x2), (3, .int x3)] → BX0_appendOccurrence_2 k0 k1 x2 post n x3 σ → W p l e rm_X0_appendOccurrence s m args below meth c H locs cells slots Q (F0 m 2 ls []) := by
  intro n
  induction n with
  | zero =>
    intro x3  σ H locs ls S hl h
    exact absurd h (fun h => h)
  | succ n ih0 =>
    have ih : ∀ (x3 : Int32), ∀ (σ : Sg) (H : Heap) (locs : List Loc) (ls : Array Slot), s_St G σ H0 H locs → lv_has ls 4 [(0, .ref (G.2.2 + k0)), (1, .ref (G.2.2 + k1)), (2, .int x2), (3, .int x3)] → BX0_appendOccurrence_2 k0 k1 x2 post n x3 σ → W p l e rm_X0_appendOccurrence s m args below meth c H locs cells slots Q (F0 m 2 ls []) := fun x3  _ _ _ _ => ih0 x3 
    intro x3  σ H locs ls S hl h
    refine lv_iload_n C.1 C.2.1 dX0_appendOccurrence_2 rfl (lv_at hl 3 rfl) ?_
    refine lv_aload_n C.1 C.2.1 dX0_appendOccurrence_3 rfl (lv_at hl 1 rfl) ?_
    refine k_i (r_VN (As := []) (rest := [.int x3]) C hml (c_X3_wordLength l G k1 σ _ hk1 h) kM_X3_wordLength im_X3_wordLength se_X3_wordLength nm_X0_27 ⟨rfl, rfl⟩ ⟨Nat.le_of_ble_eq_true rfl, Nat.le_of_ble_eq_true rfl⟩ hcs S.v hk1 (by decide) (T := TX3) (N := 6) rfl rfl hl.1 rfl (Nat.le_of_ble_eq_true rfl) dX0_appendOccurrence_4) S (fun r2 σ1 H locs h S => ?_)
    refine lv_icmp_ge (tgt := 26) C.1 C.2.1 dX0_appendOccurrence_7 (by decide) (fun c3 => ?_) (fun c3 => ?_)
    · replace h := h.1 c3
      refine lv_aload_n C.1 C.2.1 dX0_appendOccurrence_26 rfl (lv_at hl 1 rfl) ?_
      refine gn_X3_1 C nf_X0_43 hk1 S dX0_appendOccurrence_27 ?_
      refine lv_iconst (v := (1 : Int32)) C.1 C.2.1 dX0_appendOccurrence_30 (by decide) ?_
      refine lv_icmp_ne (tgt := 42) C.1 C.2.1 dX0_appendOccurrence_31 (by decide) (fun c4 => ?_) (fun c4 => ?_)
      · replace h := h.1 c4
        refine lv_aload_n C.1 C.2.1 dX0_appendOccurrence_42 rfl (lv_at hl 1 rfl) ?_
        refine gn_X3_1 C nf_X0_43 hk1 S dX0_appendOccurrence_43 ?_
        refine lv_iconst (v := (2 : Int32)) C.1 C.2.1 dX0_appendOccurrence_46 (by decide) ?_
        refine lv_icmp_ne (tgt := 59) C.1 C.2.1 dX0_appendOccurrence_47 (by decide) (fun c5 => ?_) (fun c5 => ?_)
        · replace h := h.1 c5
          exact hR _ _ _ _ _ dX0_appendOccurrence_59 h S
        · replace h := h.2 c5
          refine lv_aload_n C.1 C.2.1 dX0_appendOccurrence_50 rfl (lv_at hl 0 rfl) ?_
          refine lv_bipush (v := (65 : Int32)) C.1 C.2.1 dX0_appendOccurrence_51 (by decide) ?_
          refine lv_iload_n C.1 C.2.1 dX0_appendOccurrence_53 rfl (lv_at hl 2 rfl) ?_
          refine lv_iadd C.1 C.2.1 dX0_appendOccurrence_54 ?_
          refine k_i (r_V (As := [.int ((65 : Int32) + x2)]) (rest := []) C hml (c_X0_append l G k0 (((65 : Int32) + x2)) σ1 _ hk0 h) kM_X0_append im_X0_append se_X0_append ml_X0_52 ⟨rfl, rfl⟩ ⟨Nat.le_of_ble_eq_true rfl, Nat.le_of_ble_eq_true rfl⟩ hcs S.v hk0 (by decide) (T := TX0) (N := 2) rfl rfl hl.1 rfl (Nat.le_of_ble_eq_true rfl) dX0_appendOccurrence_55) S (fun r7 σ6 H locs h S => ?_)
          refine lv_pop C.1 C.2.1 dX0_appendOccurrence_58 rfl ?_
          exact hR _ _ _ _ _ dX0_appendOccurrence_59 h S
      · replace h := h.2 c4
        refine lv_aload_n C.1 C.2.1 dX0_appendOccurrence_34 rfl (lv_at hl 0 rfl) ?_
        refine lv_iload_n C.1 C.2.1 dX0_appendOccurrence_35 rfl (lv_at hl 2 rfl) ?_
        refine k_v (r_V (As := [.int x2]) (rest := []) C hml (c_X0_appendNumber l G k0 x2 σ1 _ hk0 h) kM_X0_appendNumber im_X0_appendNumber se_X0_appendNumber ml_X0_55 ⟨rfl, rfl⟩ ⟨Nat.le_of_ble_eq_true rfl, Nat.le_of_ble_eq_true rfl⟩ hcs S.v hk0 (by decide) (T := TX0) (N := 2) rfl rfl hl.1 rfl (Nat.le_of_ble_eq_true rfl) dX0_appendOccurrence_36) S (fun σ8 H locs h S => ?_)
        refine lv_goto (tgt := 59) C.1 C.2.1 dX0_appendOccurrence_39 (by decide) ?_
        exact hR _ _ _ _ _ dX0_appendOccurrence_59 h S
    · replace h := h.2 c3
      refine lv_aload_n C.1 C.2.1 dX0_appendOccurrence_10 rfl (lv_at hl 0 rfl) ?_
      refine lv_aload_n C.1 C.2.1 dX0_appendOccurrence_11 rfl (lv_at hl 1 rfl) ?_
      refine lv_iload_n C.1 C.2.1 dX0_appendOccurrence_12 rfl (lv_at hl 3 rfl) ?_
      refine k_i (r_VN (As := [.int x3]) (rest := [.ref (G.2.2 + k0)]) C hml (c_X3_letter l G k1 x3 σ1 _ hk1 h) kM_X3_letter im_X3_letter se_X3_letter nm_X0_33 ⟨rfl, rfl⟩ ⟨Nat.le_of_ble_eq_true rfl, Nat.le_of_ble_eq_true rfl⟩ hcs S.v hk1 (by decide) (T := TX3) (N := 6) rfl rfl hl.1 rfl (Nat.le_of_ble_eq_true rfl) dX0_appendOccurrence_13) S (fun r10 σ9 H locs h S => ?_)
      refine k_i (r_V (As := [.int r10]) (rest := []) C hml (c_X0_append l G k0 r10 σ9 _ hk0 h) kM_X0_append im_X0_append se_X0_append ml_X0_52 ⟨rfl, rfl⟩ ⟨Nat.le_of_ble_eq_true rfl, Nat.le_of_ble_eq_true rfl⟩ hcs S.v hk0 (by decide) (T := TX0) (N := 2) rfl rfl hl.1 rfl (Nat.le_of_ble_eq_true rfl) dX0_appendOccurrence_16) S (fun r12 σ11 H locs h S => ?_)
      refine lv_pop C.1 C.2.1 dX0_appendOccurrence_19 rfl ?_
      refine lv_iinc (v := (x3 + 1)) (lv' := [(3, .int (x3 + 1)), (0, .ref (G.2.2 + k0)), (1, .ref (G.2.2 + k1)), (2, .int x2)]) C.1 C.2.1 dX0_appendOccurrence_20 hl (k := 3) rfl rfl (by decide) rfl (fun ls hl => ?_)
      refine lv_goto (tgt := 2) C.1 C.2.1 dX0_appendOccurrence_23 (by decide) ?_
      exact ih ((x3 + 1)) _ _ _ _ S (lv_sub hl [1, 2, 3, 0] rfl) h
theorem kM_X0_appendOccurrence : s_M yX0_appendOccurrence cX0_appendOccurrence 4 none 2 := ⟨co_X0_appendOccurrence, in_X0, by decide, by decide, by decide +kernel⟩
set_option maxHeartbeats 4000000 in
set_option maxRecDepth 100000 in
theorem c_X0_appendOccurrence (l : Launch) (G : s_G) (k0 : Nat) (k1 : Nat) (x2 : Int32) (σ : Sg) (post : Sg → Prop) (hk0 : s_kd k0 = 0) (hk1 : s_kd k1 = 3) (h : wpX0_appendOccurrence k0 k1 x2 σ post) : Met l yX0_appendOccurrence (wsU yX0_appendOccurrence cX0_appendOccurrence 4 none) rm_X0_appendOccurrence (va_Pc [.ref (G.2.2 + k0), .ref (G.2.2 + k1), .int x2] (s_Pre G σ)) (va_Qv post (s_B G) (s_A G.2.2)) 0 0 (s_A G.2.2) := by
  refine Met.ofW (cc := cX0_appendOccurrence) (maxL := 4) (ret := none) (by decide) rfl ?_
  intro p e s m args below meth c s₁ B hml hv
  obtain ⟨rfl, hP, hrok, hK, hN⟩ := hv
  have C : s_C G p s (([.ref (G.2.2 + k0), .ref (G.2.2 + k1), .int x2] : List Value).toArray) m c RX0 cX0_appendOccurrence := ⟨B.exec, B.bytes, findClass_of_methodNamed B.named, fun w hw => atoms_spec (ws := wsU yX0_appendOccurrence cX0_appendOccurrence 4 none) B.pre w (List.mem_cons_of_mem _ hw), hK, hN⟩
  have hr := B.returns
  have hlocks := B.notSynchronized
  have S : s_St G σ s.heap s.heap [] := ⟨hP, va_S.rf, hrok⟩
  have hcs : 0 ≤ (rm_X0_appendOccurrence).cells ∧ 0 ≤ (rm_X0_appendOccurrence).slots := ⟨Nat.le_refl 0, Nat.le_refl 0⟩
  have hR : ∀ (σ1 : Sg) (H : Heap) (locs : List Loc) (pc : Nat) (ls : Array Slot), decode cX0_appendOccurrence pc = .ok (.return_, 1) → post σ1 → s_St G σ1 s.heap H locs → W p l e rm_X0_appendOccurrence s m ([.ref (G.2.2 + k0), .ref (G.2.2 + k1), .int x2] : List Value).toArray below meth c H locs 0 0 (MQ below (va_Qv post (s_B G) (s_A G.2.2)) ([.ref (G.2.2 + k0), .ref (G.2.2 + k1), .int x2] : List Value).toArray s 0 0 (s_A G.2.2)) (F0 m pc ls []) := fun _ _ _ _ _ hd hp S => ret_v C hr hlocks hd hp S
  have hl := lv_entry ([.ref (G.2.2 + k0), .ref (G.2.2 + k1), .int x2]) (n := 4) (Nat.le_of_ble_eq_true rfl)
  rw [lg_entry_eq]
  generalize (lg_sl ([.ref (G.2.2 + k0), .ref (G.2.2 + k1), .int x2]) ++ List.replicate (4 - (lg_sl ([.ref (G.2.2 + k0), .ref (G.2.2 + k1), .int x2])).length) Slot.unset).toArray = ls at hl ⊢
  have hl : lv_has ls 4 [(0, .ref (G.2.2 + k0)), (1, .ref (G.2.2 + k1)), (2, .int x2)] := hl
  unfold wpX0_appendOccurrence at h
  refine lv_iconst (v := (0 : Int32)) C.1 C.2.1 dX0_appendOccurrence_0 (by decide) ?_
  refine lv_istore_n (lv' := [(3, .int (0 : Int32)), (0, .ref (G.2.2 + k0)), (1, .ref (G.2.2 + k1)), (2, .int x2)]) C.1 C.2.1 dX0_appendOccurrence_1 rfl hl (by decide) rfl (fun ls hl => ?_)
  obtain ⟨nf, h⟩ := h
  exact TX0_appendOccurrence_2 C hml hcs hk0 hk1 hR nf ((0 : Int32)) S (lv_sub hl [1, 2, 3, 0] rfl) h
/-! X5_memberAt -/
abbrev rm_X5_memberAt : Room := { frames := 0, cells := 0, slots := 0, locals := 0 }
def wpX5_memberAt (x1 : Int32) (σ : Sg) (post : Int32 → Sg → Prop) : Prop := (((x1 < 0) → post ((-9 : Int32)) σ) ∧ ((¬ x1 < 0) → ((((σ.1 90 6) ≤ x1) → post ((-9 : Int32)) σ) ∧ ((¬ (σ.1 90 6) ≤ x1) → ((((18 : Int32) ≤ x1) → post ((-9 : Int32)) σ) ∧ ((¬ (18 : Int32) ≤ x1) → (vp_in x1 18 ∧ post ((σ.1 94 (x1).toNatClampNeg)) σ)))))))
theorem kM_X5_memberAt : s_M yX5_memberAt cX5_memberAt 2 (some .int) 1 := ⟨co_X5_memberAt, in_X5, by decide, by decide, by decide +kernel⟩
set_option maxHeartbeats 4000000 in
set_option maxRecDepth 100000 in
theorem c_X5_memberAt (l : Launch) (G : s_G) (x1 : Int32) (σ : Sg) (post : Int32 → Sg → Prop) (h : wpX5_memberAt x1 σ post) : Met l yX5_memberAt (wsU yX5_memberAt cX5_memberAt 2 (some .int)) rm_X5_memberAt (va_Pc [.ref (G.2.2 + 90), .int x1] (s_Pre G σ)) (va_Qi post (s_B G) (s_A G.2.2)) 0 0 (s_A G.2.2) := by
  refine Met.ofW (cc := cX5_memberAt) (maxL := 2) (ret := (some .int)) (by decide) rfl ?_
  intro p e s m args below meth c s₁ B hml hv
  obtain ⟨rfl, hP, hrok, hK, hN⟩ := hv
  have C : s_C G p s (([.ref (G.2.2 + 90), .int x1] : List Value).toArray) m c RX5 cX5_memberAt := ⟨B.exec, B.bytes, findClass_of_methodNamed B.named, fun w hw => atoms_spec (ws := wsU yX5_memberAt cX5_memberAt 2 (some .int)) B.pre w (List.mem_cons_of_mem _ hw), hK, hN⟩
  have hr := B.returns
  have hlocks := B.notSynchronized
  have S : s_St G σ s.heap s.heap [] := ⟨hP, va_S.rf, hrok⟩
  have hcs : 0 ≤ (rm_X5_memberAt).cells ∧ 0 ≤ (rm_X5_memberAt).slots := ⟨Nat.le_refl 0, Nat.le_refl 0⟩
  have hR : ∀ (r : Int32) (σ1 : Sg) (H : Heap) (locs : List Loc) (pc : Nat) (ls : Array Slot), decode cX5_memberAt pc = .ok (.ireturn, 1) → post r σ1 → s_St G σ1 s.heap H locs → W p l e rm_X5_memberAt s m ([.ref (G.2.2 + 90), .int x1] : List Value).toArray below meth c H locs 0 0 (MQ below (va_Qi post (s_B G) (s_A G.2.2)) ([.ref (G.2.2 + 90), .int x1] : List Value).toArray s 0 0 (s_A G.2.2)) (F0 m pc ls [.int r]) := fun _ _ _ _ _ _ hd hp S => ret_i C hr hlocks hd hp S
  have hl := lv_entry ([.ref (G.2.2 + 90), .int x1]) (n := 2) (Nat.le_of_ble_eq_true rfl)
  rw [lg_entry_eq]
  generalize (lg_sl ([.ref (G.2.2 + 90), .int x1]) ++ List.replicate (2 - (lg_sl ([.ref (G.2.2 + 90), .int x1])).length) Slot.unset).toArray = ls at hl ⊢
  have hl : lv_has ls 2 [(0, .ref (G.2.2 + 90)), (1, .int x1)] := hl
  unfold wpX5_memberAt at h
  refine lv_iload_n C.1 C.2.1 dX5_memberAt_0 rfl (lv_at hl 1 rfl) ?_
  refine lv_if_lt (tgt := 30) C.1 C.2.1 dX5_memberAt_1 (by decide) (fun c1 => ?_) (fun c1 => ?_)
  · replace h := h.1 c1
    refine lv_bipush (v := (-9 : Int32)) C.1 C.2.1 dX5_memberAt_30 (by decide) ?_
    exact hR _ _ _ _ _ _ dX5_memberAt_32 h S
  · replace h := h.2 c1
    refine lv_iload_n C.1 C.2.1 dX5_memberAt_4 rfl (lv_at hl 1 rfl) ?_
    refine lv_aload_n C.1 C.2.1 dX5_memberAt_5 rfl (lv_at hl 0 rfl) ?_
    refine g_X5_6 C fl_X5_49 kd_90 S dX5_memberAt_6 ?_
    refine lv_icmp_ge (tgt := 30) C.1 C.2.1 dX5_memberAt_9 (by decide) (fun c2 => ?_) (fun c2 => ?_)
    · replace h := h.1 c2
      refine lv_bipush (v := (-9 : Int32)) C.1 C.2.1 dX5_memberAt_30 (by decide) ?_
      exact hR _ _ _ _ _ _ dX5_memberAt_32 h S
    · replace h := h.2 c2
      refine lv_iload_n C.1 C.2.1 dX5_memberAt_12 rfl (lv_at hl 1 rfl) ?_
      refine lv_aload_n C.1 C.2.1 dX5_memberAt_13 rfl (lv_at hl 0 rfl) ?_
      refine g_X5_3 C fl_X5_22 kd_90 S fn_90_3 dX5_memberAt_14 ?_
      refine a_len8 C kd_94 S (v := (18 : Int32)) (by rw [ln_94]; rfl) dX5_memberAt_17 ?_
      refine lv_icmp_ge (tgt := 30) C.1 C.2.1 dX5_memberAt_18 (by decide) (fun c3 => ?_) (fun c3 => ?_)
      · replace h := h.1 c3
        refine lv_bipush (v := (-9 : Int32)) C.1 C.2.1 dX5_memberAt_30 (by decide) ?_
        exact hR _ _ _ _ _ _ dX5_memberAt_32 h S
      · replace h := h.2 c3
        refine lv_aload_n C.1 C.2.1 dX5_memberAt_21 rfl (lv_at hl 0 rfl) ?_
        refine g_X5_3 C fl_X5_22 kd_90 S fn_90_3 dX5_memberAt_22 ?_
        refine lv_iload_n C.1 C.2.1 dX5_memberAt_25 rfl (lv_at hl 1 rfl) ?_
        refine a_ild C kd_94 S ln_94 h.1 dX5_memberAt_26 ?_
        replace h := h.2
        refine lv_goto (tgt := 32) C.1 C.2.1 dX5_memberAt_27 (by decide) ?_
        exact hR _ _ _ _ _ _ dX5_memberAt_32 h S
/-! X5_numberAt -/
abbrev rm_X5_numberAt : Room := { frames := 0, cells := 0, slots := 0, locals := 0 }
def wpX5_numberAt (x1 : Int32) (σ : Sg) (post : Int32 → Sg → Prop) : Prop := (((x1 < 0) → post ((-9 : Int32)) σ) ∧ ((¬ x1 < 0) → ((((σ.1 90 6) ≤ x1) → post ((-9 : Int32)) σ) ∧ ((¬ (σ.1 90 6) ≤ x1) → ((((18 : Int32) ≤ x1) → post ((-9 : Int32)) σ) ∧ ((¬ (18 : Int32) ≤ x1) → (vp_in x1 18 ∧ post ((σ.1 96 (x1).toNatClampNeg)) σ)))))))
theorem kM_X5_numberAt : s_M yX5_numberAt cX5_numberAt 2 (some .int) 1 := ⟨co_X5_numberAt, in_X5, by decide, by decide, by decide +kernel⟩
set_option maxHeartbeats 4000000 in
set_option maxRecDepth 100000 in
theorem c_X5_numberAt (l : Launch) (G : s_G) (x1 : Int32) (σ : Sg) (post : Int32 → Sg → Prop) (h : wpX5_numberAt x1 σ post) : Met l yX5_numberAt (wsU yX5_numberAt cX5_numberAt 2 (some .int)) rm_X5_numberAt (va_Pc [.ref (G.2.2 + 90), .int x1] (s_Pre G σ)) (va_Qi post (s_B G) (s_A G.2.2)) 0 0 (s_A G.2.2) := by
  refine Met.ofW (cc := cX5_numberAt) (maxL := 2) (ret := (some .int)) (by decide) rfl ?_
  intro p e s m args below meth c s₁ B hml hv
  obtain ⟨rfl, hP, hrok, hK, hN⟩ := hv
  have C : s_C G p s (([.ref (G.2.2 + 90), .int x1] : List Value).toArray) m c RX5 cX5_numberAt := ⟨B.exec, B.bytes, findClass_of_methodNamed B.named, fun w hw => atoms_spec (ws := wsU yX5_numberAt cX5_numberAt 2 (some .int)) B.pre w (List.mem_cons_of_mem _ hw), hK, hN⟩
  have hr := B.returns
  have hlocks := B.notSynchronized
  have S : s_St G σ s.heap s.heap [] := ⟨hP, va_S.rf, hrok⟩
  have hcs : 0 ≤ (rm_X5_numberAt).cells ∧ 0 ≤ (rm_X5_numberAt).slots := ⟨Nat.le_refl 0, Nat.le_refl 0⟩
  have hR : ∀ (r : Int32) (σ1 : Sg) (H : Heap) (locs : List Loc) (pc : Nat) (ls : Array Slot), decode cX5_numberAt pc = .ok (.ireturn, 1) → post r σ1 → s_St G σ1 s.heap H locs → W p l e rm_X5_numberAt s m ([.ref (G.2.2 + 90), .int x1] : List Value).toArray below meth c H locs 0 0 (MQ below (va_Qi post (s_B G) (s_A G.2.2)) ([.ref (G.2.2 + 90), .int x1] : List Value).toArray s 0 0 (s_A G.2.2)) (F0 m pc ls [.int r]) := fun _ _ _ _ _ _ hd hp S => ret_i C hr hlocks hd hp S
  have hl := lv_entry ([.ref (G.2.2 + 90), .int x1]) (n := 2) (Nat.le_of_ble_eq_true rfl)
  rw [lg_entry_eq]
  generalize (lg_sl ([.ref (G.2.2 + 90), .int x1]) ++ List.replicate (2 - (lg_sl ([.ref (G.2.2 + 90), .int x1])).length) Slot.unset).toArray = ls at hl ⊢
  have hl : lv_has ls 2 [(0, .ref (G.2.2 + 90)), (1, .int x1)] := hl
  unfold wpX5_numberAt at h
  refine lv_iload_n C.1 C.2.1 dX5_numberAt_0 rfl (lv_at hl 1 rfl) ?_
  refine lv_if_lt (tgt := 30) C.1 C.2.1 dX5_numberAt_1 (by decide) (fun c1 => ?_) (fun c1 => ?_)
  · replace h := h.1 c1
    refine lv_bipush (v := (-9 : Int32)) C.1 C.2.1 dX5_numberAt_30 (by decide) ?_
    exact hR _ _ _ _ _ _ dX5_numberAt_32 h S
  · replace h := h.2 c1
    refine lv_iload_n C.1 C.2.1 dX5_numberAt_4 rfl (lv_at hl 1 rfl) ?_
    refine lv_aload_n C.1 C.2.1 dX5_numberAt_5 rfl (lv_at hl 0 rfl) ?_
    refine g_X5_6 C fl_X5_49 kd_90 S dX5_numberAt_6 ?_
    refine lv_icmp_ge (tgt := 30) C.1 C.2.1 dX5_numberAt_9 (by decide) (fun c2 => ?_) (fun c2 => ?_)
    · replace h := h.1 c2
      refine lv_bipush (v := (-9 : Int32)) C.1 C.2.1 dX5_numberAt_30 (by decide) ?_
      exact hR _ _ _ _ _ _ dX5_numberAt_32 h S
    · replace h := h.2 c2
      refine lv_iload_n C.1 C.2.1 dX5_numberAt_12 rfl (lv_at hl 1 rfl) ?_
      refine lv_aload_n C.1 C.2.1 dX5_numberAt_13 rfl (lv_at hl 0 rfl) ?_
      refine g_X5_5 C fl_X5_28 kd_90 S fn_90_5 dX5_numberAt_14 ?_
      refine a_len8 C kd_96 S (v := (18 : Int32)) (by rw [ln_96]; rfl) dX5_numberAt_17 ?_
      refine lv_icmp_ge (tgt := 30) C.1 C.2.1 dX5_numberAt_18 (by decide) (fun c3 => ?_) (fun c3 => ?_)
      · replace h := h.1 c3
        refine lv_bipush (v := (-9 : Int32)) C.1 C.2.1 dX5_numberAt_30 (by decide) ?_
        exact hR _ _ _ _ _ _ dX5_numberAt_32 h S
      · replace h := h.2 c3
        refine lv_aload_n C.1 C.2.1 dX5_numberAt_21 rfl (lv_at hl 0 rfl) ?_
        refine g_X5_5 C fl_X5_28 kd_90 S fn_90_5 dX5_numberAt_22 ?_
        refine lv_iload_n C.1 C.2.1 dX5_numberAt_25 rfl (lv_at hl 1 rfl) ?_
        refine a_ild C kd_96 S ln_96 h.1 dX5_numberAt_26 ?_
        replace h := h.2
        refine lv_goto (tgt := 32) C.1 C.2.1 dX5_numberAt_27 (by decide) ?_
        exact hR _ _ _ _ _ _ dX5_numberAt_32 h S
/-! X6_formNormal -/
abbrev rm_X6_formNormal : Room := { frames := 3, cells := 0, slots := 0, locals := 65 }
def BX6_formNormal_80  (K22 : Int32 → Int32 → Sg → Prop) (post : Sg → Prop) (x1 : Int32) (x2 : Int32) (σ : Sg) : Prop := wpX1_at 5 x1 σ (fun q2 σ1 => s_kd q2 = 3 → wpX5_numberAt x2 σ1 (fun r4 σ3 => wpX0_appendOccurrence 3 q2 r4 σ3 (fun σ5 => K22 x1 ((x2 + 1)) σ5)))
def BX6_formNormal_22  (K9 : Int32 → Sg → Prop) (post : Sg → Prop) : Nat → Int32 → Int32 → Sg → Prop
  | 0, _, _, _ => False
  | n + 1, x1, x2, σ => ((((σ.1 90 6) ≤ x2) → K9 ((x1 + 1)) σ) ∧ ((¬ (σ.1 90 6) ≤ x2) → wpX5_memberAt x2 σ (fun r8 σ7 => (((¬ r8 = x1) → BX6_formNormal_22 K9 post n x1 ((x2 + 1)) σ7) ∧ ((r8 = x1) → ((((σ7.1 3 1) ≤ 0) → BX6_formNormal_80 (BX6_formNormal_22 K9 post n) post x1 x2 σ7) ∧ ((¬ (σ7.1 3 1) ≤ 0) → ((((σ7.1 5 3) = 0) → BX6_formNormal_80 (BX6_formNormal_22 K9 post n) post x1 x2 σ7) ∧ ((¬ (σ7.1 5 3) = 0) → wpX0_append 3 ((σ7.1 5 3)) σ7 (fun r13 σ12 => BX6_formNormal_80 (BX6_formNormal_22 K9 post n) post x1 x2 σ12))))))))))
def BX6_formNormal_9  (post : Sg → Prop) : Nat → Int32 → Sg → Prop
  | 0, _, _ => False
  | n + 1, x1, σ => ((((σ.1 5 2) ≤ x1) → post σ) ∧ ((¬ (σ.1 5 2) ≤ x1) → ∃ nf, BX6_formNormal_22 (BX6_formNormal_9 post n) post nf x1 ((0 : Int32)) σ))
def wpX6_formNormal  (σ : Sg) (post : Sg → Prop) : Prop := wpX0_clear 3 σ (fun σ15 => ∃ nf, BX6_formNormal_9 post nf ((0 : Int32)) σ15)
set_option maxHeartbeats 4000000 in
set_option maxRecDepth 100000 in
theorem TX6_formNormal_80 (C : s_C G p s args m c RX6 cX6_formNormal) (hml : c.maxLocals = 3) (hcs : cells ≤ (rm_X6_formNormal).cells ∧ slots ≤ (rm_X6_formNormal).slots)  {K22 : Int32 → Int32 → Sg → Prop} {post : Sg → Prop} (hR : ∀ (σ1 : Sg) (H : Heap) (locs : List Loc) (pc : Nat) (ls : Array Slot), decode cX6_formNormal pc = .ok (.return_, 1) → post σ1 → s_St G σ1 H0 H locs → W p l e rm_X6_formNormal s m args below meth c H locs cells slots Q (F0 m pc ls [])) (hK22 : ∀ (x1 : Int32) (x2 : Int32), ∀ (σ : Sg) (H : Heap) (locs : List Loc) (ls : Array Slot), s_St G σ H0 H locs → lv_has ls 3 [(0, .ref (G.2.2 + 0)), (1, .int x1), (2, .int x2)] → K22 x1 x2 σ → W p l e rm_X6_formNormal s m args below meth c H locs cells slots Q (F0 m 22 ls [])) : ∀ (x1 : Int32) (x2 : Int32), ∀ {σ : Sg} {H : Heap} {locs : List Loc} {ls : Array Slot}, s_St G σ H0 H locs → lv_has ls 3 [(0, .ref (G.2.2 + 0)), (1, .int x1), (2, .int x2)] → BX6_formNormal_80 K22 post x1 x2 σ → W p l e rm_X6_formNormal s m args below meth c H locs cells slots Q (F0 m 80 ls []) := by
  intro x1 x2  σ H locs ls S hl h
  unfold BX6_formNormal_80 at h
  refine lv_aload_n C.1 C.2.1 dX6_formNormal_80 rfl (lv_at hl 0 rfl) ?_
  refine g_X6_1 C fl_X6_16 kd_0 S fn_0_1 dX6_formNormal_81 ?_
  refine lv_aload_n C.1 C.2.1 dX6_formNormal_84 rfl (lv_at hl 0 rfl) ?_
  refine g_X6_2 C fl_X6_22 kd_0 S fn_0_2 dX6_formNormal_85 ?_
  refine lv_iload_n C.1 C.2.1 dX6_formNormal_88 rfl (lv_at hl 1 rfl) ?_
  refine k_r (kd := 3) (r_VN (As := [.int x1]) (rest := [.ref (G.2.2 + 3)]) C hml (c_X1_at l G 5 x1 σ _ kd_5 h) kM_X1_at im_X1_at se_X1_at nm_X6_96 ⟨rfl, rfl⟩ ⟨Nat.le_of_ble_eq_true rfl, Nat.le_of_ble_eq_true rfl⟩ hcs S.v kd_5 (by decide) (T := TX1) (N := 4) rfl rfl hl.1 rfl (Nat.le_of_ble_eq_true rfl) dX6_formNormal_89) S (fun q2 σ1 H locs hq2 h S => ?_)
  replace h := h hq2
  refine lv_aload_n C.1 C.2.1 dX6_formNormal_92 rfl (lv_at hl 0 rfl) ?_
  refine g_X6_6 C fl_X6_44 kd_0 S fn_0_6 dX6_formNormal_93 ?_
  refine lv_iload_n C.1 C.2.1 dX6_formNormal_96 rfl (lv_at hl 2 rfl) ?_
  refine k_i (r_VN (As := [.int x2]) (rest := [.ref (G.2.2 + q2), .ref (G.2.2 + 3)]) C hml (c_X5_numberAt l G x2 σ1 _ h) kM_X5_numberAt im_X5_numberAt se_X5_numberAt nm_X6_194 ⟨rfl, rfl⟩ ⟨Nat.le_of_ble_eq_true rfl, Nat.le_of_ble_eq_true rfl⟩ hcs S.v kd_90 (by decide) (T := TX5) (N := 8) rfl rfl hl.1 rfl (Nat.le_of_ble_eq_true rfl) dX6_formNormal_97) S (fun r4 σ3 H locs h S => ?_)
  refine k_v (r_VN (As := [.ref (G.2.2 + q2), .int r4]) (rest := []) C hml (c_X0_appendOccurrence l G 3 q2 r4 σ3 _ kd_3 hq2 h) kM_X0_appendOccurrence im_X0_appendOccurrence se_X0_appendOccurrence nm_X6_209 ⟨rfl, rfl⟩ ⟨Nat.le_of_ble_eq_true rfl, Nat.le_of_ble_eq_true rfl⟩ hcs S.v kd_3 (by decide) (T := TX0) (N := 2) rfl rfl hl.1 rfl (Nat.le_of_ble_eq_true rfl) dX6_formNormal_100) S (fun σ5 H locs h S => ?_)
  refine lv_iinc (v := (x2 + 1)) (lv' := [(2, .int (x2 + 1)), (0, .ref (G.2.2 + 0)), (1, .int x1)]) C.1 C.2.1 dX6_formNormal_103 hl (k := 2) rfl rfl (by decide) rfl (fun ls hl => ?_)
  refine lv_goto (tgt := 22) C.1 C.2.1 dX6_formNormal_106 (by decide) ?_
  exact hK22 x1 ((x2 + 1)) _ _ _ _ S (lv_sub hl [1, 2, 0] rfl) h
set_option maxHeartbeats 4000000 in
set_option maxRecDepth 100000 in
theorem TX6_formNormal_22 (C : s_C G p s args m c RX6 cX6_formNormal) (hml : c.maxLocals = 3) (hcs : cells ≤ (rm_X6_formNormal).cells ∧ slots ≤ (rm_X6_formNormal).slots)  {K9 : Int32 → Sg → Prop} {post : Sg → Prop} (hR : ∀ (σ1 : Sg) (H : Heap) (locs : List Loc) (pc : Nat) (ls : Array Slot), decode cX6_formNormal pc = .ok (.return_, 1) → post σ1 → s_St G σ1 H0 H locs → W p l e rm_X6_formNormal s m args below meth c H locs cells slots Q (F0 m pc ls [])) (hK9 : ∀ (x1 : Int32), ∀ (σ : Sg) (H : Heap) (locs : List Loc) (ls : Array Slot), s_St G σ H0 H locs → lv_has ls 3 [(0, .ref (G.2.2 + 0)), (1, .int x1)] → K9 x1 σ → W p l e rm_X6_formNormal s m args below meth c H locs cells slots Q (F0 m 9 ls [])) : ∀ (n : Nat) (x1 : Int32) (x2 : Int32), ∀ {σ : Sg} {H : Heap} {locs : List Loc} {ls : Array Slot}, s_St G σ H0 H locs → lv_has ls 3 [(0, .ref (G.2.2 + 0)), (1, .int x1), (2, .int x2)] → BX6_formNormal_22 K9 post n x1 x2 σ → W p l e rm_X6_formNormal s m args below meth c H locs cells slots Q (F0 m 22 ls []) := by
  intro n
  induction n with
  | zero =>
    intro x1 x2  σ H locs ls S hl h
    exact absurd h (fun h => h)
  | succ n ih0 =>
    have ih : ∀ (x1 : Int32) (x2 : Int32), ∀ (σ : Sg) (H : Heap) (locs : List Loc) (ls : Array Slot), s_St G σ H0 H locs → lv_has ls 3 [(0, .ref (G.2.2 + 0)), (1, .int x1), (2, .int x2)] → BX6_formNormal_22 K9 post n x1 x2 σ → W p l e rm_X6_formNormal s m args below meth c H locs cells slots Q (F0 m 22 ls []) := fun x1 x2  _ _ _ _ => ih0 x1 x2 
    intro x1 x2  σ H locs ls S hl h
    refine lv_iload_n C.1 C.2.1 dX6_formNormal_22 rfl (lv_at hl 2 rfl) ?_
    refine lv_aload_n C.1 C.2.1 dX6_formNormal_23 rfl (lv_at hl 0 rfl) ?_
    refine g_X6_6 C fl_X6_44 kd_0 S fn_0_6 dX6_formNormal_24 ?_
    refine gn_X5_6 C nf_X6_197 kd_90 S dX6_formNormal_27 ?_
    refine lv_icmp_ge (tgt := 109) C.1 C.2.1 dX6_formNormal_30 (by decide) (fun c6 => ?_) (fun c6 => ?_)
    · replace h := h.1 c6
      refine lv_iinc (v := (x1 + 1)) (lv' := [(1, .int (x1 + 1)), (0, .ref (G.2.2 + 0)), (2, .int x2)]) C.1 C.2.1 dX6_formNormal_109 hl (k := 1) rfl rfl (by decide) rfl (fun ls hl => ?_)
      refine lv_goto (tgt := 9) C.1 C.2.1 dX6_formNormal_112 (by decide) ?_
      exact hK9 ((x1 + 1)) _ _ _ _ S (lv_sub hl [1, 0] rfl) h
    · replace h := h.2 c6
      refine lv_aload_n C.1 C.2.1 dX6_formNormal_33 rfl (lv_at hl 0 rfl) ?_
      refine g_X6_6 C fl_X6_44 kd_0 S fn_0_6 dX6_formNormal_34 ?_
      refine lv_iload_n C.1 C.2.1 dX6_formNormal_37 rfl (lv_at hl 2 rfl) ?_
      refine k_i (r_VN (As := [.int x2]) (rest := []) C hml (c_X5_memberAt l G x2 σ _ h) kM_X5_memberAt im_X5_memberAt se_X5_memberAt nm_X6_188 ⟨rfl, rfl⟩ ⟨Nat.le_of_ble_eq_true rfl, Nat.le_of_ble_eq_true rfl⟩ hcs S.v kd_90 (by decide) (T := TX5) (N := 8) rfl rfl hl.1 rfl (Nat.le_of_ble_eq_true rfl) dX6_formNormal_38) S (fun r8 σ7 H locs h S => ?_)
      refine lv_iload_n C.1 C.2.1 dX6_formNormal_41 rfl (lv_at hl 1 rfl) ?_
      refine lv_icmp_ne (tgt := 103) C.1 C.2.1 dX6_formNormal_42 (by decide) (fun c9 => ?_) (fun c9 => ?_)
      · replace h := h.1 c9
        refine lv_iinc (v := (x2 + 1)) (lv' := [(2, .int (x2 + 1)), (0, .ref (G.2.2 + 0)), (1, .int x1)]) C.1 C.2.1 dX6_formNormal_103 hl (k := 2) rfl rfl (by decide) rfl (fun ls hl => ?_)
        refine lv_goto (tgt := 22) C.1 C.2.1 dX6_formNormal_106 (by decide) ?_
        exact ih x1 ((x2 + 1)) _ _ _ _ S (lv_sub hl [1, 2, 0] rfl) h
      · replace h := h.2 c9
        refine lv_aload_n C.1 C.2.1 dX6_formNormal_45 rfl (lv_at hl 0 rfl) ?_
        refine g_X6_1 C fl_X6_16 kd_0 S fn_0_1 dX6_formNormal_46 ?_
        refine gn_X0_1 C nf_X6_62 kd_3 S dX6_formNormal_49 ?_
        refine lv_if_le (tgt := 80) C.1 C.2.1 dX6_formNormal_52 (by decide) (fun c10 => ?_) (fun c10 => ?_)
        · replace h := h.1 c10
          exact TX6_formNormal_80 C hml hcs hR ih x1 x2 S (lv_sub hl [0, 1, 2] rfl) h
        · replace h := h.2 c10
          refine lv_aload_n C.1 C.2.1 dX6_formNormal_55 rfl (lv_at hl 0 rfl) ?_
          refine g_X6_2 C fl_X6_22 kd_0 S fn_0_2 dX6_formNormal_56 ?_
          refine gn_X1_3 C nf_X6_114 kd_5 S dX6_formNormal_59 ?_
          refine lv_if_eq (tgt := 80) C.1 C.2.1 dX6_formNormal_62 (by decide) (fun c11 => ?_) (fun c11 => ?_)
          · replace h := h.1 c11
            exact TX6_formNormal_80 C hml hcs hR ih x1 x2 S (lv_sub hl [0, 1, 2] rfl) h
          · replace h := h.2 c11
            refine lv_aload_n C.1 C.2.1 dX6_formNormal_65 rfl (lv_at hl 0 rfl) ?_
            refine g_X6_1 C fl_X6_16 kd_0 S fn_0_1 dX6_formNormal_66 ?_
            refine lv_aload_n C.1 C.2.1 dX6_formNormal_69 rfl (lv_at hl 0 rfl) ?_
            refine g_X6_2 C fl_X6_22 kd_0 S fn_0_2 dX6_formNormal_70 ?_
            refine gn_X1_3 C nf_X6_114 kd_5 S dX6_formNormal_73 ?_
            refine k_i (r_VN (As := [.int (σ7.1 5 3)]) (rest := []) C hml (c_X0_append l G 3 ((σ7.1 5 3)) σ7 _ kd_3 h) kM_X0_append im_X0_append se_X0_append nm_X6_55 ⟨rfl, rfl⟩ ⟨Nat.le_of_ble_eq_true rfl, Nat.le_of_ble_eq_true rfl⟩ hcs S.v kd_3 (by decide) (T := TX0) (N := 2) rfl rfl hl.1 rfl (Nat.le_of_ble_eq_true rfl) dX6_formNormal_76) S (fun r13 σ12 H locs h S => ?_)
            refine lv_pop C.1 C.2.1 dX6_formNormal_79 rfl ?_
            exact TX6_formNormal_80 C hml hcs hR ih x1 x2 S (lv_sub hl [0, 1, 2] rfl) h
set_option maxHeartbeats 4000000 in
set_option maxRecDepth 100000 in
theorem TX6_formNormal_9 (C : s_C G p s args m c RX6 cX6_formNormal) (hml : c.maxLocals = 3) (hcs : cells ≤ (rm_X6_formNormal).cells ∧ slots ≤ (rm_X6_formNormal).slots)  {post : Sg → Prop} (hR : ∀ (σ1 : Sg) (H : Heap) (locs : List Loc) (pc : Nat) (ls : Array Slot), decode cX6_formNormal pc = .ok (.return_, 1) → post σ1 → s_St G σ1 H0 H locs → W p l e rm_X6_formNormal s m args below meth c H locs cells slots Q (F0 m pc ls [])) : ∀ (n : Nat) (x1 : Int32), ∀ {σ : Sg} {H : Heap} {locs : List Loc} {ls : Array Slot}, s_St G σ H0 H locs → lv_has ls 3 [(0, .ref (G.2.2 + 0)), (1, .int x1)] → BX6_formNormal_9 post n x1 σ → W p l e rm_X6_formNormal s m args below meth c H locs cells slots Q (F0 m 9 ls []) := by
  intro n
  induction n with
  | zero =>
    intro x1  σ H locs ls S hl h
    exact absurd h (fun h => h)
  | succ n ih0 =>
    have ih : ∀ (x1 : Int32), ∀ (σ : Sg) (H : Heap) (locs : List Loc) (ls : Array Slot), s_St G σ H0 H locs → lv_has ls 3 [(0, .ref (G.2.2 + 0)), (1, .int x1)] → BX6_formNormal_9 post n x1 σ → W p l e rm_X6_formNormal s m args below meth c H locs cells slots Q (F0 m 9 ls []) := fun x1  _ _ _ _ => ih0 x1 
    intro x1  σ H locs ls S hl h
    refine lv_iload_n C.1 C.2.1 dX6_formNormal_9 rfl (lv_at hl 1 rfl) ?_
    refine lv_aload_n C.1 C.2.1 dX6_formNormal_10 rfl (lv_at hl 0 rfl) ?_
    refine g_X6_2 C fl_X6_22 kd_0 S fn_0_2 dX6_formNormal_11 ?_
    refine gn_X1_2 C nf_X6_79 kd_5 S dX6_formNormal_14 ?_
    refine lv_icmp_ge (tgt := 115) C.1 C.2.1 dX6_formNormal_17 (by decide) (fun c14 => ?_) (fun c14 => ?_)
    · replace h := h.1 c14
      exact hR _ _ _ _ _ dX6_formNormal_115 h S
    · replace h := h.2 c14
      refine lv_iconst (v := (0 : Int32)) C.1 C.2.1 dX6_formNormal_20 (by decide) ?_
      refine lv_istore_n (lv' := [(2, .int (0 : Int32)), (0, .ref (G.2.2 + 0)), (1, .int x1)]) C.1 C.2.1 dX6_formNormal_21 rfl hl (by decide) rfl (fun ls hl => ?_)
      obtain ⟨nf, h⟩ := h
      exact TX6_formNormal_22 C hml hcs hR ih nf x1 ((0 : Int32)) S (lv_sub hl [1, 2, 0] rfl) h
theorem kM_X6_formNormal : s_M yX6_formNormal cX6_formNormal 3 none 0 := ⟨co_X6_formNormal, in_X6, by decide, by decide, by decide +kernel⟩
set_option maxHeartbeats 4000000 in
set_option maxRecDepth 100000 in
theorem c_X6_formNormal (l : Launch) (G : s_G)  (σ : Sg) (post : Sg → Prop) (h : wpX6_formNormal σ post) : Met l yX6_formNormal (wsU yX6_formNormal cX6_formNormal 3 none) rm_X6_formNormal (va_Pc [.ref (G.2.2 + 0)] (s_Pre G σ)) (va_Qv post (s_B G) (s_A G.2.2)) 0 0 (s_A G.2.2) := by
  refine Met.ofW (cc := cX6_formNormal) (maxL := 3) (ret := none) (by decide) rfl ?_
  intro p e s m args below meth c s₁ B hml hv
  obtain ⟨rfl, hP, hrok, hK, hN⟩ := hv
  have C : s_C G p s (([.ref (G.2.2 + 0)] : List Value).toArray) m c RX6 cX6_formNormal := ⟨B.exec, B.bytes, findClass_of_methodNamed B.named, fun w hw => atoms_spec (ws := wsU yX6_formNormal cX6_formNormal 3 none) B.pre w (List.mem_cons_of_mem _ hw), hK, hN⟩
  have hr := B.returns
  have hlocks := B.notSynchronized
  have S : s_St G σ s.heap s.heap [] := ⟨hP, va_S.rf, hrok⟩
  have hcs : 0 ≤ (rm_X6_formNormal).cells ∧ 0 ≤ (rm_X6_formNormal).slots := ⟨Nat.le_refl 0, Nat.le_refl 0⟩
  have hR : ∀ (σ1 : Sg) (H : Heap) (locs : List Loc) (pc : Nat) (ls : Array Slot), decode cX6_formNormal pc = .ok (.return_, 1) → post σ1 → s_St G σ1 s.heap H locs → W p l e rm_X6_formNormal s m ([.ref (G.2.2 + 0)] : List Value).toArray below meth c H locs 0 0 (MQ below (va_Qv post (s_B G) (s_A G.2.2)) ([.ref (G.2.2 + 0)] : List Value).toArray s 0 0 (s_A G.2.2)) (F0 m pc ls []) := fun _ _ _ _ _ hd hp S => ret_v C hr hlocks hd hp S
  have hl := lv_entry ([.ref (G.2.2 + 0)]) (n := 3) (Nat.le_of_ble_eq_true rfl)
  rw [lg_entry_eq]
  generalize (lg_sl ([.ref (G.2.2 + 0)]) ++ List.replicate (3 - (lg_sl ([.ref (G.2.2 + 0)])).length) Slot.unset).toArray = ls at hl ⊢
  have hl : lv_has ls 3 [(0, .ref (G.2.2 + 0))] := hl
  unfold wpX6_formNormal at h
  refine lv_aload_n C.1 C.2.1 dX6_formNormal_0 rfl (lv_at hl 0 rfl) ?_
  refine g_X6_1 C fl_X6_16 kd_0 S fn_0_1 dX6_formNormal_1 ?_
  refine k_v (r_VN (As := []) (rest := []) C hml (c_X0_clear l G 3 σ _ kd_3 h) kM_X0_clear im_X0_clear se_X0_clear nm_X6_66 ⟨rfl, rfl⟩ ⟨Nat.le_of_ble_eq_true rfl, Nat.le_of_ble_eq_true rfl⟩ hcs S.v kd_3 (by decide) (T := TX0) (N := 2) rfl rfl hl.1 rfl (Nat.le_of_ble_eq_true rfl) dX6_formNormal_4) S (fun σ15 H locs h S => ?_)
  refine lv_iconst (v := (0 : Int32)) C.1 C.2.1 dX6_formNormal_7 (by decide) ?_
  refine lv_istore_n (lv' := [(1, .int (0 : Int32)), (0, .ref (G.2.2 + 0))]) C.1 C.2.1 dX6_formNormal_8 rfl hl (by decide) rfl (fun ls hl => ?_)
  obtain ⟨nf, h⟩ := h
  exact TX6_formNormal_9 C hml hcs hR nf ((0 : Int32)) S (lv_sub hl [1, 0] rfl) h
/-! X6_normal -/
abbrev rm_X6_normal : Room := { frames := 6, cells := 0, slots := 0, locals := 144 }
def wpX6_normal (x1 : Int32) (σ : Sg) (post : Int32 → Sg → Prop) : Prop := (((0 ≤ x1) → wpX5_learn σ (fun σ2 => wpX5_exists σ2 (fun r4 σ3 => (((¬ r4 = 0) → wpX6_formNormal σ3 (fun σ6 => wpX0_at 3 x1 σ6 (fun r8 σ7 => post r8 σ7))) ∧ ((r4 = 0) → post ((-2 : Int32)) σ3))))) ∧ ((¬ 0 ≤ x1) → post ((-1 : Int32)) σ))
theorem kM_X6_normal : s_M yX6_normal cX6_normal 2 (some .int) 1 := ⟨co_X6_normal, in_X6, by decide, by decide, by decide +kernel⟩
set_option maxHeartbeats 4000000 in
set_option maxRecDepth 100000 in
theorem c_X6_normal (l : Launch) (G : s_G) (x1 : Int32) (σ : Sg) (post : Int32 → Sg → Prop) (h : wpX6_normal x1 σ post) : Met l yX6_normal (wsU yX6_normal cX6_normal 2 (some .int)) rm_X6_normal (va_Pc [.ref (G.2.2 + 0), .int x1] (s_Pre G σ)) (va_Qi post (s_B G) (s_A G.2.2)) 0 0 (s_A G.2.2) := by
  refine Met.ofW (cc := cX6_normal) (maxL := 2) (ret := (some .int)) (by decide) rfl ?_
  intro p e s m args below meth c s₁ B hml hv
  obtain ⟨rfl, hP, hrok, hK, hN⟩ := hv
  have C : s_C G p s (([.ref (G.2.2 + 0), .int x1] : List Value).toArray) m c RX6 cX6_normal := ⟨B.exec, B.bytes, findClass_of_methodNamed B.named, fun w hw => atoms_spec (ws := wsU yX6_normal cX6_normal 2 (some .int)) B.pre w (List.mem_cons_of_mem _ hw), hK, hN⟩
  have hr := B.returns
  have hlocks := B.notSynchronized
  have S : s_St G σ s.heap s.heap [] := ⟨hP, va_S.rf, hrok⟩
  have hcs : 0 ≤ (rm_X6_normal).cells ∧ 0 ≤ (rm_X6_normal).slots := ⟨Nat.le_refl 0, Nat.le_refl 0⟩
  have hR : ∀ (r : Int32) (σ1 : Sg) (H : Heap) (locs : List Loc) (pc : Nat) (ls : Array Slot), decode cX6_normal pc = .ok (.ireturn, 1) → post r σ1 → s_St G σ1 s.heap H locs → W p l e rm_X6_normal s m ([.ref (G.2.2 + 0), .int x1] : List Value).toArray below meth c H locs 0 0 (MQ below (va_Qi post (s_B G) (s_A G.2.2)) ([.ref (G.2.2 + 0), .int x1] : List Value).toArray s 0 0 (s_A G.2.2)) (F0 m pc ls [.int r]) := fun _ _ _ _ _ _ hd hp S => ret_i C hr hlocks hd hp S
  have hl := lv_entry ([.ref (G.2.2 + 0), .int x1]) (n := 2) (Nat.le_of_ble_eq_true rfl)
  rw [lg_entry_eq]
  generalize (lg_sl ([.ref (G.2.2 + 0), .int x1]) ++ List.replicate (2 - (lg_sl ([.ref (G.2.2 + 0), .int x1])).length) Slot.unset).toArray = ls at hl ⊢
  have hl : lv_has ls 2 [(0, .ref (G.2.2 + 0)), (1, .int x1)] := hl
  unfold wpX6_normal at h
  refine lv_iload_n C.1 C.2.1 dX6_normal_0 rfl (lv_at hl 1 rfl) ?_
  refine lv_if_ge (tgt := 6) C.1 C.2.1 dX6_normal_1 (by decide) (fun c1 => ?_) (fun c1 => ?_)
  · replace h := h.1 c1
    refine lv_aload_n C.1 C.2.1 dX6_normal_6 rfl (lv_at hl 0 rfl) ?_
    refine g_X6_6 C fl_X6_44 kd_0 S fn_0_6 dX6_normal_7 ?_
    refine lv_aload_n C.1 C.2.1 dX6_normal_10 rfl (lv_at hl 0 rfl) ?_
    refine g_X6_2 C fl_X6_22 kd_0 S fn_0_2 dX6_normal_11 ?_
    refine lv_aload_n C.1 C.2.1 dX6_normal_14 rfl (lv_at hl 0 rfl) ?_
    refine g_X6_0 C fl_X6_10 kd_0 S fn_0_0 dX6_normal_15 ?_
    refine k_v (r_VN (As := [.ref (G.2.2 + 5), .ref (G.2.2 + 1)]) (rest := []) C hml (c_X5_learn l G σ _ h) kM_X5_learn im_X5_learn se_X5_learn nm_X6_164 ⟨rfl, rfl⟩ ⟨Nat.le_of_ble_eq_true rfl, Nat.le_of_ble_eq_true rfl⟩ hcs S.v kd_90 (by decide) (T := TX5) (N := 8) rfl rfl hl.1 rfl (Nat.le_of_ble_eq_true rfl) dX6_normal_18) S (fun σ2 H locs h S => ?_)
    refine lv_aload_n C.1 C.2.1 dX6_normal_21 rfl (lv_at hl 0 rfl) ?_
    refine g_X6_6 C fl_X6_44 kd_0 S fn_0_6 dX6_normal_22 ?_
    refine k_i (r_VN (As := []) (rest := []) C hml (c_X5_exists l G σ2 _ h) kM_X5_exists im_X5_exists se_X5_exists nm_X6_168 ⟨rfl, rfl⟩ ⟨Nat.le_of_ble_eq_true rfl, Nat.le_of_ble_eq_true rfl⟩ hcs S.v kd_90 (by decide) (T := TX5) (N := 8) rfl rfl hl.1 rfl (Nat.le_of_ble_eq_true rfl) dX6_normal_25) S (fun r4 σ3 H locs h S => ?_)
    refine lv_if_ne (tgt := 34) C.1 C.2.1 dX6_normal_28 (by decide) (fun c5 => ?_) (fun c5 => ?_)
    · replace h := h.1 c5
      refine lv_aload_n C.1 C.2.1 dX6_normal_34 rfl (lv_at hl 0 rfl) ?_
      refine k_v (r_V (As := []) (rest := []) C hml (c_X6_formNormal l G σ3 _ h) kM_X6_formNormal im_X6_formNormal se_X6_formNormal ml_X6_204 ⟨rfl, rfl⟩ ⟨Nat.le_of_ble_eq_true rfl, Nat.le_of_ble_eq_true rfl⟩ hcs S.v kd_0 (by decide) (T := TX6) (N := 8) rfl rfl hl.1 rfl (Nat.le_of_ble_eq_true rfl) dX6_normal_35) S (fun σ6 H locs h S => ?_)
      refine lv_aload_n C.1 C.2.1 dX6_normal_38 rfl (lv_at hl 0 rfl) ?_
      refine g_X6_1 C fl_X6_16 kd_0 S fn_0_1 dX6_normal_39 ?_
      refine lv_iload_n C.1 C.2.1 dX6_normal_42 rfl (lv_at hl 1 rfl) ?_
      refine k_i (r_VN (As := [.int x1]) (rest := []) C hml (c_X0_at l G 3 x1 σ6 _ kd_3 h) kM_X0_at im_X0_at se_X0_at nm_X6_207 ⟨rfl, rfl⟩ ⟨Nat.le_of_ble_eq_true rfl, Nat.le_of_ble_eq_true rfl⟩ hcs S.v kd_3 (by decide) (T := TX0) (N := 2) rfl rfl hl.1 rfl (Nat.le_of_ble_eq_true rfl) dX6_normal_43) S (fun r8 σ7 H locs h S => ?_)
      exact hR _ _ _ _ _ _ dX6_normal_46 h S
    · replace h := h.2 c5
      refine lv_bipush (v := (-2 : Int32)) C.1 C.2.1 dX6_normal_31 (by decide) ?_
      exact hR _ _ _ _ _ _ dX6_normal_33 h S
  · replace h := h.2 c1
    refine lv_iconst (v := (-1 : Int32)) C.1 C.2.1 dX6_normal_4 (by decide) ?_
    exact hR _ _ _ _ _ _ dX6_normal_5 h S
end M6
