section M11
variable {p : Program} {l : Launch} {e : Env} {R : Room} {s : State} {m : MethodId} {args : Array Value} {below : List Frame} {meth : Method} {c : Code} {H0 : Heap} {cells slots : Nat} {Q : State → Prop} {G : s_G}
/-! X7_normal -/
abbrev rm_X7_normal : Room := { frames := 7, cells := 0, slots := 0, locals := 164 }
def wpX7_normal (x1 : Int32) (σ : Sg) (post : Int32 → Sg → Prop) : Prop := (((0 ≤ x1) → wpX7_layReading σ (fun r3 σ2 => (((¬ r3 = (-9 : Int32)) → wpX7_layForm r3 σ2 (fun r6 σ5 => (((r6 ≤ x1) → post ((-9 : Int32)) σ5) ∧ ((¬ r6 ≤ x1) → (vp_in x1 200 ∧ post ((σ5.1 128 (x1).toNatClampNeg)) σ5))))) ∧ ((r3 = (-9 : Int32)) → post ((-2 : Int32)) σ2)))) ∧ ((¬ 0 ≤ x1) → post ((-1 : Int32)) σ))
theorem kM_X7_normal : s_M yX7_normal cX7_normal 3 (some .int) 1 := ⟨co_X7_normal, in_X7, by decide, by decide, by decide +kernel⟩
set_option maxHeartbeats 4000000 in
set_option maxRecDepth 100000 in
theorem c_X7_normal (l : Launch) (G : s_G) (x1 : Int32) (σ : Sg) (post : Int32 → Sg → Prop) (h : wpX7_normal x1 σ post) : Met l yX7_normal (wsU yX7_normal cX7_normal 3 (some .int)) rm_X7_normal (va_Pc [.ref (G.2.2 + 117), .int x1] (s_Pre G σ)) (va_Qi post (s_B G) (s_A G.2.2)) 0 0 (s_A G.2.2) := by
  refine Met.ofW (cc := cX7_normal) (maxL := 3) (ret := (some .int)) (by decide) rfl ?_
  intro p e s m args below meth c s₁ B hml hv
  obtain ⟨rfl, hP, hrok, hK, hN⟩ := hv
  have C : s_C G p s (([.ref (G.2.2 + 117), .int x1] : List Value).toArray) m c RX7 cX7_normal := ⟨B.exec, B.bytes, findClass_of_methodNamed B.named, fun w hw => atoms_spec (ws := wsU yX7_normal cX7_normal 3 (some .int)) B.pre w (List.mem_cons_of_mem _ hw), hK, hN⟩
  have hr := B.returns
  have hlocks := B.notSynchronized
  have S : s_St G σ s.heap s.heap [] := ⟨hP, va_S.rf, hrok⟩
  have hcs : 0 ≤ (rm_X7_normal).cells ∧ 0 ≤ (rm_X7_normal).slots := ⟨Nat.le_refl 0, Nat.le_refl 0⟩
  have hR : ∀ (r : Int32) (σ1 : Sg) (H : Heap) (locs : List Loc) (pc : Nat) (ls : Array Slot), decode cX7_normal pc = .ok (.ireturn, 1) → post r σ1 → s_St G σ1 s.heap H locs → W p l e rm_X7_normal s m ([.ref (G.2.2 + 117), .int x1] : List Value).toArray below meth c H locs 0 0 (MQ below (va_Qi post (s_B G) (s_A G.2.2)) ([.ref (G.2.2 + 117), .int x1] : List Value).toArray s 0 0 (s_A G.2.2)) (F0 m pc ls [.int r]) := fun _ _ _ _ _ _ hd hp S => ret_i C hr hlocks hd hp S
  have hl := lv_entry ([.ref (G.2.2 + 117), .int x1]) (n := 3) (Nat.le_of_ble_eq_true rfl)
  rw [lg_entry_eq]
  generalize (lg_sl ([.ref (G.2.2 + 117), .int x1]) ++ List.replicate (3 - (lg_sl ([.ref (G.2.2 + 117), .int x1])).length) Slot.unset).toArray = ls at hl ⊢
  have hl : lv_has ls 3 [(0, .ref (G.2.2 + 117)), (1, .int x1)] := hl
  unfold wpX7_normal at h
  refine lv_iload_n C.1 C.2.1 dX7_normal_0 rfl (lv_at hl 1 rfl) ?_
  refine lv_if_ge (tgt := 6) C.1 C.2.1 dX7_normal_1 (by decide) (fun c1 => ?_) (fun c1 => ?_)
  · replace h := h.1 c1
    refine lv_aload_n C.1 C.2.1 dX7_normal_6 rfl (lv_at hl 0 rfl) ?_
    refine k_i (r_V (As := []) (rest := []) C hml (c_X7_layReading l G σ _ h) kM_X7_layReading im_X7_layReading se_X7_layReading ml_X7_165 ⟨rfl, rfl⟩ ⟨Nat.le_of_ble_eq_true rfl, Nat.le_of_ble_eq_true rfl⟩ hcs S kd_117 (by decide) (T := TX7) (N := 17) rfl rfl hl.1 rfl (Nat.le_of_ble_eq_true rfl) dX7_normal_7) S (fun r3 σ2 H locs h S => ?_)
    refine lv_istore_n (lv' := [(2, .int r3), (0, .ref (G.2.2 + 117)), (1, .int x1)]) C.1 C.2.1 dX7_normal_10 rfl hl (by decide) rfl (fun ls hl => ?_)
    refine lv_iload_n C.1 C.2.1 dX7_normal_11 rfl (lv_at hl 0 rfl) ?_
    refine lv_bipush (v := (-9 : Int32)) C.1 C.2.1 dX7_normal_12 (by decide) ?_
    refine lv_icmp_ne (tgt := 20) C.1 C.2.1 dX7_normal_14 (by decide) (fun c4 => ?_) (fun c4 => ?_)
    · replace h := h.1 c4
      refine lv_iload_n C.1 C.2.1 dX7_normal_20 rfl (lv_at hl 2 rfl) ?_
      refine lv_aload_n C.1 C.2.1 dX7_normal_21 rfl (lv_at hl 1 rfl) ?_
      refine lv_iload_n C.1 C.2.1 dX7_normal_22 rfl (lv_at hl 0 rfl) ?_
      refine k_i (r_V (As := [.int r3]) (rest := [.int x1]) C hml (c_X7_layForm l G r3 σ2 _ h) kM_X7_layForm im_X7_layForm se_X7_layForm ml_X7_175 ⟨rfl, rfl⟩ ⟨Nat.le_of_ble_eq_true rfl, Nat.le_of_ble_eq_true rfl⟩ hcs S kd_117 (by decide) (T := TX7) (N := 17) rfl rfl hl.1 rfl (Nat.le_of_ble_eq_true rfl) dX7_normal_23) S (fun r6 σ5 H locs h S => ?_)
      refine lv_icmp_ge (tgt := 38) C.1 C.2.1 dX7_normal_26 (by decide) (fun c7 => ?_) (fun c7 => ?_)
      · replace h := h.1 c7
        refine lv_bipush (v := (-9 : Int32)) C.1 C.2.1 dX7_normal_38 (by decide) ?_
        exact hR _ _ _ _ _ _ dX7_normal_40 h S
      · replace h := h.2 c7
        refine lv_aload_n C.1 C.2.1 dX7_normal_29 rfl (lv_at hl 1 rfl) ?_
        refine g_X7_14 C fl_X7_42 kd_117 S fn_117_14 dX7_normal_30 ?_
        refine lv_iload_n C.1 C.2.1 dX7_normal_33 rfl (lv_at hl 2 rfl) ?_
        refine a_ild C kd_128 S ln_128 h.1 dX7_normal_34 ?_
        replace h := h.2
        refine lv_goto (tgt := 40) C.1 C.2.1 dX7_normal_35 (by decide) ?_
        exact hR _ _ _ _ _ _ dX7_normal_40 h S
    · replace h := h.2 c4
      refine lv_bipush (v := (-2 : Int32)) C.1 C.2.1 dX7_normal_17 (by decide) ?_
      exact hR _ _ _ _ _ _ dX7_normal_19 h S
  · replace h := h.2 c1
    refine lv_iconst (v := (-1 : Int32)) C.1 C.2.1 dX7_normal_4 (by decide) ?_
    exact hR _ _ _ _ _ _ dX7_normal_5 h S
/-! X7_occurrence -/
abbrev rm_X7_occurrence : Room := { frames := 7, cells := 0, slots := 0, locals := 164 }
def wpX7_occurrence (x1 : Int32) (x2 : Int32) (σ : Sg) (post : Int32 → Sg → Prop) : Prop := (((x1 < 0) → post ((-1 : Int32)) σ) ∧ ((¬ x1 < 0) → wpX7_isIn x2 ((0 : Int32)) ((2 : Int32)) σ (fun r3 σ2 => (((¬ r3 = 0) → wpX7_layReading σ2 (fun r6 σ5 => (((¬ r6 = (-9 : Int32)) → (((x1 < r6) → (((¬ x2 = 0) → (((¬ x2 = (1 : Int32)) → (vp_in x1 20 ∧ post ((σ5.1 127 (x1).toNatClampNeg)) σ5)) ∧ ((x2 = (1 : Int32)) → (vp_in x1 20 ∧ post ((σ5.1 126 (x1).toNatClampNeg)) σ5)))) ∧ ((x2 = 0) → (vp_in x1 20 ∧ post ((σ5.1 125 (x1).toNatClampNeg)) σ5)))) ∧ ((¬ x1 < r6) → post ((-9 : Int32)) σ5))) ∧ ((r6 = (-9 : Int32)) → post ((-2 : Int32)) σ5)))) ∧ ((r3 = 0) → post ((-1 : Int32)) σ2)))))
theorem kM_X7_occurrence : s_M yX7_occurrence cX7_occurrence 4 (some .int) 2 := ⟨co_X7_occurrence, in_X7, by decide, by decide, by decide +kernel⟩
set_option maxHeartbeats 4000000 in
set_option maxRecDepth 100000 in
theorem c_X7_occurrence (l : Launch) (G : s_G) (x1 : Int32) (x2 : Int32) (σ : Sg) (post : Int32 → Sg → Prop) (h : wpX7_occurrence x1 x2 σ post) : Met l yX7_occurrence (wsU yX7_occurrence cX7_occurrence 4 (some .int)) rm_X7_occurrence (va_Pc [.ref (G.2.2 + 117), .int x1, .int x2] (s_Pre G σ)) (va_Qi post (s_B G) (s_A G.2.2)) 0 0 (s_A G.2.2) := by
  refine Met.ofW (cc := cX7_occurrence) (maxL := 4) (ret := (some .int)) (by decide) rfl ?_
  intro p e s m args below meth c s₁ B hml hv
  obtain ⟨rfl, hP, hrok, hK, hN⟩ := hv
  have C : s_C G p s (([.ref (G.2.2 + 117), .int x1, .int x2] : List Value).toArray) m c RX7 cX7_occurrence := ⟨B.exec, B.bytes, findClass_of_methodNamed B.named, fun w hw => atoms_spec (ws := wsU yX7_occurrence cX7_occurrence 4 (some .int)) B.pre w (List.mem_cons_of_mem _ hw), hK, hN⟩
  have hr := B.returns
  have hlocks := B.notSynchronized
  have S : s_St G σ s.heap s.heap [] := ⟨hP, va_S.rf, hrok⟩
  have hcs : 0 ≤ (rm_X7_occurrence).cells ∧ 0 ≤ (rm_X7_occurrence).slots := ⟨Nat.le_refl 0, Nat.le_refl 0⟩
  have hR : ∀ (r : Int32) (σ1 : Sg) (H : Heap) (locs : List Loc) (pc : Nat) (ls : Array Slot), decode cX7_occurrence pc = .ok (.ireturn, 1) → post r σ1 → s_St G σ1 s.heap H locs → W p l e rm_X7_occurrence s m ([.ref (G.2.2 + 117), .int x1, .int x2] : List Value).toArray below meth c H locs 0 0 (MQ below (va_Qi post (s_B G) (s_A G.2.2)) ([.ref (G.2.2 + 117), .int x1, .int x2] : List Value).toArray s 0 0 (s_A G.2.2)) (F0 m pc ls [.int r]) := fun _ _ _ _ _ _ hd hp S => ret_i C hr hlocks hd hp S
  have hl := lv_entry ([.ref (G.2.2 + 117), .int x1, .int x2]) (n := 4) (Nat.le_of_ble_eq_true rfl)
  rw [lg_entry_eq]
  generalize (lg_sl ([.ref (G.2.2 + 117), .int x1, .int x2]) ++ List.replicate (4 - (lg_sl ([.ref (G.2.2 + 117), .int x1, .int x2])).length) Slot.unset).toArray = ls at hl ⊢
  have hl : lv_has ls 4 [(0, .ref (G.2.2 + 117)), (1, .int x1), (2, .int x2)] := hl
  unfold wpX7_occurrence at h
  refine lv_iload_n C.1 C.2.1 dX7_occurrence_0 rfl (lv_at hl 1 rfl) ?_
  refine lv_if_lt (tgt := 13) C.1 C.2.1 dX7_occurrence_1 (by decide) (fun c1 => ?_) (fun c1 => ?_)
  · replace h := h.1 c1
    refine lv_iconst (v := (-1 : Int32)) C.1 C.2.1 dX7_occurrence_13 (by decide) ?_
    exact hR _ _ _ _ _ _ dX7_occurrence_14 h S
  · replace h := h.2 c1
    refine lv_iload_n C.1 C.2.1 dX7_occurrence_4 rfl (lv_at hl 2 rfl) ?_
    refine lv_iconst (v := (0 : Int32)) C.1 C.2.1 dX7_occurrence_5 (by decide) ?_
    refine lv_iconst (v := (2 : Int32)) C.1 C.2.1 dX7_occurrence_6 (by decide) ?_
    refine k_i (r_S (As := [.int x2, .int (0 : Int32), .int (2 : Int32)]) (rest := []) C hml (c_X7_isIn l G x2 ((0 : Int32)) ((2 : Int32)) σ _ h) kM_X7_isIn st_X7_isIn ml_X7_60 ⟨rfl, rfl⟩ ⟨Nat.le_of_ble_eq_true rfl, Nat.le_of_ble_eq_true rfl⟩ hcs S rfl hl.1 rfl (Nat.le_of_ble_eq_true rfl) dX7_occurrence_7) S (fun r3 σ2 H locs h S => ?_)
    refine lv_if_ne (tgt := 15) C.1 C.2.1 dX7_occurrence_10 (by decide) (fun c4 => ?_) (fun c4 => ?_)
    · replace h := h.1 c4
      refine lv_aload_n C.1 C.2.1 dX7_occurrence_15 rfl (lv_at hl 0 rfl) ?_
      refine k_i (r_V (As := []) (rest := []) C hml (c_X7_layReading l G σ2 _ h) kM_X7_layReading im_X7_layReading se_X7_layReading ml_X7_165 ⟨rfl, rfl⟩ ⟨Nat.le_of_ble_eq_true rfl, Nat.le_of_ble_eq_true rfl⟩ hcs S kd_117 (by decide) (T := TX7) (N := 17) rfl rfl hl.1 rfl (Nat.le_of_ble_eq_true rfl) dX7_occurrence_16) S (fun r6 σ5 H locs h S => ?_)
      refine lv_istore_n (lv' := [(3, .int r6), (0, .ref (G.2.2 + 117)), (1, .int x1), (2, .int x2)]) C.1 C.2.1 dX7_occurrence_19 rfl hl (by decide) rfl (fun ls hl => ?_)
      refine lv_iload_n C.1 C.2.1 dX7_occurrence_20 rfl (lv_at hl 0 rfl) ?_
      refine lv_bipush (v := (-9 : Int32)) C.1 C.2.1 dX7_occurrence_21 (by decide) ?_
      refine lv_icmp_ne (tgt := 29) C.1 C.2.1 dX7_occurrence_23 (by decide) (fun c7 => ?_) (fun c7 => ?_)
      · replace h := h.1 c7
        refine lv_iload_n C.1 C.2.1 dX7_occurrence_29 rfl (lv_at hl 2 rfl) ?_
        refine lv_iload_n C.1 C.2.1 dX7_occurrence_30 rfl (lv_at hl 0 rfl) ?_
        refine lv_icmp_lt (tgt := 37) C.1 C.2.1 dX7_occurrence_31 (by decide) (fun c8 => ?_) (fun c8 => ?_)
        · replace h := h.1 c8
          refine lv_iload_n C.1 C.2.1 dX7_occurrence_37 rfl (lv_at hl 3 rfl) ?_
          refine lv_if_ne (tgt := 50) C.1 C.2.1 dX7_occurrence_38 (by decide) (fun c9 => ?_) (fun c9 => ?_)
          · replace h := h.1 c9
            refine lv_iload_n C.1 C.2.1 dX7_occurrence_50 rfl (lv_at hl 3 rfl) ?_
            refine lv_iconst (v := (1 : Int32)) C.1 C.2.1 dX7_occurrence_51 (by decide) ?_
            refine lv_icmp_ne (tgt := 64) C.1 C.2.1 dX7_occurrence_52 (by decide) (fun c10 => ?_) (fun c10 => ?_)
            · replace h := h.1 c10
              refine lv_aload_n C.1 C.2.1 dX7_occurrence_64 rfl (lv_at hl 1 rfl) ?_
              refine g_X7_13 C fl_X7_39 kd_117 S fn_117_13 dX7_occurrence_65 ?_
              refine lv_iload_n C.1 C.2.1 dX7_occurrence_68 rfl (lv_at hl 2 rfl) ?_
              refine a_ild C kd_127 S ln_127 h.1 dX7_occurrence_69 ?_
              replace h := h.2
              exact hR _ _ _ _ _ _ dX7_occurrence_70 h S
            · replace h := h.2 c10
              refine lv_aload_n C.1 C.2.1 dX7_occurrence_55 rfl (lv_at hl 1 rfl) ?_
              refine g_X7_12 C fl_X7_36 kd_117 S fn_117_12 dX7_occurrence_56 ?_
              refine lv_iload_n C.1 C.2.1 dX7_occurrence_59 rfl (lv_at hl 2 rfl) ?_
              refine a_ild C kd_126 S ln_126 h.1 dX7_occurrence_60 ?_
              replace h := h.2
              refine lv_goto (tgt := 70) C.1 C.2.1 dX7_occurrence_61 (by decide) ?_
              exact hR _ _ _ _ _ _ dX7_occurrence_70 h S
          · replace h := h.2 c9
            refine lv_aload_n C.1 C.2.1 dX7_occurrence_41 rfl (lv_at hl 1 rfl) ?_
            refine g_X7_11 C fl_X7_33 kd_117 S fn_117_11 dX7_occurrence_42 ?_
            refine lv_iload_n C.1 C.2.1 dX7_occurrence_45 rfl (lv_at hl 2 rfl) ?_
            refine a_ild C kd_125 S ln_125 h.1 dX7_occurrence_46 ?_
            replace h := h.2
            refine lv_goto (tgt := 70) C.1 C.2.1 dX7_occurrence_47 (by decide) ?_
            exact hR _ _ _ _ _ _ dX7_occurrence_70 h S
        · replace h := h.2 c8
          refine lv_bipush (v := (-9 : Int32)) C.1 C.2.1 dX7_occurrence_34 (by decide) ?_
          exact hR _ _ _ _ _ _ dX7_occurrence_36 h S
      · replace h := h.2 c7
        refine lv_bipush (v := (-2 : Int32)) C.1 C.2.1 dX7_occurrence_26 (by decide) ?_
        exact hR _ _ _ _ _ _ dX7_occurrence_28 h S
    · replace h := h.2 c4
      refine lv_iconst (v := (-1 : Int32)) C.1 C.2.1 dX7_occurrence_13 (by decide) ?_
      exact hR _ _ _ _ _ _ dX7_occurrence_14 h S
/-! X7_order -/
abbrev rm_X7_order : Room := { frames := 3, cells := 0, slots := 0, locals := 66 }
def BX7_order_102 (x1 : Int64) (x3 : Int32) (K73 : Int64 → Int32 → Int32 → Int32 → Sg → Prop) (post : Int32 → Sg → Prop) (x4 : Int64) (x6 : Int32) (x7 : Int32) (x8 : Int32) (σ : Sg) : Prop := wpX7_may x6 x8 σ (fun r2 σ1 => (((r2 = 0) → K73 ((x4 - (0 : Int64))) x6 x7 ((x8 + 1)) σ1) ∧ ((¬ r2 = 0) → wpX7_with x6 x8 σ1 (fun r5 σ4 => (vp_in r5 4096 ∧ K73 ((x4 - (σ4.2.1 129 (r5).toNatClampNeg))) x6 x7 ((x8 + 1)) σ4)))))
def BX7_order_73 (x1 : Int64) (x3 : Int32) (K39 : Int64 → Int32 → Int32 → Sg → Prop) (post : Int32 → Sg → Prop) : Nat → Int64 → Int32 → Int32 → Int32 → Sg → Prop
  | 0, _, _, _, _, _ => False
  | n + 1, x4, x6, x7, x8, σ => wpX7_may x6 x8 σ (fun r7 σ6 => (((r7 = 0) → BX7_order_102 x1 x3 (BX7_order_73 x1 x3 K39 post n) post x4 x6 x7 x8 σ6) ∧ ((¬ r7 = 0) → wpX7_with x6 x8 σ6 (fun r10 σ9 => (vp_in r10 4096 ∧ ((((lg_cmp x4 (σ9.2.1 129 (r10).toNatClampNeg)) < 0) → (((¬ x7 = x3) → wpX7_with x6 x8 σ9 (fun r14 σ13 => K39 x4 r14 ((x7 + 1)) σ13)) ∧ ((x7 = x3) → post x8 σ9))) ∧ ((¬ (lg_cmp x4 (σ9.2.1 129 (r10).toNatClampNeg)) < 0) → BX7_order_102 x1 x3 (BX7_order_73 x1 x3 K39 post n) post x4 x6 x7 x8 σ9)))))))
def BX7_order_39 (x1 : Int64) (x3 : Int32) (post : Int32 → Sg → Prop) : Nat → Int64 → Int32 → Int32 → Sg → Prop
  | 0, _, _, _, _ => False
  | n + 1, x4, x6, x7, σ => (((x3 < x7) → post ((-9 : Int32)) σ) ∧ ((¬ x3 < x7) → wpX7_isWhole x6 σ (fun r17 σ16 => (((r17 = 0) → ∃ nf, BX7_order_73 x1 x3 (BX7_order_39 x1 x3 post n) post nf x4 x6 x7 ((0 : Int32)) σ16) ∧ ((¬ r17 = 0) → (((¬ (lg_cmp x4 (0 : Int64)) = 0) → ∃ nf, BX7_order_73 x1 x3 (BX7_order_39 x1 x3 post n) post nf ((x4 - (1 : Int64))) x6 x7 ((0 : Int32)) σ16) ∧ (((lg_cmp x4 (0 : Int64)) = 0) → post ((-9 : Int32)) σ16)))))))
def wpX7_order (x1 : Int64) (x3 : Int32) (σ : Sg) (post : Int32 → Sg → Prop) : Prop := ((((lg_cmp x1 (0 : Int64)) < 0) → post ((-1 : Int32)) σ) ∧ ((¬ (lg_cmp x1 (0 : Int64)) < 0) → (((0 ≤ x3) → wpX7_layOrders σ (fun σ22 => (vp_in ((0 : Int32)) 4096 ∧ ((((lg_cmp x1 (σ22.2.1 129 ((0 : Int32)).toNatClampNeg)) < 0) → ∃ nf, BX7_order_39 x1 x3 post nf x1 ((0 : Int32)) ((0 : Int32)) σ22) ∧ ((¬ (lg_cmp x1 (σ22.2.1 129 ((0 : Int32)).toNatClampNeg)) < 0) → post ((-9 : Int32)) σ22))))) ∧ ((¬ 0 ≤ x3) → post ((-1 : Int32)) σ))))
set_option maxHeartbeats 4000000 in
set_option maxRecDepth 100000 in
theorem TX7_order_102 (C : s_C G p s args m c RX7 cX7_order) (hml : c.maxLocals = 9) (hcs : cells ≤ (rm_X7_order).cells ∧ slots ≤ (rm_X7_order).slots) {x1 : Int64} {x3 : Int32} {K73 : Int64 → Int32 → Int32 → Int32 → Sg → Prop} {post : Int32 → Sg → Prop} (hR : ∀ (r : Int32) (σ1 : Sg) (H : Heap) (locs : List Loc) (pc : Nat) (ls : Array Slot), decode cX7_order pc = .ok (.ireturn, 1) → post r σ1 → s_St G σ1 H0 H locs → W p l e rm_X7_order s m args below meth c H locs cells slots Q (F0 m pc ls [.int r])) (hK73 : ∀ (x4 : Int64) (x6 : Int32) (x7 : Int32) (x8 : Int32), ∀ (σ : Sg) (H : Heap) (locs : List Loc) (ls : Array Slot), s_St G σ H0 H locs → lv_has ls 9 [(0, .ref (G.2.2 + 117)), (3, .int x3), (4, .long x4), (6, .int x6), (7, .int x7), (8, .int x8)] → K73 x4 x6 x7 x8 σ → W p l e rm_X7_order s m args below meth c H locs cells slots Q (F0 m 73 ls [])) : ∀ (x4 : Int64) (x6 : Int32) (x7 : Int32) (x8 : Int32), ∀ {σ : Sg} {H : Heap} {locs : List Loc} {ls : Array Slot}, s_St G σ H0 H locs → lv_has ls 9 [(0, .ref (G.2.2 + 117)), (3, .int x3), (4, .long x4), (6, .int x6), (7, .int x7), (8, .int x8)] → BX7_order_102 x1 x3 K73 post x4 x6 x7 x8 σ → W p l e rm_X7_order s m args below meth c H locs cells slots Q (F0 m 102 ls []) := by
  intro x4 x6 x7 x8  σ H locs ls S hl h
  unfold BX7_order_102 at h
  refine lv_lload C.1 C.2.1 dX7_order_102 (lv_at hl 2 rfl) ?_
  refine lv_aload_n C.1 C.2.1 dX7_order_104 rfl (lv_at hl 0 rfl) ?_
  refine lv_iload C.1 C.2.1 dX7_order_105 (lv_at hl 3 rfl) ?_
  refine lv_iload C.1 C.2.1 dX7_order_107 (lv_at hl 5 rfl) ?_
  refine k_i (r_V (As := [.int x6, .int x8]) (rest := [.long x4]) C hml (c_X7_may l G x6 x8 σ _ h) kM_X7_may im_X7_may se_X7_may ml_X7_128 ⟨rfl, rfl⟩ ⟨Nat.le_of_ble_eq_true rfl, Nat.le_of_ble_eq_true rfl⟩ hcs S kd_117 (by decide) (T := TX7) (N := 17) rfl rfl hl.1 rfl (Nat.le_of_ble_eq_true rfl) dX7_order_109) S (fun r2 σ1 H locs h S => ?_)
  refine lv_if_eq (tgt := 130) C.1 C.2.1 dX7_order_112 (by decide) (fun c3 => ?_) (fun c3 => ?_)
  · replace h := h.1 c3
    refine lv_lconst (v := (0 : Int64)) C.1 C.2.1 dX7_order_130 (by decide) ?_
    refine lv_lsub C.1 C.2.1 dX7_order_131 ?_
    refine lv_lstore (lv' := [(4, .long (x4 - (0 : Int64))), (0, .ref (G.2.2 + 117)), (3, .int x3), (6, .int x6), (7, .int x7), (8, .int x8)]) C.1 C.2.1 dX7_order_132 hl (by decide) rfl (fun ls hl => ?_)
    refine lv_iinc (v := (x8 + 1)) (lv' := [(8, .int (x8 + 1)), (4, .long (x4 - (0 : Int64))), (0, .ref (G.2.2 + 117)), (3, .int x3), (6, .int x6), (7, .int x7)]) C.1 C.2.1 dX7_order_134 hl (k := 5) rfl rfl (by decide) rfl (fun ls hl => ?_)
    refine lv_goto (tgt := 73) C.1 C.2.1 dX7_order_137 (by decide) ?_
    exact hK73 ((x4 - (0 : Int64))) x6 x7 ((x8 + 1)) _ _ _ _ S (lv_sub hl [2, 3, 1, 4, 5, 0] rfl) h
  · replace h := h.2 c3
    refine lv_aload_n C.1 C.2.1 dX7_order_115 rfl (lv_at hl 0 rfl) ?_
    refine g_X7_15 C fl_X7_45 kd_117 S fn_117_15 dX7_order_116 ?_
    refine lv_iload C.1 C.2.1 dX7_order_119 (lv_at hl 3 rfl) ?_
    refine lv_iload C.1 C.2.1 dX7_order_121 (lv_at hl 5 rfl) ?_
    refine k_i (r_S (As := [.int x6, .int x8]) (rest := [.ref (G.2.2 + 129), .long x4]) C hml (c_X7_with l G x6 x8 σ1 _ h) kM_X7_with st_X7_with ml_X7_143 ⟨rfl, rfl⟩ ⟨Nat.le_of_ble_eq_true rfl, Nat.le_of_ble_eq_true rfl⟩ hcs S rfl hl.1 rfl (Nat.le_of_ble_eq_true rfl) dX7_order_123) S (fun r5 σ4 H locs h S => ?_)
    refine a_lld C kd_129 S ln_129 h.1 dX7_order_126 ?_
    replace h := h.2
    refine lv_goto (tgt := 131) C.1 C.2.1 dX7_order_127 (by decide) ?_
    refine lv_lsub C.1 C.2.1 dX7_order_131 ?_
    refine lv_lstore (lv' := [(4, .long (x4 - (σ4.2.1 129 (r5).toNatClampNeg))), (0, .ref (G.2.2 + 117)), (3, .int x3), (6, .int x6), (7, .int x7), (8, .int x8)]) C.1 C.2.1 dX7_order_132 hl (by decide) rfl (fun ls hl => ?_)
    refine lv_iinc (v := (x8 + 1)) (lv' := [(8, .int (x8 + 1)), (4, .long (x4 - (σ4.2.1 129 (r5).toNatClampNeg))), (0, .ref (G.2.2 + 117)), (3, .int x3), (6, .int x6), (7, .int x7)]) C.1 C.2.1 dX7_order_134 hl (k := 5) rfl rfl (by decide) rfl (fun ls hl => ?_)
    refine lv_goto (tgt := 73) C.1 C.2.1 dX7_order_137 (by decide) ?_
    exact hK73 ((x4 - (σ4.2.1 129 (r5).toNatClampNeg))) x6 x7 ((x8 + 1)) _ _ _ _ S (lv_sub hl [2, 3, 1, 4, 5, 0] rfl) h
set_option maxHeartbeats 4000000 in
set_option maxRecDepth 100000 in
theorem TX7_order_73 (C : s_C G p s args m c RX7 cX7_order) (hml : c.maxLocals = 9) (hcs : cells ≤ (rm_X7_order).cells ∧ slots ≤ (rm_X7_order).slots) {x1 : Int64} {x3 : Int32} {K39 : Int64 → Int32 → Int32 → Sg → Prop} {post : Int32 → Sg → Prop} (hR : ∀ (r : Int32) (σ1 : Sg) (H : Heap) (locs : List Loc) (pc : Nat) (ls : Array Slot), decode cX7_order pc = .ok (.ireturn, 1) → post r σ1 → s_St G σ1 H0 H locs → W p l e rm_X7_order s m args below meth c H locs cells slots Q (F0 m pc ls [.int r])) (hK39 : ∀ (x4 : Int64) (x6 : Int32) (x7 : Int32), ∀ (σ : Sg) (H : Heap) (locs : List Loc) (ls : Array Slot), s_St G σ H0 H locs → lv_has ls 9 [(0, .ref (G.2.2 + 117)), (3, .int x3), (4, .long x4), (6, .int x6), (7, .int x7)] → K39 x4 x6 x7 σ → W p l e rm_X7_order s m args below meth c H locs cells slots Q (F0 m 39 ls [])) : ∀ (n : Nat) (x4 : Int64) (x6 : Int32) (x7 : Int32) (x8 : Int32), ∀ {σ : Sg} {H : Heap} {locs : List Loc} {ls : Array Slot}, s_St G σ H0 H locs → lv_has ls 9 [(0, .ref (G.2.2 + 117)), (3, .int x3), (4, .long x4), (6, .int x6), (7, .int x7), (8, .int x8)] → BX7_order_73 x1 x3 K39 post n x4 x6 x7 x8 σ → W p l e rm_X7_order s m args below meth c H locs cells slots Q (F0 m 73 ls []) := by
  intro n
  induction n with
  | zero =>
    intro x4 x6 x7 x8  σ H locs ls S hl h
    exact absurd h (fun h => h)
  | succ n ih0 =>
    have ih : ∀ (x4 : Int64) (x6 : Int32) (x7 : Int32) (x8 : Int32), ∀ (σ : Sg) (H : Heap) (locs : List Loc) (ls : Array Slot), s_St G σ H0 H locs → lv_has ls 9 [(0, .ref (G.2.2 + 117)), (3, .int x3), (4, .long x4), (6, .int x6), (7, .int x7), (8, .int x8)] → BX7_order_73 x1 x3 K39 post n x4 x6 x7 x8 σ → W p l e rm_X7_order s m args below meth c H locs cells slots Q (F0 m 73 ls []) := fun x4 x6 x7 x8  _ _ _ _ => ih0 x4 x6 x7 x8 
    intro x4 x6 x7 x8  σ H locs ls S hl h
    refine lv_aload_n C.1 C.2.1 dX7_order_73 rfl (lv_at hl 0 rfl) ?_
    refine lv_iload C.1 C.2.1 dX7_order_74 (lv_at hl 3 rfl) ?_
    refine lv_iload C.1 C.2.1 dX7_order_76 (lv_at hl 5 rfl) ?_
    refine k_i (r_V (As := [.int x6, .int x8]) (rest := []) C hml (c_X7_may l G x6 x8 σ _ h) kM_X7_may im_X7_may se_X7_may ml_X7_128 ⟨rfl, rfl⟩ ⟨Nat.le_of_ble_eq_true rfl, Nat.le_of_ble_eq_true rfl⟩ hcs S kd_117 (by decide) (T := TX7) (N := 17) rfl rfl hl.1 rfl (Nat.le_of_ble_eq_true rfl) dX7_order_78) S (fun r7 σ6 H locs h S => ?_)
    refine lv_if_eq (tgt := 102) C.1 C.2.1 dX7_order_81 (by decide) (fun c8 => ?_) (fun c8 => ?_)
    · replace h := h.1 c8
      exact TX7_order_102 C hml hcs hR ih x4 x6 x7 x8 S (lv_sub hl [0, 1, 2, 3, 4, 5] rfl) h
    · replace h := h.2 c8
      refine lv_lload C.1 C.2.1 dX7_order_84 (lv_at hl 2 rfl) ?_
      refine lv_aload_n C.1 C.2.1 dX7_order_86 rfl (lv_at hl 0 rfl) ?_
      refine g_X7_15 C fl_X7_45 kd_117 S fn_117_15 dX7_order_87 ?_
      refine lv_iload C.1 C.2.1 dX7_order_90 (lv_at hl 3 rfl) ?_
      refine lv_iload C.1 C.2.1 dX7_order_92 (lv_at hl 5 rfl) ?_
      refine k_i (r_S (As := [.int x6, .int x8]) (rest := [.ref (G.2.2 + 129), .long x4]) C hml (c_X7_with l G x6 x8 σ6 _ h) kM_X7_with st_X7_with ml_X7_143 ⟨rfl, rfl⟩ ⟨Nat.le_of_ble_eq_true rfl, Nat.le_of_ble_eq_true rfl⟩ hcs S rfl hl.1 rfl (Nat.le_of_ble_eq_true rfl) dX7_order_94) S (fun r10 σ9 H locs h S => ?_)
      refine a_lld C kd_129 S ln_129 h.1 dX7_order_97 ?_
      replace h := h.2
      refine W.lcmp C.1 C.2.1 dX7_order_98 ?_
      refine lv_if_lt (tgt := 140) C.1 C.2.1 dX7_order_99 (by decide) (fun c11 => ?_) (fun c11 => ?_)
      · replace h := h.1 c11
        refine lv_iload C.1 C.2.1 dX7_order_140 (lv_at hl 4 rfl) ?_
        refine lv_iload_n C.1 C.2.1 dX7_order_142 rfl (lv_at hl 1 rfl) ?_
        refine lv_icmp_ne (tgt := 149) C.1 C.2.1 dX7_order_143 (by decide) (fun c12 => ?_) (fun c12 => ?_)
        · replace h := h.1 c12
          refine lv_iload C.1 C.2.1 dX7_order_149 (lv_at hl 3 rfl) ?_
          refine lv_iload C.1 C.2.1 dX7_order_151 (lv_at hl 5 rfl) ?_
          refine k_i (r_S (As := [.int x6, .int x8]) (rest := []) C hml (c_X7_with l G x6 x8 σ9 _ h) kM_X7_with st_X7_with ml_X7_143 ⟨rfl, rfl⟩ ⟨Nat.le_of_ble_eq_true rfl, Nat.le_of_ble_eq_true rfl⟩ hcs S rfl hl.1 rfl (Nat.le_of_ble_eq_true rfl) dX7_order_153) S (fun r14 σ13 H locs h S => ?_)
          refine lv_istore (lv' := [(6, .int r14), (0, .ref (G.2.2 + 117)), (3, .int x3), (4, .long x4), (7, .int x7), (8, .int x8)]) C.1 C.2.1 dX7_order_156 hl (by decide) rfl (fun ls hl => ?_)
          refine lv_iinc (v := (x7 + 1)) (lv' := [(7, .int (x7 + 1)), (6, .int r14), (0, .ref (G.2.2 + 117)), (3, .int x3), (4, .long x4), (8, .int x8)]) C.1 C.2.1 dX7_order_158 hl (k := 4) rfl rfl (by decide) rfl (fun ls hl => ?_)
          refine lv_goto (tgt := 39) C.1 C.2.1 dX7_order_161 (by decide) ?_
          exact hK39 x4 r14 ((x7 + 1)) _ _ _ _ S (lv_sub hl [2, 3, 4, 1, 0] rfl) h
        · replace h := h.2 c12
          refine lv_iload C.1 C.2.1 dX7_order_146 (lv_at hl 5 rfl) ?_
          exact hR _ _ _ _ _ _ dX7_order_148 h S
      · replace h := h.2 c11
        exact TX7_order_102 C hml hcs hR ih x4 x6 x7 x8 S (lv_sub hl [0, 1, 2, 3, 4, 5] rfl) h
set_option maxHeartbeats 4000000 in
set_option maxRecDepth 100000 in
theorem TX7_order_39 (C : s_C G p s args m c RX7 cX7_order) (hml : c.maxLocals = 9) (hcs : cells ≤ (rm_X7_order).cells ∧ slots ≤ (rm_X7_order).slots) {x1 : Int64} {x3 : Int32} {post : Int32 → Sg → Prop} (hR : ∀ (r : Int32) (σ1 : Sg) (H : Heap) (locs : List Loc) (pc : Nat) (ls : Array Slot), decode cX7_order pc = .ok (.ireturn, 1) → post r σ1 → s_St G σ1 H0 H locs → W p l e rm_X7_order s m args below meth c H locs cells slots Q (F0 m pc ls [.int r])) : ∀ (n : Nat) (x4 : Int64) (x6 : Int32) (x7 : Int32), ∀ {σ : Sg} {H : Heap} {locs : List Loc} {ls : Array Slot}, s_St G σ H0 H locs → lv_has ls 9 [(0, .ref (G.2.2 + 117)), (3, .int x3), (4, .long x4), (6, .int x6), (7, .int x7)] → BX7_order_39 x1 x3 post n x4 x6 x7 σ → W p l e rm_X7_order s m args below meth c H locs cells slots Q (F0 m 39 ls []) := by
  intro n
  induction n with
  | zero =>
    intro x4 x6 x7  σ H locs ls S hl h
    exact absurd h (fun h => h)
  | succ n ih0 =>
    have ih : ∀ (x4 : Int64) (x6 : Int32) (x7 : Int32), ∀ (σ : Sg) (H : Heap) (locs : List Loc) (ls : Array Slot), s_St G σ H0 H locs → lv_has ls 9 [(0, .ref (G.2.2 + 117)), (3, .int x3), (4, .long x4), (6, .int x6), (7, .int x7)] → BX7_order_39 x1 x3 post n x4 x6 x7 σ → W p l e rm_X7_order s m args below meth c H locs cells slots Q (F0 m 39 ls []) := fun x4 x6 x7  _ _ _ _ => ih0 x4 x6 x7 
    intro x4 x6 x7  σ H locs ls S hl h
    refine lv_iload C.1 C.2.1 dX7_order_39 (lv_at hl 4 rfl) ?_
    refine lv_iload_n C.1 C.2.1 dX7_order_41 rfl (lv_at hl 1 rfl) ?_
    refine lv_icmp_gt (tgt := 164) C.1 C.2.1 dX7_order_42 (by decide) (fun c15 => ?_) (fun c15 => ?_)
    · replace h := h.1 c15
      refine lv_bipush (v := (-9 : Int32)) C.1 C.2.1 dX7_order_164 (by decide) ?_
      exact hR _ _ _ _ _ _ dX7_order_166 h S
    · replace h := h.2 c15
      refine lv_aload_n C.1 C.2.1 dX7_order_45 rfl (lv_at hl 0 rfl) ?_
      refine lv_iload C.1 C.2.1 dX7_order_46 (lv_at hl 3 rfl) ?_
      refine k_i (r_V (As := [.int x6]) (rest := []) C hml (c_X7_isWhole l G x6 σ _ h) kM_X7_isWhole im_X7_isWhole se_X7_isWhole ml_X7_146 ⟨rfl, rfl⟩ ⟨Nat.le_of_ble_eq_true rfl, Nat.le_of_ble_eq_true rfl⟩ hcs S kd_117 (by decide) (T := TX7) (N := 17) rfl rfl hl.1 rfl (Nat.le_of_ble_eq_true rfl) dX7_order_48) S (fun r17 σ16 H locs h S => ?_)
      refine lv_if_eq (tgt := 70) C.1 C.2.1 dX7_order_51 (by decide) (fun c18 => ?_) (fun c18 => ?_)
      · replace h := h.1 c18
        refine lv_iconst (v := (0 : Int32)) C.1 C.2.1 dX7_order_70 (by decide) ?_
        refine lv_istore (lv' := [(8, .int (0 : Int32)), (0, .ref (G.2.2 + 117)), (3, .int x3), (4, .long x4), (6, .int x6), (7, .int x7)]) C.1 C.2.1 dX7_order_71 hl (by decide) rfl (fun ls hl => ?_)
        obtain ⟨nf, h⟩ := h
        exact TX7_order_73 C hml hcs hR ih nf x4 x6 x7 ((0 : Int32)) S (lv_sub hl [1, 2, 3, 4, 5, 0] rfl) h
      · replace h := h.2 c18
        refine lv_lload C.1 C.2.1 dX7_order_54 (lv_at hl 2 rfl) ?_
        refine lv_lconst (v := (0 : Int64)) C.1 C.2.1 dX7_order_56 (by decide) ?_
        refine W.lcmp C.1 C.2.1 dX7_order_57 ?_
        refine lv_if_ne (tgt := 64) C.1 C.2.1 dX7_order_58 (by decide) (fun c19 => ?_) (fun c19 => ?_)
        · replace h := h.1 c19
          refine lv_lload C.1 C.2.1 dX7_order_64 (lv_at hl 2 rfl) ?_
          refine lv_lconst (v := (1 : Int64)) C.1 C.2.1 dX7_order_66 (by decide) ?_
          refine lv_lsub C.1 C.2.1 dX7_order_67 ?_
          refine lv_lstore (lv' := [(4, .long (x4 - (1 : Int64))), (0, .ref (G.2.2 + 117)), (3, .int x3), (6, .int x6), (7, .int x7)]) C.1 C.2.1 dX7_order_68 hl (by decide) rfl (fun ls hl => ?_)
          refine lv_iconst (v := (0 : Int32)) C.1 C.2.1 dX7_order_70 (by decide) ?_
          refine lv_istore (lv' := [(8, .int (0 : Int32)), (4, .long (x4 - (1 : Int64))), (0, .ref (G.2.2 + 117)), (3, .int x3), (6, .int x6), (7, .int x7)]) C.1 C.2.1 dX7_order_71 hl (by decide) rfl (fun ls hl => ?_)
          obtain ⟨nf, h⟩ := h
          exact TX7_order_73 C hml hcs hR ih nf ((x4 - (1 : Int64))) x6 x7 ((0 : Int32)) S (lv_sub hl [2, 3, 1, 4, 5, 0] rfl) h
        · replace h := h.2 c19
          refine lv_bipush (v := (-9 : Int32)) C.1 C.2.1 dX7_order_61 (by decide) ?_
          exact hR _ _ _ _ _ _ dX7_order_63 h S
theorem kM_X7_order : s_M yX7_order cX7_order 9 (some .int) 2 := ⟨co_X7_order, in_X7, by decide, by decide, by decide +kernel⟩
set_option maxHeartbeats 4000000 in
set_option maxRecDepth 100000 in
theorem c_X7_order (l : Launch) (G : s_G) (x1 : Int64) (x3 : Int32) (σ : Sg) (post : Int32 → Sg → Prop) (h : wpX7_order x1 x3 σ post) : Met l yX7_order (wsU yX7_order cX7_order 9 (some .int)) rm_X7_order (va_Pc [.ref (G.2.2 + 117), .long x1, .int x3] (s_Pre G σ)) (va_Qi post (s_B G) (s_A G.2.2)) 0 0 (s_A G.2.2) := by
  refine Met.ofW (cc := cX7_order) (maxL := 9) (ret := (some .int)) (by decide) rfl ?_
  intro p e s m args below meth c s₁ B hml hv
  obtain ⟨rfl, hP, hrok, hK, hN⟩ := hv
  have C : s_C G p s (([.ref (G.2.2 + 117), .long x1, .int x3] : List Value).toArray) m c RX7 cX7_order := ⟨B.exec, B.bytes, findClass_of_methodNamed B.named, fun w hw => atoms_spec (ws := wsU yX7_order cX7_order 9 (some .int)) B.pre w (List.mem_cons_of_mem _ hw), hK, hN⟩
  have hr := B.returns
  have hlocks := B.notSynchronized
  have S : s_St G σ s.heap s.heap [] := ⟨hP, va_S.rf, hrok⟩
  have hcs : 0 ≤ (rm_X7_order).cells ∧ 0 ≤ (rm_X7_order).slots := ⟨Nat.le_refl 0, Nat.le_refl 0⟩
  have hR : ∀ (r : Int32) (σ1 : Sg) (H : Heap) (locs : List Loc) (pc : Nat) (ls : Array Slot), decode cX7_order pc = .ok (.ireturn, 1) → post r σ1 → s_St G σ1 s.heap H locs → W p l e rm_X7_order s m ([.ref (G.2.2 + 117), .long x1, .int x3] : List Value).toArray below meth c H locs 0 0 (MQ below (va_Qi post (s_B G) (s_A G.2.2)) ([.ref (G.2.2 + 117), .long x1, .int x3] : List Value).toArray s 0 0 (s_A G.2.2)) (F0 m pc ls [.int r]) := fun _ _ _ _ _ _ hd hp S => ret_i C hr hlocks hd hp S
  have hl := lv_entry ([.ref (G.2.2 + 117), .long x1, .int x3]) (n := 9) (Nat.le_of_ble_eq_true rfl)
  rw [lg_entry_eq]
  generalize (lg_sl ([.ref (G.2.2 + 117), .long x1, .int x3]) ++ List.replicate (9 - (lg_sl ([.ref (G.2.2 + 117), .long x1, .int x3])).length) Slot.unset).toArray = ls at hl ⊢
  have hl : lv_has ls 9 [(0, .ref (G.2.2 + 117)), (1, .long x1), (3, .int x3)] := hl
  unfold wpX7_order at h
  refine lv_lload_n C.1 C.2.1 dX7_order_0 rfl (lv_at hl 1 rfl) ?_
  refine lv_lconst (v := (0 : Int64)) C.1 C.2.1 dX7_order_1 (by decide) ?_
  refine W.lcmp C.1 C.2.1 dX7_order_2 ?_
  refine lv_if_lt (tgt := 10) C.1 C.2.1 dX7_order_3 (by decide) (fun c20 => ?_) (fun c20 => ?_)
  · replace h := h.1 c20
    refine lv_iconst (v := (-1 : Int32)) C.1 C.2.1 dX7_order_10 (by decide) ?_
    exact hR _ _ _ _ _ _ dX7_order_11 h S
  · replace h := h.2 c20
    refine lv_iload_n C.1 C.2.1 dX7_order_6 rfl (lv_at hl 2 rfl) ?_
    refine lv_if_ge (tgt := 12) C.1 C.2.1 dX7_order_7 (by decide) (fun c21 => ?_) (fun c21 => ?_)
    · replace h := h.1 c21
      refine lv_aload_n C.1 C.2.1 dX7_order_12 rfl (lv_at hl 0 rfl) ?_
      refine k_v (r_V (As := []) (rest := []) C hml (c_X7_layOrders l G σ _ h) kM_X7_layOrders im_X7_layOrders se_X7_layOrders ml_X7_183 ⟨rfl, rfl⟩ ⟨Nat.le_of_ble_eq_true rfl, Nat.le_of_ble_eq_true rfl⟩ hcs S kd_117 (by decide) (T := TX7) (N := 17) rfl rfl hl.1 rfl (Nat.le_of_ble_eq_true rfl) dX7_order_13) S (fun σ22 H locs h S => ?_)
      refine lv_lload_n C.1 C.2.1 dX7_order_16 rfl (lv_at hl 1 rfl) ?_
      refine lv_aload_n C.1 C.2.1 dX7_order_17 rfl (lv_at hl 0 rfl) ?_
      refine g_X7_15 C fl_X7_45 kd_117 S fn_117_15 dX7_order_18 ?_
      refine lv_iconst (v := (0 : Int32)) C.1 C.2.1 dX7_order_21 (by decide) ?_
      refine a_lld C kd_129 S ln_129 h.1 dX7_order_22 ?_
      replace h := h.2
      refine W.lcmp C.1 C.2.1 dX7_order_23 ?_
      refine lv_if_lt (tgt := 30) C.1 C.2.1 dX7_order_24 (by decide) (fun c23 => ?_) (fun c23 => ?_)
      · replace h := h.1 c23
        refine lv_lload_n C.1 C.2.1 dX7_order_30 rfl (lv_at hl 1 rfl) ?_
        refine lv_lstore (lv' := [(4, .long x1), (0, .ref (G.2.2 + 117)), (1, .long x1), (3, .int x3)]) C.1 C.2.1 dX7_order_31 hl (by decide) rfl (fun ls hl => ?_)
        refine lv_iconst (v := (0 : Int32)) C.1 C.2.1 dX7_order_33 (by decide) ?_
        refine lv_istore (lv' := [(6, .int (0 : Int32)), (4, .long x1), (0, .ref (G.2.2 + 117)), (1, .long x1), (3, .int x3)]) C.1 C.2.1 dX7_order_34 hl (by decide) rfl (fun ls hl => ?_)
        refine lv_iconst (v := (0 : Int32)) C.1 C.2.1 dX7_order_36 (by decide) ?_
        refine lv_istore (lv' := [(7, .int (0 : Int32)), (6, .int (0 : Int32)), (4, .long x1), (0, .ref (G.2.2 + 117)), (1, .long x1), (3, .int x3)]) C.1 C.2.1 dX7_order_37 hl (by decide) rfl (fun ls hl => ?_)
        obtain ⟨nf, h⟩ := h
        exact TX7_order_39 C hml hcs hR nf x1 ((0 : Int32)) ((0 : Int32)) S (lv_sub hl [3, 5, 2, 1, 0] rfl) h
      · replace h := h.2 c23
        refine lv_bipush (v := (-9 : Int32)) C.1 C.2.1 dX7_order_27 (by decide) ?_
        exact hR _ _ _ _ _ _ dX7_order_29 h S
    · replace h := h.2 c21
      refine lv_iconst (v := (-1 : Int32)) C.1 C.2.1 dX7_order_10 (by decide) ?_
      exact hR _ _ _ _ _ _ dX7_order_11 h S
/-! X7_sizeOf -/
abbrev rm_X7_sizeOf : Room := { frames := 1, cells := 0, slots := 0, locals := 21 }
def BX7_sizeOf_4 (x0 : Int32) (post : Int32 → Sg → Prop) : Nat → Int32 → Int32 → Sg → Prop
  | 0, _, _, _ => False
  | n + 1, x1, x2, σ => ((((6 : Int32) ≤ x2) → post x1 σ) ∧ ((¬ (6 : Int32) ≤ x2) → wpX7_countIn x0 x2 σ (fun r3 σ2 => BX7_sizeOf_4 x0 post n ((x1 + r3)) ((x2 + 1)) σ2)))
def wpX7_sizeOf (x0 : Int32) (σ : Sg) (post : Int32 → Sg → Prop) : Prop := ∃ nf, BX7_sizeOf_4 x0 post nf ((0 : Int32)) ((0 : Int32)) σ
set_option maxHeartbeats 4000000 in
set_option maxRecDepth 100000 in
theorem TX7_sizeOf_4 (C : s_C G p s args m c RX7 cX7_sizeOf) (hml : c.maxLocals = 3) (hcs : cells ≤ (rm_X7_sizeOf).cells ∧ slots ≤ (rm_X7_sizeOf).slots) {x0 : Int32} {post : Int32 → Sg → Prop} (hR : ∀ (r : Int32) (σ1 : Sg) (H : Heap) (locs : List Loc) (pc : Nat) (ls : Array Slot), decode cX7_sizeOf pc = .ok (.ireturn, 1) → post r σ1 → s_St G σ1 H0 H locs → W p l e rm_X7_sizeOf s m args below meth c H locs cells slots Q (F0 m pc ls [.int r])) : ∀ (n : Nat) (x1 : Int32) (x2 : Int32), ∀ {σ : Sg} {H : Heap} {locs : List Loc} {ls : Array Slot}, s_St G σ H0 H locs → lv_has ls 3 [(0, .int x0), (1, .int x1), (2, .int x2)] → BX7_sizeOf_4 x0 post n x1 x2 σ → W p l e rm_X7_sizeOf s m args below meth c H locs cells slots Q (F0 m 4 ls []) := by
  intro n
  induction n with
  | zero =>
    intro x1 x2  σ H locs ls S hl h
    exact absurd h (fun h => h)
  | succ n ih0 =>
    have ih : ∀ (x1 : Int32) (x2 : Int32), ∀ (σ : Sg) (H : Heap) (locs : List Loc) (ls : Array Slot), s_St G σ H0 H locs → lv_has ls 3 [(0, .int x0), (1, .int x1), (2, .int x2)] → BX7_sizeOf_4 x0 post n x1 x2 σ → W p l e rm_X7_sizeOf s m args below meth c H locs cells slots Q (F0 m 4 ls []) := fun x1 x2  _ _ _ _ => ih0 x1 x2 
    intro x1 x2  σ H locs ls S hl h
    refine lv_iload_n C.1 C.2.1 dX7_sizeOf_4 rfl (lv_at hl 2 rfl) ?_
    refine lv_bipush (v := (6 : Int32)) C.1 C.2.1 dX7_sizeOf_5 (by decide) ?_
    refine lv_icmp_ge (tgt := 24) C.1 C.2.1 dX7_sizeOf_7 (by decide) (fun c1 => ?_) (fun c1 => ?_)
    · replace h := h.1 c1
      refine lv_iload_n C.1 C.2.1 dX7_sizeOf_24 rfl (lv_at hl 1 rfl) ?_
      exact hR _ _ _ _ _ _ dX7_sizeOf_25 h S
    · replace h := h.2 c1
      refine lv_iload_n C.1 C.2.1 dX7_sizeOf_10 rfl (lv_at hl 1 rfl) ?_
      refine lv_iload_n C.1 C.2.1 dX7_sizeOf_11 rfl (lv_at hl 0 rfl) ?_
      refine lv_iload_n C.1 C.2.1 dX7_sizeOf_12 rfl (lv_at hl 2 rfl) ?_
      refine k_i (r_S (As := [.int x0, .int x2]) (rest := [.int x1]) C hml (c_X7_countIn l G x0 x2 σ _ h) kM_X7_countIn st_X7_countIn ml_X7_125 ⟨rfl, rfl⟩ ⟨Nat.le_of_ble_eq_true rfl, Nat.le_of_ble_eq_true rfl⟩ hcs S rfl hl.1 rfl (Nat.le_of_ble_eq_true rfl) dX7_sizeOf_13) S (fun r3 σ2 H locs h S => ?_)
      refine lv_iadd C.1 C.2.1 dX7_sizeOf_16 ?_
      refine lv_istore_n (lv' := [(1, .int (x1 + r3)), (0, .int x0), (2, .int x2)]) C.1 C.2.1 dX7_sizeOf_17 rfl hl (by decide) rfl (fun ls hl => ?_)
      refine lv_iinc (v := (x2 + 1)) (lv' := [(2, .int (x2 + 1)), (1, .int (x1 + r3)), (0, .int x0)]) C.1 C.2.1 dX7_sizeOf_18 hl (k := 2) rfl rfl (by decide) rfl (fun ls hl => ?_)
      refine lv_goto (tgt := 4) C.1 C.2.1 dX7_sizeOf_21 (by decide) ?_
      exact ih ((x1 + r3)) ((x2 + 1)) _ _ _ _ S (lv_sub hl [2, 1, 0] rfl) h
theorem kM_X7_sizeOf : s_M yX7_sizeOf cX7_sizeOf 3 (some .int) 1 := ⟨co_X7_sizeOf, in_X7, by decide, by decide, by decide +kernel⟩
set_option maxHeartbeats 4000000 in
set_option maxRecDepth 100000 in
theorem c_X7_sizeOf (l : Launch) (G : s_G) (x0 : Int32) (σ : Sg) (post : Int32 → Sg → Prop) (h : wpX7_sizeOf x0 σ post) : Met l yX7_sizeOf (wsU yX7_sizeOf cX7_sizeOf 3 (some .int)) rm_X7_sizeOf (va_Pc [.int x0] (s_Pre G σ)) (va_Qi post (s_B G) (s_A G.2.2)) 0 0 (s_A G.2.2) := by
  refine Met.ofW (cc := cX7_sizeOf) (maxL := 3) (ret := (some .int)) (by decide) rfl ?_
  intro p e s m args below meth c s₁ B hml hv
  obtain ⟨rfl, hP, hrok, hK, hN⟩ := hv
  have C : s_C G p s (([.int x0] : List Value).toArray) m c RX7 cX7_sizeOf := ⟨B.exec, B.bytes, findClass_of_methodNamed B.named, fun w hw => atoms_spec (ws := wsU yX7_sizeOf cX7_sizeOf 3 (some .int)) B.pre w (List.mem_cons_of_mem _ hw), hK, hN⟩
  have hr := B.returns
  have hlocks := B.notSynchronized
  have S : s_St G σ s.heap s.heap [] := ⟨hP, va_S.rf, hrok⟩
  have hcs : 0 ≤ (rm_X7_sizeOf).cells ∧ 0 ≤ (rm_X7_sizeOf).slots := ⟨Nat.le_refl 0, Nat.le_refl 0⟩
  have hR : ∀ (r : Int32) (σ1 : Sg) (H : Heap) (locs : List Loc) (pc : Nat) (ls : Array Slot), decode cX7_sizeOf pc = .ok (.ireturn, 1) → post r σ1 → s_St G σ1 s.heap H locs → W p l e rm_X7_sizeOf s m ([.int x0] : List Value).toArray below meth c H locs 0 0 (MQ below (va_Qi post (s_B G) (s_A G.2.2)) ([.int x0] : List Value).toArray s 0 0 (s_A G.2.2)) (F0 m pc ls [.int r]) := fun _ _ _ _ _ _ hd hp S => ret_i C hr hlocks hd hp S
  have hl := lv_entry ([.int x0]) (n := 3) (Nat.le_of_ble_eq_true rfl)
  rw [lg_entry_eq]
  generalize (lg_sl ([.int x0]) ++ List.replicate (3 - (lg_sl ([.int x0])).length) Slot.unset).toArray = ls at hl ⊢
  have hl : lv_has ls 3 [(0, .int x0)] := hl
  unfold wpX7_sizeOf at h
  refine lv_iconst (v := (0 : Int32)) C.1 C.2.1 dX7_sizeOf_0 (by decide) ?_
  refine lv_istore_n (lv' := [(1, .int (0 : Int32)), (0, .int x0)]) C.1 C.2.1 dX7_sizeOf_1 rfl hl (by decide) rfl (fun ls hl => ?_)
  refine lv_iconst (v := (0 : Int32)) C.1 C.2.1 dX7_sizeOf_2 (by decide) ?_
  refine lv_istore_n (lv' := [(2, .int (0 : Int32)), (1, .int (0 : Int32)), (0, .int x0)]) C.1 C.2.1 dX7_sizeOf_3 rfl hl (by decide) rfl (fun ls hl => ?_)
  obtain ⟨nf, h⟩ := h
  exact TX7_sizeOf_4 C hml hcs hR nf ((0 : Int32)) ((0 : Int32)) S (lv_sub hl [2, 1, 0] rfl) h
/-! X7_orders -/
abbrev rm_X7_orders : Room := { frames := 3, cells := 0, slots := 0, locals := 66 }
def BX7_orders_35 (x1 : Int32) (post : Int64 → Sg → Prop) : Nat → Int64 → Int32 → Sg → Prop
  | 0, _, _, _ => False
  | n + 1, x2, x4, σ => ((((4096 : Int32) ≤ x4) → post x2 σ) ∧ ((¬ (4096 : Int32) ≤ x4) → (vp_in x4 4096 ∧ ((((lg_cmp (σ.2.1 130 (x4).toNatClampNeg) (0 : Int64)) ≤ 0) → BX7_orders_35 x1 post n ((x2 + (0 : Int64))) ((x4 + 1)) σ) ∧ ((¬ (lg_cmp (σ.2.1 130 (x4).toNatClampNeg) (0 : Int64)) ≤ 0) → wpX7_sizeOf x4 σ (fun r4 σ3 => (((¬ r4 = x1) → BX7_orders_35 x1 post n ((x2 + (0 : Int64))) ((x4 + 1)) σ3) ∧ ((r4 = x1) → wpX7_isWhole x4 σ3 (fun r7 σ6 => (((r7 = 0) → BX7_orders_35 x1 post n ((x2 + (0 : Int64))) ((x4 + 1)) σ6) ∧ ((¬ r7 = 0) → (vp_in x4 4096 ∧ BX7_orders_35 x1 post n ((x2 + (σ6.2.1 130 (x4).toNatClampNeg))) ((x4 + 1)) σ6))))))))))))
def wpX7_orders (x1 : Int32) (σ : Sg) (post : Int64 → Sg → Prop) : Prop := wpX7_isIn x1 ((-1 : Int32)) ((18 : Int32)) σ (fun r10 σ9 => (((¬ r10 = 0) → wpX7_layOrders σ9 (fun σ12 => (((¬ x1 = (-1 : Int32)) → ∃ nf, BX7_orders_35 x1 post nf ((0 : Int64)) ((0 : Int32)) σ12) ∧ ((x1 = (-1 : Int32)) → (vp_in ((0 : Int32)) 4096 ∧ post ((σ12.2.1 129 ((0 : Int32)).toNatClampNeg)) σ12))))) ∧ ((r10 = 0) → post ((-1 : Int64)) σ9)))
set_option maxHeartbeats 4000000 in
set_option maxRecDepth 100000 in
theorem TX7_orders_35 (C : s_C G p s args m c RX7 cX7_orders) (hml : c.maxLocals = 5) (hcs : cells ≤ (rm_X7_orders).cells ∧ slots ≤ (rm_X7_orders).slots) {x1 : Int32} {post : Int64 → Sg → Prop} (hR : ∀ (r : Int64) (σ1 : Sg) (H : Heap) (locs : List Loc) (pc : Nat) (ls : Array Slot), decode cX7_orders pc = .ok (.lreturn, 1) → post r σ1 → s_St G σ1 H0 H locs → W p l e rm_X7_orders s m args below meth c H locs cells slots Q (F0 m pc ls [.long r])) : ∀ (n : Nat) (x2 : Int64) (x4 : Int32), ∀ {σ : Sg} {H : Heap} {locs : List Loc} {ls : Array Slot}, s_St G σ H0 H locs → lv_has ls 5 [(0, .ref (G.2.2 + 117)), (1, .int x1), (2, .long x2), (4, .int x4)] → BX7_orders_35 x1 post n x2 x4 σ → W p l e rm_X7_orders s m args below meth c H locs cells slots Q (F0 m 35 ls []) := by
  intro n
  induction n with
  | zero =>
    intro x2 x4  σ H locs ls S hl h
    exact absurd h (fun h => h)
  | succ n ih0 =>
    have ih : ∀ (x2 : Int64) (x4 : Int32), ∀ (σ : Sg) (H : Heap) (locs : List Loc) (ls : Array Slot), s_St G σ H0 H locs → lv_has ls 5 [(0, .ref (G.2.2 + 117)), (1, .int x1), (2, .long x2), (4, .int x4)] → BX7_orders_35 x1 post n x2 x4 σ → W p l e rm_X7_orders s m args below meth c H locs cells slots Q (F0 m 35 ls []) := fun x2 x4  _ _ _ _ => ih0 x2 x4 
    intro x2 x4  σ H locs ls S hl h
    refine lv_iload C.1 C.2.1 dX7_orders_35 (lv_at hl 3 rfl) ?_
    refine lv_sipush (v := (4096 : Int32)) C.1 C.2.1 dX7_orders_37 (by decide) ?_
    refine lv_icmp_ge (tgt := 93) C.1 C.2.1 dX7_orders_40 (by decide) (fun c1 => ?_) (fun c1 => ?_)
    · replace h := h.1 c1
      refine lv_lload_n C.1 C.2.1 dX7_orders_93 rfl (lv_at hl 2 rfl) ?_
      exact hR _ _ _ _ _ _ dX7_orders_94 h S
    · replace h := h.2 c1
      refine lv_lload_n C.1 C.2.1 dX7_orders_43 rfl (lv_at hl 2 rfl) ?_
      refine lv_aload_n C.1 C.2.1 dX7_orders_44 rfl (lv_at hl 0 rfl) ?_
      refine g_X7_16 C fl_X7_49 kd_117 S fn_117_16 dX7_orders_45 ?_
      refine lv_iload C.1 C.2.1 dX7_orders_48 (lv_at hl 3 rfl) ?_
      refine a_lld C kd_130 S ln_130 h.1 dX7_orders_50 ?_
      replace h := h.2
      refine lv_lconst (v := (0 : Int64)) C.1 C.2.1 dX7_orders_51 (by decide) ?_
      refine W.lcmp C.1 C.2.1 dX7_orders_52 ?_
      refine lv_if_le (tgt := 84) C.1 C.2.1 dX7_orders_53 (by decide) (fun c2 => ?_) (fun c2 => ?_)
      · replace h := h.1 c2
        refine lv_lconst (v := (0 : Int64)) C.1 C.2.1 dX7_orders_84 (by decide) ?_
        refine lv_ladd C.1 C.2.1 dX7_orders_85 ?_
        refine lv_lstore_n (lv' := [(2, .long (x2 + (0 : Int64))), (0, .ref (G.2.2 + 117)), (1, .int x1), (4, .int x4)]) C.1 C.2.1 dX7_orders_86 rfl hl (by decide) rfl (fun ls hl => ?_)
        refine lv_iinc (v := (x4 + 1)) (lv' := [(4, .int (x4 + 1)), (2, .long (x2 + (0 : Int64))), (0, .ref (G.2.2 + 117)), (1, .int x1)]) C.1 C.2.1 dX7_orders_87 hl (k := 3) rfl rfl (by decide) rfl (fun ls hl => ?_)
        refine lv_goto (tgt := 35) C.1 C.2.1 dX7_orders_90 (by decide) ?_
        exact ih ((x2 + (0 : Int64))) ((x4 + 1)) _ _ _ _ S (lv_sub hl [2, 3, 1, 0] rfl) h
      · replace h := h.2 c2
        refine lv_iload C.1 C.2.1 dX7_orders_56 (lv_at hl 3 rfl) ?_
        refine k_i (r_S (As := [.int x4]) (rest := [.long x2]) C hml (c_X7_sizeOf l G x4 σ _ h) kM_X7_sizeOf st_X7_sizeOf ml_X7_186 ⟨rfl, rfl⟩ ⟨Nat.le_of_ble_eq_true rfl, Nat.le_of_ble_eq_true rfl⟩ hcs S rfl hl.1 rfl (Nat.le_of_ble_eq_true rfl) dX7_orders_58) S (fun r4 σ3 H locs h S => ?_)
        refine lv_iload_n C.1 C.2.1 dX7_orders_61 rfl (lv_at hl 1 rfl) ?_
        refine lv_icmp_ne (tgt := 84) C.1 C.2.1 dX7_orders_62 (by decide) (fun c5 => ?_) (fun c5 => ?_)
        · replace h := h.1 c5
          refine lv_lconst (v := (0 : Int64)) C.1 C.2.1 dX7_orders_84 (by decide) ?_
          refine lv_ladd C.1 C.2.1 dX7_orders_85 ?_
          refine lv_lstore_n (lv' := [(2, .long (x2 + (0 : Int64))), (0, .ref (G.2.2 + 117)), (1, .int x1), (4, .int x4)]) C.1 C.2.1 dX7_orders_86 rfl hl (by decide) rfl (fun ls hl => ?_)
          refine lv_iinc (v := (x4 + 1)) (lv' := [(4, .int (x4 + 1)), (2, .long (x2 + (0 : Int64))), (0, .ref (G.2.2 + 117)), (1, .int x1)]) C.1 C.2.1 dX7_orders_87 hl (k := 3) rfl rfl (by decide) rfl (fun ls hl => ?_)
          refine lv_goto (tgt := 35) C.1 C.2.1 dX7_orders_90 (by decide) ?_
          exact ih ((x2 + (0 : Int64))) ((x4 + 1)) _ _ _ _ S (lv_sub hl [2, 3, 1, 0] rfl) h
        · replace h := h.2 c5
          refine lv_aload_n C.1 C.2.1 dX7_orders_65 rfl (lv_at hl 0 rfl) ?_
          refine lv_iload C.1 C.2.1 dX7_orders_66 (lv_at hl 3 rfl) ?_
          refine k_i (r_V (As := [.int x4]) (rest := [.long x2]) C hml (c_X7_isWhole l G x4 σ3 _ h) kM_X7_isWhole im_X7_isWhole se_X7_isWhole ml_X7_146 ⟨rfl, rfl⟩ ⟨Nat.le_of_ble_eq_true rfl, Nat.le_of_ble_eq_true rfl⟩ hcs S kd_117 (by decide) (T := TX7) (N := 17) rfl rfl hl.1 rfl (Nat.le_of_ble_eq_true rfl) dX7_orders_68) S (fun r7 σ6 H locs h S => ?_)
          refine lv_if_eq (tgt := 84) C.1 C.2.1 dX7_orders_71 (by decide) (fun c8 => ?_) (fun c8 => ?_)
          · replace h := h.1 c8
            refine lv_lconst (v := (0 : Int64)) C.1 C.2.1 dX7_orders_84 (by decide) ?_
            refine lv_ladd C.1 C.2.1 dX7_orders_85 ?_
            refine lv_lstore_n (lv' := [(2, .long (x2 + (0 : Int64))), (0, .ref (G.2.2 + 117)), (1, .int x1), (4, .int x4)]) C.1 C.2.1 dX7_orders_86 rfl hl (by decide) rfl (fun ls hl => ?_)
            refine lv_iinc (v := (x4 + 1)) (lv' := [(4, .int (x4 + 1)), (2, .long (x2 + (0 : Int64))), (0, .ref (G.2.2 + 117)), (1, .int x1)]) C.1 C.2.1 dX7_orders_87 hl (k := 3) rfl rfl (by decide) rfl (fun ls hl => ?_)
            refine lv_goto (tgt := 35) C.1 C.2.1 dX7_orders_90 (by decide) ?_
            exact ih ((x2 + (0 : Int64))) ((x4 + 1)) _ _ _ _ S (lv_sub hl [2, 3, 1, 0] rfl) h
          · replace h := h.2 c8
            refine lv_aload_n C.1 C.2.1 dX7_orders_74 rfl (lv_at hl 0 rfl) ?_
            refine g_X7_16 C fl_X7_49 kd_117 S fn_117_16 dX7_orders_75 ?_
            refine lv_iload C.1 C.2.1 dX7_orders_78 (lv_at hl 3 rfl) ?_
            refine a_lld C kd_130 S ln_130 h.1 dX7_orders_80 ?_
            replace h := h.2
            refine lv_goto (tgt := 85) C.1 C.2.1 dX7_orders_81 (by decide) ?_
            refine lv_ladd C.1 C.2.1 dX7_orders_85 ?_
            refine lv_lstore_n (lv' := [(2, .long (x2 + (σ6.2.1 130 (x4).toNatClampNeg))), (0, .ref (G.2.2 + 117)), (1, .int x1), (4, .int x4)]) C.1 C.2.1 dX7_orders_86 rfl hl (by decide) rfl (fun ls hl => ?_)
            refine lv_iinc (v := (x4 + 1)) (lv' := [(4, .int (x4 + 1)), (2, .long (x2 + (σ6.2.1 130 (x4).toNatClampNeg))), (0, .ref (G.2.2 + 117)), (1, .int x1)]) C.1 C.2.1 dX7_orders_87 hl (k := 3) rfl rfl (by decide) rfl (fun ls hl => ?_)
            refine lv_goto (tgt := 35) C.1 C.2.1 dX7_orders_90 (by decide) ?_
            exact ih ((x2 + (σ6.2.1 130 (x4).toNatClampNeg))) ((x4 + 1)) _ _ _ _ S (lv_sub hl [2, 3, 1, 0] rfl) h
theorem kM_X7_orders : s_M yX7_orders cX7_orders 5 (some .long) 1 := ⟨co_X7_orders, in_X7, by decide, by decide, by decide +kernel⟩
set_option maxHeartbeats 4000000 in
set_option maxRecDepth 100000 in
theorem c_X7_orders (l : Launch) (G : s_G) (x1 : Int32) (σ : Sg) (post : Int64 → Sg → Prop) (h : wpX7_orders x1 σ post) : Met l yX7_orders (wsU yX7_orders cX7_orders 5 (some .long)) rm_X7_orders (va_Pc [.ref (G.2.2 + 117), .int x1] (s_Pre G σ)) (va_Ql post (s_B G) (s_A G.2.2)) 0 0 (s_A G.2.2) := by
  refine Met.ofW (cc := cX7_orders) (maxL := 5) (ret := (some .long)) (by decide) rfl ?_
  intro p e s m args below meth c s₁ B hml hv
  obtain ⟨rfl, hP, hrok, hK, hN⟩ := hv
  have C : s_C G p s (([.ref (G.2.2 + 117), .int x1] : List Value).toArray) m c RX7 cX7_orders := ⟨B.exec, B.bytes, findClass_of_methodNamed B.named, fun w hw => atoms_spec (ws := wsU yX7_orders cX7_orders 5 (some .long)) B.pre w (List.mem_cons_of_mem _ hw), hK, hN⟩
  have hr := B.returns
  have hlocks := B.notSynchronized
  have S : s_St G σ s.heap s.heap [] := ⟨hP, va_S.rf, hrok⟩
  have hcs : 0 ≤ (rm_X7_orders).cells ∧ 0 ≤ (rm_X7_orders).slots := ⟨Nat.le_refl 0, Nat.le_refl 0⟩
  have hR : ∀ (r : Int64) (σ1 : Sg) (H : Heap) (locs : List Loc) (pc : Nat) (ls : Array Slot), decode cX7_orders pc = .ok (.lreturn, 1) → post r σ1 → s_St G σ1 s.heap H locs → W p l e rm_X7_orders s m ([.ref (G.2.2 + 117), .int x1] : List Value).toArray below meth c H locs 0 0 (MQ below (va_Ql post (s_B G) (s_A G.2.2)) ([.ref (G.2.2 + 117), .int x1] : List Value).toArray s 0 0 (s_A G.2.2)) (F0 m pc ls [.long r]) := fun _ _ _ _ _ _ hd hp S => ret_l C hr hlocks hd hp S
  have hl := lv_entry ([.ref (G.2.2 + 117), .int x1]) (n := 5) (Nat.le_of_ble_eq_true rfl)
  rw [lg_entry_eq]
  generalize (lg_sl ([.ref (G.2.2 + 117), .int x1]) ++ List.replicate (5 - (lg_sl ([.ref (G.2.2 + 117), .int x1])).length) Slot.unset).toArray = ls at hl ⊢
  have hl : lv_has ls 5 [(0, .ref (G.2.2 + 117)), (1, .int x1)] := hl
  unfold wpX7_orders at h
  refine lv_iload_n C.1 C.2.1 dX7_orders_0 rfl (lv_at hl 1 rfl) ?_
  refine lv_iconst (v := (-1 : Int32)) C.1 C.2.1 dX7_orders_1 (by decide) ?_
  refine lv_bipush (v := (18 : Int32)) C.1 C.2.1 dX7_orders_2 (by decide) ?_
  refine k_i (r_S (As := [.int x1, .int (-1 : Int32), .int (18 : Int32)]) (rest := []) C hml (c_X7_isIn l G x1 ((-1 : Int32)) ((18 : Int32)) σ _ h) kM_X7_isIn st_X7_isIn ml_X7_60 ⟨rfl, rfl⟩ ⟨Nat.le_of_ble_eq_true rfl, Nat.le_of_ble_eq_true rfl⟩ hcs S rfl hl.1 rfl (Nat.le_of_ble_eq_true rfl) dX7_orders_4) S (fun r10 σ9 H locs h S => ?_)
  refine lv_if_ne (tgt := 14) C.1 C.2.1 dX7_orders_7 (by decide) (fun c11 => ?_) (fun c11 => ?_)
  · replace h := h.1 c11
    refine lv_aload_n C.1 C.2.1 dX7_orders_14 rfl (lv_at hl 0 rfl) ?_
    refine k_v (r_V (As := []) (rest := []) C hml (c_X7_layOrders l G σ9 _ h) kM_X7_layOrders im_X7_layOrders se_X7_layOrders ml_X7_183 ⟨rfl, rfl⟩ ⟨Nat.le_of_ble_eq_true rfl, Nat.le_of_ble_eq_true rfl⟩ hcs S kd_117 (by decide) (T := TX7) (N := 17) rfl rfl hl.1 rfl (Nat.le_of_ble_eq_true rfl) dX7_orders_15) S (fun σ12 H locs h S => ?_)
    refine lv_iload_n C.1 C.2.1 dX7_orders_18 rfl (lv_at hl 1 rfl) ?_
    refine lv_iconst (v := (-1 : Int32)) C.1 C.2.1 dX7_orders_19 (by decide) ?_
    refine lv_icmp_ne (tgt := 30) C.1 C.2.1 dX7_orders_20 (by decide) (fun c13 => ?_) (fun c13 => ?_)
    · replace h := h.1 c13
      refine lv_lconst (v := (0 : Int64)) C.1 C.2.1 dX7_orders_30 (by decide) ?_
      refine lv_lstore_n (lv' := [(2, .long (0 : Int64)), (0, .ref (G.2.2 + 117)), (1, .int x1)]) C.1 C.2.1 dX7_orders_31 rfl hl (by decide) rfl (fun ls hl => ?_)
      refine lv_iconst (v := (0 : Int32)) C.1 C.2.1 dX7_orders_32 (by decide) ?_
      refine lv_istore (lv' := [(4, .int (0 : Int32)), (2, .long (0 : Int64)), (0, .ref (G.2.2 + 117)), (1, .int x1)]) C.1 C.2.1 dX7_orders_33 hl (by decide) rfl (fun ls hl => ?_)
      obtain ⟨nf, h⟩ := h
      exact TX7_orders_35 C hml hcs hR nf ((0 : Int64)) ((0 : Int32)) S (lv_sub hl [2, 3, 1, 0] rfl) h
    · replace h := h.2 c13
      refine lv_aload_n C.1 C.2.1 dX7_orders_23 rfl (lv_at hl 0 rfl) ?_
      refine g_X7_15 C fl_X7_45 kd_117 S fn_117_15 dX7_orders_24 ?_
      refine lv_iconst (v := (0 : Int32)) C.1 C.2.1 dX7_orders_27 (by decide) ?_
      refine a_lld C kd_129 S ln_129 h.1 dX7_orders_28 ?_
      replace h := h.2
      exact hR _ _ _ _ _ _ dX7_orders_29 h S
  · replace h := h.2 c11
    refine lv_ldc2 (v := (-1 : Int64)) C.1 C.2.1 C.2.2.1 (C.2.2.2.1 _ cl_X7_181) dX7_orders_10 ?_
    exact hR _ _ _ _ _ _ dX7_orders_13 h S
/-! X7_rank -/
abbrev rm_X7_rank : Room := { frames := 7, cells := 0, slots := 0, locals := 164 }
def BX7_rank_53  (K27 : Int32 → Int64 → Int32 → Int32 → Sg → Prop) (post : Int64 → Sg → Prop) : Nat → Int32 → Int64 → Int32 → Int32 → Int32 → Sg → Prop
  | 0, _, _, _, _, _, _ => False
  | n + 1, x1, x2, x4, x5, x6, σ => (vp_in x5 20 ∧ ((((σ.1 125 (x5).toNatClampNeg) ≤ x6) → (vp_in x5 20 ∧ wpX7_with x4 ((σ.1 125 (x5).toNatClampNeg)) σ (fun r3 σ2 => K27 x1 x2 r3 ((x5 + 1)) σ2))) ∧ ((¬ (σ.1 125 (x5).toNatClampNeg) ≤ x6) → wpX7_may x4 x6 σ (fun r5 σ4 => (((r5 = 0) → BX7_rank_53 K27 post n x1 ((x2 + (0 : Int64))) x4 x5 ((x6 + 1)) σ4) ∧ ((¬ r5 = 0) → wpX7_with x4 x6 σ4 (fun r8 σ7 => (vp_in r8 4096 ∧ BX7_rank_53 K27 post n x1 ((x2 + (σ7.2.1 129 (r8).toNatClampNeg))) x4 x5 ((x6 + 1)) σ7))))))))
def BX7_rank_27  (post : Int64 → Sg → Prop) : Nat → Int32 → Int64 → Int32 → Int32 → Sg → Prop
  | 0, _, _, _, _, _ => False
  | n + 1, x1, x2, x4, x5, σ => (((x1 ≤ x5) → post x2 σ) ∧ ((¬ x1 ≤ x5) → wpX7_isWhole x4 σ (fun r11 σ10 => (((r11 = 0) → ∃ nf, BX7_rank_53 (BX7_rank_27 post n) post nf x1 ((x2 + (0 : Int64))) x4 x5 ((0 : Int32)) σ10) ∧ ((¬ r11 = 0) → ∃ nf, BX7_rank_53 (BX7_rank_27 post n) post nf x1 ((x2 + (1 : Int64))) x4 x5 ((0 : Int32)) σ10)))))
def wpX7_rank  (σ : Sg) (post : Int64 → Sg → Prop) : Prop := wpX7_layReading σ (fun r14 σ13 => (((¬ r14 = (-9 : Int32)) → wpX7_layOrders σ13 (fun σ16 => ∃ nf, BX7_rank_27 post nf r14 ((0 : Int64)) ((0 : Int32)) ((0 : Int32)) σ16)) ∧ ((r14 = (-9 : Int32)) → post ((-2 : Int64)) σ13)))
set_option maxHeartbeats 4000000 in
set_option maxRecDepth 100000 in
theorem TX7_rank_53 (C : s_C G p s args m c RX7 cX7_rank) (hml : c.maxLocals = 7) (hcs : cells ≤ (rm_X7_rank).cells ∧ slots ≤ (rm_X7_rank).slots)  {K27 : Int32 → Int64 → Int32 → Int32 → Sg → Prop} {post : Int64 → Sg → Prop} (hR : ∀ (r : Int64) (σ1 : Sg) (H : Heap) (locs : List Loc) (pc : Nat) (ls : Array Slot), decode cX7_rank pc = .ok (.lreturn, 1) → post r σ1 → s_St G σ1 H0 H locs → W p l e rm_X7_rank s m args below meth c H locs cells slots Q (F0 m pc ls [.long r])) (hK27 : ∀ (x1 : Int32) (x2 : Int64) (x4 : Int32) (x5 : Int32), ∀ (σ : Sg) (H : Heap) (locs : List Loc) (ls : Array Slot), s_St G σ H0 H locs → lv_has ls 7 [(0, .ref (G.2.2 + 117)), (1, .int x1), (2, .long x2), (4, .int x4), (5, .int x5)] → K27 x1 x2 x4 x5 σ → W p l e rm_X7_rank s m args below meth c H locs cells slots Q (F0 m 27 ls [])) : ∀ (n : Nat) (x1 : Int32) (x2 : Int64) (x4 : Int32) (x5 : Int32) (x6 : Int32), ∀ {σ : Sg} {H : Heap} {locs : List Loc} {ls : Array Slot}, s_St G σ H0 H locs → lv_has ls 7 [(0, .ref (G.2.2 + 117)), (1, .int x1), (2, .long x2), (4, .int x4), (5, .int x5), (6, .int x6)] → BX7_rank_53 K27 post n x1 x2 x4 x5 x6 σ → W p l e rm_X7_rank s m args below meth c H locs cells slots Q (F0 m 53 ls []) := by
  intro n
  induction n with
  | zero =>
    intro x1 x2 x4 x5 x6  σ H locs ls S hl h
    exact absurd h (fun h => h)
  | succ n ih0 =>
    have ih : ∀ (x1 : Int32) (x2 : Int64) (x4 : Int32) (x5 : Int32) (x6 : Int32), ∀ (σ : Sg) (H : Heap) (locs : List Loc) (ls : Array Slot), s_St G σ H0 H locs → lv_has ls 7 [(0, .ref (G.2.2 + 117)), (1, .int x1), (2, .long x2), (4, .int x4), (5, .int x5), (6, .int x6)] → BX7_rank_53 K27 post n x1 x2 x4 x5 x6 σ → W p l e rm_X7_rank s m args below meth c H locs cells slots Q (F0 m 53 ls []) := fun x1 x2 x4 x5 x6  _ _ _ _ => ih0 x1 x2 x4 x5 x6 
    intro x1 x2 x4 x5 x6  σ H locs ls S hl h
    refine lv_iload C.1 C.2.1 dX7_rank_53 (lv_at hl 5 rfl) ?_
    refine lv_aload_n C.1 C.2.1 dX7_rank_55 rfl (lv_at hl 0 rfl) ?_
    refine g_X7_11 C fl_X7_33 kd_117 S fn_117_11 dX7_rank_56 ?_
    refine lv_iload C.1 C.2.1 dX7_rank_59 (lv_at hl 4 rfl) ?_
    refine a_ild C kd_125 S ln_125 h.1 dX7_rank_61 ?_
    replace h := h.2
    refine lv_icmp_ge (tgt := 101) C.1 C.2.1 dX7_rank_62 (by decide) (fun c1 => ?_) (fun c1 => ?_)
    · replace h := h.1 c1
      refine lv_iload C.1 C.2.1 dX7_rank_101 (lv_at hl 3 rfl) ?_
      refine lv_aload_n C.1 C.2.1 dX7_rank_103 rfl (lv_at hl 0 rfl) ?_
      refine g_X7_11 C fl_X7_33 kd_117 S fn_117_11 dX7_rank_104 ?_
      refine lv_iload C.1 C.2.1 dX7_rank_107 (lv_at hl 4 rfl) ?_
      refine a_ild C kd_125 S ln_125 h.1 dX7_rank_109 ?_
      replace h := h.2
      refine k_i (r_S (As := [.int x4, .int (σ.1 125 (x5).toNatClampNeg)]) (rest := []) C hml (c_X7_with l G x4 ((σ.1 125 (x5).toNatClampNeg)) σ _ h) kM_X7_with st_X7_with ml_X7_143 ⟨rfl, rfl⟩ ⟨Nat.le_of_ble_eq_true rfl, Nat.le_of_ble_eq_true rfl⟩ hcs S rfl hl.1 rfl (Nat.le_of_ble_eq_true rfl) dX7_rank_110) S (fun r3 σ2 H locs h S => ?_)
      refine lv_istore (lv' := [(4, .int r3), (0, .ref (G.2.2 + 117)), (1, .int x1), (2, .long x2), (5, .int x5), (6, .int x6)]) C.1 C.2.1 dX7_rank_113 hl (by decide) rfl (fun ls hl => ?_)
      refine lv_iinc (v := (x5 + 1)) (lv' := [(5, .int (x5 + 1)), (4, .int r3), (0, .ref (G.2.2 + 117)), (1, .int x1), (2, .long x2), (6, .int x6)]) C.1 C.2.1 dX7_rank_115 hl (k := 4) rfl rfl (by decide) rfl (fun ls hl => ?_)
      refine lv_goto (tgt := 27) C.1 C.2.1 dX7_rank_118 (by decide) ?_
      exact hK27 x1 x2 r3 ((x5 + 1)) _ _ _ _ S (lv_sub hl [2, 3, 4, 1, 0] rfl) h
    · replace h := h.2 c1
      refine lv_lload_n C.1 C.2.1 dX7_rank_65 rfl (lv_at hl 2 rfl) ?_
      refine lv_aload_n C.1 C.2.1 dX7_rank_66 rfl (lv_at hl 0 rfl) ?_
      refine lv_iload C.1 C.2.1 dX7_rank_67 (lv_at hl 3 rfl) ?_
      refine lv_iload C.1 C.2.1 dX7_rank_69 (lv_at hl 5 rfl) ?_
      refine k_i (r_V (As := [.int x4, .int x6]) (rest := [.long x2]) C hml (c_X7_may l G x4 x6 σ _ h) kM_X7_may im_X7_may se_X7_may ml_X7_128 ⟨rfl, rfl⟩ ⟨Nat.le_of_ble_eq_true rfl, Nat.le_of_ble_eq_true rfl⟩ hcs S kd_117 (by decide) (T := TX7) (N := 17) rfl rfl hl.1 rfl (Nat.le_of_ble_eq_true rfl) dX7_rank_71) S (fun r5 σ4 H locs h S => ?_)
      refine lv_if_eq (tgt := 92) C.1 C.2.1 dX7_rank_74 (by decide) (fun c6 => ?_) (fun c6 => ?_)
      · replace h := h.1 c6
        refine lv_lconst (v := (0 : Int64)) C.1 C.2.1 dX7_rank_92 (by decide) ?_
        refine lv_ladd C.1 C.2.1 dX7_rank_93 ?_
        refine lv_lstore_n (lv' := [(2, .long (x2 + (0 : Int64))), (0, .ref (G.2.2 + 117)), (1, .int x1), (4, .int x4), (5, .int x5), (6, .int x6)]) C.1 C.2.1 dX7_rank_94 rfl hl (by decide) rfl (fun ls hl => ?_)
        refine lv_iinc (v := (x6 + 1)) (lv' := [(6, .int (x6 + 1)), (2, .long (x2 + (0 : Int64))), (0, .ref (G.2.2 + 117)), (1, .int x1), (4, .int x4), (5, .int x5)]) C.1 C.2.1 dX7_rank_95 hl (k := 5) rfl rfl (by decide) rfl (fun ls hl => ?_)
        refine lv_goto (tgt := 53) C.1 C.2.1 dX7_rank_98 (by decide) ?_
        exact ih x1 ((x2 + (0 : Int64))) x4 x5 ((x6 + 1)) _ _ _ _ S (lv_sub hl [2, 3, 1, 4, 5, 0] rfl) h
      · replace h := h.2 c6
        refine lv_aload_n C.1 C.2.1 dX7_rank_77 rfl (lv_at hl 0 rfl) ?_
        refine g_X7_15 C fl_X7_45 kd_117 S fn_117_15 dX7_rank_78 ?_
        refine lv_iload C.1 C.2.1 dX7_rank_81 (lv_at hl 3 rfl) ?_
        refine lv_iload C.1 C.2.1 dX7_rank_83 (lv_at hl 5 rfl) ?_
        refine k_i (r_S (As := [.int x4, .int x6]) (rest := [.ref (G.2.2 + 129), .long x2]) C hml (c_X7_with l G x4 x6 σ4 _ h) kM_X7_with st_X7_with ml_X7_143 ⟨rfl, rfl⟩ ⟨Nat.le_of_ble_eq_true rfl, Nat.le_of_ble_eq_true rfl⟩ hcs S rfl hl.1 rfl (Nat.le_of_ble_eq_true rfl) dX7_rank_85) S (fun r8 σ7 H locs h S => ?_)
        refine a_lld C kd_129 S ln_129 h.1 dX7_rank_88 ?_
        replace h := h.2
        refine lv_goto (tgt := 93) C.1 C.2.1 dX7_rank_89 (by decide) ?_
        refine lv_ladd C.1 C.2.1 dX7_rank_93 ?_
        refine lv_lstore_n (lv' := [(2, .long (x2 + (σ7.2.1 129 (r8).toNatClampNeg))), (0, .ref (G.2.2 + 117)), (1, .int x1), (4, .int x4), (5, .int x5), (6, .int x6)]) C.1 C.2.1 dX7_rank_94 rfl hl (by decide) rfl (fun ls hl => ?_)
        refine lv_iinc (v := (x6 + 1)) (lv' := [(6, .int (x6 + 1)), (2, .long (x2 + (σ7.2.1 129 (r8).toNatClampNeg))), (0, .ref (G.2.2 + 117)), (1, .int x1), (4, .int x4), (5, .int x5)]) C.1 C.2.1 dX7_rank_95 hl (k := 5) rfl rfl (by decide) rfl (fun ls hl => ?_)
        refine lv_goto (tgt := 53) C.1 C.2.1 dX7_rank_98 (by decide) ?_
        exact ih x1 ((x2 + (σ7.2.1 129 (r8).toNatClampNeg))) x4 x5 ((x6 + 1)) _ _ _ _ S (lv_sub hl [2, 3, 1, 4, 5, 0] rfl) h
set_option maxHeartbeats 4000000 in
set_option maxRecDepth 100000 in
theorem TX7_rank_27 (C : s_C G p s args m c RX7 cX7_rank) (hml : c.maxLocals = 7) (hcs : cells ≤ (rm_X7_rank).cells ∧ slots ≤ (rm_X7_rank).slots)  {post : Int64 → Sg → Prop} (hR : ∀ (r : Int64) (σ1 : Sg) (H : Heap) (locs : List Loc) (pc : Nat) (ls : Array Slot), decode cX7_rank pc = .ok (.lreturn, 1) → post r σ1 → s_St G σ1 H0 H locs → W p l e rm_X7_rank s m args below meth c H locs cells slots Q (F0 m pc ls [.long r])) : ∀ (n : Nat) (x1 : Int32) (x2 : Int64) (x4 : Int32) (x5 : Int32), ∀ {σ : Sg} {H : Heap} {locs : List Loc} {ls : Array Slot}, s_St G σ H0 H locs → lv_has ls 7 [(0, .ref (G.2.2 + 117)), (1, .int x1), (2, .long x2), (4, .int x4), (5, .int x5)] → BX7_rank_27 post n x1 x2 x4 x5 σ → W p l e rm_X7_rank s m args below meth c H locs cells slots Q (F0 m 27 ls []) := by
  intro n
  induction n with
  | zero =>
    intro x1 x2 x4 x5  σ H locs ls S hl h
    exact absurd h (fun h => h)
  | succ n ih0 =>
    have ih : ∀ (x1 : Int32) (x2 : Int64) (x4 : Int32) (x5 : Int32), ∀ (σ : Sg) (H : Heap) (locs : List Loc) (ls : Array Slot), s_St G σ H0 H locs → lv_has ls 7 [(0, .ref (G.2.2 + 117)), (1, .int x1), (2, .long x2), (4, .int x4), (5, .int x5)] → BX7_rank_27 post n x1 x2 x4 x5 σ → W p l e rm_X7_rank s m args below meth c H locs cells slots Q (F0 m 27 ls []) := fun x1 x2 x4 x5  _ _ _ _ => ih0 x1 x2 x4 x5 
    intro x1 x2 x4 x5  σ H locs ls S hl h
    refine lv_iload C.1 C.2.1 dX7_rank_27 (lv_at hl 4 rfl) ?_
    refine lv_iload_n C.1 C.2.1 dX7_rank_29 rfl (lv_at hl 1 rfl) ?_
    refine lv_icmp_ge (tgt := 121) C.1 C.2.1 dX7_rank_30 (by decide) (fun c9 => ?_) (fun c9 => ?_)
    · replace h := h.1 c9
      refine lv_lload_n C.1 C.2.1 dX7_rank_121 rfl (lv_at hl 2 rfl) ?_
      exact hR _ _ _ _ _ _ dX7_rank_122 h S
    · replace h := h.2 c9
      refine lv_lload_n C.1 C.2.1 dX7_rank_33 rfl (lv_at hl 2 rfl) ?_
      refine lv_aload_n C.1 C.2.1 dX7_rank_34 rfl (lv_at hl 0 rfl) ?_
      refine lv_iload C.1 C.2.1 dX7_rank_35 (lv_at hl 3 rfl) ?_
      refine k_i (r_V (As := [.int x4]) (rest := [.long x2]) C hml (c_X7_isWhole l G x4 σ _ h) kM_X7_isWhole im_X7_isWhole se_X7_isWhole ml_X7_146 ⟨rfl, rfl⟩ ⟨Nat.le_of_ble_eq_true rfl, Nat.le_of_ble_eq_true rfl⟩ hcs S kd_117 (by decide) (T := TX7) (N := 17) rfl rfl hl.1 rfl (Nat.le_of_ble_eq_true rfl) dX7_rank_37) S (fun r11 σ10 H locs h S => ?_)
      refine lv_if_eq (tgt := 47) C.1 C.2.1 dX7_rank_40 (by decide) (fun c12 => ?_) (fun c12 => ?_)
      · replace h := h.1 c12
        refine lv_lconst (v := (0 : Int64)) C.1 C.2.1 dX7_rank_47 (by decide) ?_
        refine lv_ladd C.1 C.2.1 dX7_rank_48 ?_
        refine lv_lstore_n (lv' := [(2, .long (x2 + (0 : Int64))), (0, .ref (G.2.2 + 117)), (1, .int x1), (4, .int x4), (5, .int x5)]) C.1 C.2.1 dX7_rank_49 rfl hl (by decide) rfl (fun ls hl => ?_)
        refine lv_iconst (v := (0 : Int32)) C.1 C.2.1 dX7_rank_50 (by decide) ?_
        refine lv_istore (lv' := [(6, .int (0 : Int32)), (2, .long (x2 + (0 : Int64))), (0, .ref (G.2.2 + 117)), (1, .int x1), (4, .int x4), (5, .int x5)]) C.1 C.2.1 dX7_rank_51 hl (by decide) rfl (fun ls hl => ?_)
        obtain ⟨nf, h⟩ := h
        exact TX7_rank_53 C hml hcs hR ih nf x1 ((x2 + (0 : Int64))) x4 x5 ((0 : Int32)) S (lv_sub hl [2, 3, 1, 4, 5, 0] rfl) h
      · replace h := h.2 c12
        refine lv_lconst (v := (1 : Int64)) C.1 C.2.1 dX7_rank_43 (by decide) ?_
        refine lv_goto (tgt := 48) C.1 C.2.1 dX7_rank_44 (by decide) ?_
        refine lv_ladd C.1 C.2.1 dX7_rank_48 ?_
        refine lv_lstore_n (lv' := [(2, .long (x2 + (1 : Int64))), (0, .ref (G.2.2 + 117)), (1, .int x1), (4, .int x4), (5, .int x5)]) C.1 C.2.1 dX7_rank_49 rfl hl (by decide) rfl (fun ls hl => ?_)
        refine lv_iconst (v := (0 : Int32)) C.1 C.2.1 dX7_rank_50 (by decide) ?_
        refine lv_istore (lv' := [(6, .int (0 : Int32)), (2, .long (x2 + (1 : Int64))), (0, .ref (G.2.2 + 117)), (1, .int x1), (4, .int x4), (5, .int x5)]) C.1 C.2.1 dX7_rank_51 hl (by decide) rfl (fun ls hl => ?_)
        obtain ⟨nf, h⟩ := h
        exact TX7_rank_53 C hml hcs hR ih nf x1 ((x2 + (1 : Int64))) x4 x5 ((0 : Int32)) S (lv_sub hl [2, 3, 1, 4, 5, 0] rfl) h
theorem kM_X7_rank : s_M yX7_rank cX7_rank 7 (some .long) 0 := ⟨co_X7_rank, in_X7, by decide, by decide, by decide +kernel⟩
set_option maxHeartbeats 4000000 in
set_option maxRecDepth 100000 in
theorem c_X7_rank (l : Launch) (G : s_G)  (σ : Sg) (post : Int64 → Sg → Prop) (h : wpX7_rank σ post) : Met l yX7_rank (wsU yX7_rank cX7_rank 7 (some .long)) rm_X7_rank (va_Pc [.ref (G.2.2 + 117)] (s_Pre G σ)) (va_Ql post (s_B G) (s_A G.2.2)) 0 0 (s_A G.2.2) := by
  refine Met.ofW (cc := cX7_rank) (maxL := 7) (ret := (some .long)) (by decide) rfl ?_
  intro p e s m args below meth c s₁ B hml hv
  obtain ⟨rfl, hP, hrok, hK, hN⟩ := hv
  have C : s_C G p s (([.ref (G.2.2 + 117)] : List Value).toArray) m c RX7 cX7_rank := ⟨B.exec, B.bytes, findClass_of_methodNamed B.named, fun w hw => atoms_spec (ws := wsU yX7_rank cX7_rank 7 (some .long)) B.pre w (List.mem_cons_of_mem _ hw), hK, hN⟩
  have hr := B.returns
  have hlocks := B.notSynchronized
  have S : s_St G σ s.heap s.heap [] := ⟨hP, va_S.rf, hrok⟩
  have hcs : 0 ≤ (rm_X7_rank).cells ∧ 0 ≤ (rm_X7_rank).slots := ⟨Nat.le_refl 0, Nat.le_refl 0⟩
  have hR : ∀ (r : Int64) (σ1 : Sg) (H : Heap) (locs : List Loc) (pc : Nat) (ls : Array Slot), decode cX7_rank pc = .ok (.lreturn, 1) → post r σ1 → s_St G σ1 s.heap H locs → W p l e rm_X7_rank s m ([.ref (G.2.2 + 117)] : List Value).toArray below meth c H locs 0 0 (MQ below (va_Ql post (s_B G) (s_A G.2.2)) ([.ref (G.2.2 + 117)] : List Value).toArray s 0 0 (s_A G.2.2)) (F0 m pc ls [.long r]) := fun _ _ _ _ _ _ hd hp S => ret_l C hr hlocks hd hp S
  have hl := lv_entry ([.ref (G.2.2 + 117)]) (n := 7) (Nat.le_of_ble_eq_true rfl)
  rw [lg_entry_eq]
  generalize (lg_sl ([.ref (G.2.2 + 117)]) ++ List.replicate (7 - (lg_sl ([.ref (G.2.2 + 117)])).length) Slot.unset).toArray = ls at hl ⊢
  have hl : lv_has ls 7 [(0, .ref (G.2.2 + 117))] := hl
  unfold wpX7_rank at h
  refine lv_aload_n C.1 C.2.1 dX7_rank_0 rfl (lv_at hl 0 rfl) ?_
  refine k_i (r_V (As := []) (rest := []) C hml (c_X7_layReading l G σ _ h) kM_X7_layReading im_X7_layReading se_X7_layReading ml_X7_165 ⟨rfl, rfl⟩ ⟨Nat.le_of_ble_eq_true rfl, Nat.le_of_ble_eq_true rfl⟩ hcs S kd_117 (by decide) (T := TX7) (N := 17) rfl rfl hl.1 rfl (Nat.le_of_ble_eq_true rfl) dX7_rank_1) S (fun r14 σ13 H locs h S => ?_)
  refine lv_istore_n (lv' := [(1, .int r14), (0, .ref (G.2.2 + 117))]) C.1 C.2.1 dX7_rank_4 rfl hl (by decide) rfl (fun ls hl => ?_)
  refine lv_iload_n C.1 C.2.1 dX7_rank_5 rfl (lv_at hl 0 rfl) ?_
  refine lv_bipush (v := (-9 : Int32)) C.1 C.2.1 dX7_rank_6 (by decide) ?_
  refine lv_icmp_ne (tgt := 15) C.1 C.2.1 dX7_rank_8 (by decide) (fun c15 => ?_) (fun c15 => ?_)
  · replace h := h.1 c15
    refine lv_aload_n C.1 C.2.1 dX7_rank_15 rfl (lv_at hl 1 rfl) ?_
    refine k_v (r_V (As := []) (rest := []) C hml (c_X7_layOrders l G σ13 _ h) kM_X7_layOrders im_X7_layOrders se_X7_layOrders ml_X7_183 ⟨rfl, rfl⟩ ⟨Nat.le_of_ble_eq_true rfl, Nat.le_of_ble_eq_true rfl⟩ hcs S kd_117 (by decide) (T := TX7) (N := 17) rfl rfl hl.1 rfl (Nat.le_of_ble_eq_true rfl) dX7_rank_16) S (fun σ16 H locs h S => ?_)
    refine lv_lconst (v := (0 : Int64)) C.1 C.2.1 dX7_rank_19 (by decide) ?_
    refine lv_lstore_n (lv' := [(2, .long (0 : Int64)), (1, .int r14), (0, .ref (G.2.2 + 117))]) C.1 C.2.1 dX7_rank_20 rfl hl (by decide) rfl (fun ls hl => ?_)
    refine lv_iconst (v := (0 : Int32)) C.1 C.2.1 dX7_rank_21 (by decide) ?_
    refine lv_istore (lv' := [(4, .int (0 : Int32)), (2, .long (0 : Int64)), (1, .int r14), (0, .ref (G.2.2 + 117))]) C.1 C.2.1 dX7_rank_22 hl (by decide) rfl (fun ls hl => ?_)
    refine lv_iconst (v := (0 : Int32)) C.1 C.2.1 dX7_rank_24 (by decide) ?_
    refine lv_istore (lv' := [(5, .int (0 : Int32)), (4, .int (0 : Int32)), (2, .long (0 : Int64)), (1, .int r14), (0, .ref (G.2.2 + 117))]) C.1 C.2.1 dX7_rank_25 hl (by decide) rfl (fun ls hl => ?_)
    obtain ⟨nf, h⟩ := h
    exact TX7_rank_27 C hml hcs hR nf r14 ((0 : Int64)) ((0 : Int32)) ((0 : Int32)) S (lv_sub hl [4, 3, 2, 1, 0] rfl) h
  · replace h := h.2 c15
    refine lv_ldc2 (v := (-2 : Int64)) C.1 C.2.1 C.2.2.1 (C.2.2.2.1 _ cl_X7_189) dX7_rank_11 ?_
    exact hR _ _ _ _ _ _ dX7_rank_14 h S
/-! X7_readings -/
abbrev rm_X7_readings : Room := { frames := 6, cells := 0, slots := 0, locals := 139 }
def wpX7_readings  (σ : Sg) (post : Int32 → Sg → Prop) : Prop := wpX7_layWays σ (fun σ1 => (vp_in ((0 : Int32)) 249856 ∧ post ((σ1.1 124 ((0 : Int32)).toNatClampNeg)) σ1))
theorem kM_X7_readings : s_M yX7_readings cX7_readings 1 (some .int) 0 := ⟨co_X7_readings, in_X7, by decide, by decide, by decide +kernel⟩
set_option maxHeartbeats 4000000 in
set_option maxRecDepth 100000 in
theorem c_X7_readings (l : Launch) (G : s_G)  (σ : Sg) (post : Int32 → Sg → Prop) (h : wpX7_readings σ post) : Met l yX7_readings (wsU yX7_readings cX7_readings 1 (some .int)) rm_X7_readings (va_Pc [.ref (G.2.2 + 117)] (s_Pre G σ)) (va_Qi post (s_B G) (s_A G.2.2)) 0 0 (s_A G.2.2) := by
  refine Met.ofW (cc := cX7_readings) (maxL := 1) (ret := (some .int)) (by decide) rfl ?_
  intro p e s m args below meth c s₁ B hml hv
  obtain ⟨rfl, hP, hrok, hK, hN⟩ := hv
  have C : s_C G p s (([.ref (G.2.2 + 117)] : List Value).toArray) m c RX7 cX7_readings := ⟨B.exec, B.bytes, findClass_of_methodNamed B.named, fun w hw => atoms_spec (ws := wsU yX7_readings cX7_readings 1 (some .int)) B.pre w (List.mem_cons_of_mem _ hw), hK, hN⟩
  have hr := B.returns
  have hlocks := B.notSynchronized
  have S : s_St G σ s.heap s.heap [] := ⟨hP, va_S.rf, hrok⟩
  have hcs : 0 ≤ (rm_X7_readings).cells ∧ 0 ≤ (rm_X7_readings).slots := ⟨Nat.le_refl 0, Nat.le_refl 0⟩
  have hR : ∀ (r : Int32) (σ1 : Sg) (H : Heap) (locs : List Loc) (pc : Nat) (ls : Array Slot), decode cX7_readings pc = .ok (.ireturn, 1) → post r σ1 → s_St G σ1 s.heap H locs → W p l e rm_X7_readings s m ([.ref (G.2.2 + 117)] : List Value).toArray below meth c H locs 0 0 (MQ below (va_Qi post (s_B G) (s_A G.2.2)) ([.ref (G.2.2 + 117)] : List Value).toArray s 0 0 (s_A G.2.2)) (F0 m pc ls [.int r]) := fun _ _ _ _ _ _ hd hp S => ret_i C hr hlocks hd hp S
  have hl := lv_entry ([.ref (G.2.2 + 117)]) (n := 1) (Nat.le_of_ble_eq_true rfl)
  rw [lg_entry_eq]
  generalize (lg_sl ([.ref (G.2.2 + 117)]) ++ List.replicate (1 - (lg_sl ([.ref (G.2.2 + 117)])).length) Slot.unset).toArray = ls at hl ⊢
  have hl : lv_has ls 1 [(0, .ref (G.2.2 + 117))] := hl
  unfold wpX7_readings at h
  refine lv_aload_n C.1 C.2.1 dX7_readings_0 rfl (lv_at hl 0 rfl) ?_
  refine k_v (r_V (As := []) (rest := []) C hml (c_X7_layWays l G σ _ h) kM_X7_layWays im_X7_layWays se_X7_layWays ml_X7_156 ⟨rfl, rfl⟩ ⟨Nat.le_of_ble_eq_true rfl, Nat.le_of_ble_eq_true rfl⟩ hcs S kd_117 (by decide) (T := TX7) (N := 17) rfl rfl hl.1 rfl (Nat.le_of_ble_eq_true rfl) dX7_readings_1) S (fun σ1 H locs h S => ?_)
  refine lv_aload_n C.1 C.2.1 dX7_readings_4 rfl (lv_at hl 0 rfl) ?_
  refine g_X7_9 C fl_X7_30 kd_117 S fn_117_9 dX7_readings_5 ?_
  refine lv_iconst (v := (0 : Int32)) C.1 C.2.1 dX7_readings_8 (by decide) ?_
  refine a_ild C kd_124 S ln_124 h.1 dX7_readings_9 ?_
  replace h := h.2
  exact hR _ _ _ _ _ _ dX7_readings_10 h S
/-! X7_remove -/
abbrev rm_X7_remove : Room := { frames := 3, cells := 0, slots := 0, locals := 69 }
def BX7_remove_25 (x1 : Int32) (post : Int32 → Sg → Prop) : Nat → Int32 → Int32 → Sg → Prop
  | 0, _, _, _ => False
  | n + 1, x2, x3, σ => (((x2 ≤ x3) → wpX7_arrange x2 σ (fun σ2 => post x2 σ2)) ∧ ((¬ x2 ≤ x3) → (((x1 ≤ x3) → (vp_in x3 6 ∧ (∀ σ4 : Sg, σ4 = setI σ 122 (x3).toNatClampNeg ((x3 + (1 : Int32))) → BX7_remove_25 x1 post n x2 ((x3 + 1)) σ4))) ∧ ((¬ x1 ≤ x3) → (vp_in x3 6 ∧ (∀ σ6 : Sg, σ6 = setI σ 122 (x3).toNatClampNeg x3 → BX7_remove_25 x1 post n x2 ((x3 + 1)) σ6))))))
def wpX7_remove (x1 : Int32) (σ : Sg) (post : Int32 → Sg → Prop) : Prop := wpX7_isMember x1 σ (fun r9 σ8 => (((¬ r9 = 0) → wpX7_remember σ8 (fun σ11 => (vp_in ((0 : Int32)) 50 ∧ ∃ nf, BX7_remove_25 x1 post nf (((σ11.1 118 ((0 : Int32)).toNatClampNeg) - (1 : Int32))) ((0 : Int32)) σ11))) ∧ ((r9 = 0) → post ((-1 : Int32)) σ8)))
set_option maxHeartbeats 4000000 in
set_option maxRecDepth 100000 in
theorem TX7_remove_25 (C : s_C G p s args m c RX7 cX7_remove) (hml : c.maxLocals = 4) (hcs : cells ≤ (rm_X7_remove).cells ∧ slots ≤ (rm_X7_remove).slots) {x1 : Int32} {post : Int32 → Sg → Prop} (hR : ∀ (r : Int32) (σ1 : Sg) (H : Heap) (locs : List Loc) (pc : Nat) (ls : Array Slot), decode cX7_remove pc = .ok (.ireturn, 1) → post r σ1 → s_St G σ1 H0 H locs → W p l e rm_X7_remove s m args below meth c H locs cells slots Q (F0 m pc ls [.int r])) : ∀ (n : Nat) (x2 : Int32) (x3 : Int32), ∀ {σ : Sg} {H : Heap} {locs : List Loc} {ls : Array Slot}, s_St G σ H0 H locs → lv_has ls 4 [(0, .ref (G.2.2 + 117)), (1, .int x1), (2, .int x2), (3, .int x3)] → BX7_remove_25 x1 post n x2 x3 σ → W p l e rm_X7_remove s m args below meth c H locs cells slots Q (F0 m 25 ls []) := by
  intro n
  induction n with
  | zero =>
    intro x2 x3  σ H locs ls S hl h
    exact absurd h (fun h => h)
  | succ n ih0 =>
    have ih : ∀ (x2 : Int32) (x3 : Int32), ∀ (σ : Sg) (H : Heap) (locs : List Loc) (ls : Array Slot), s_St G σ H0 H locs → lv_has ls 4 [(0, .ref (G.2.2 + 117)), (1, .int x1), (2, .int x2), (3, .int x3)] → BX7_remove_25 x1 post n x2 x3 σ → W p l e rm_X7_remove s m args below meth c H locs cells slots Q (F0 m 25 ls []) := fun x2 x3  _ _ _ _ => ih0 x2 x3 
    intro x2 x3  σ H locs ls S hl h
    refine lv_iload_n C.1 C.2.1 dX7_remove_25 rfl (lv_at hl 3 rfl) ?_
    refine lv_iload_n C.1 C.2.1 dX7_remove_26 rfl (lv_at hl 2 rfl) ?_
    refine lv_icmp_ge (tgt := 54) C.1 C.2.1 dX7_remove_27 (by decide) (fun c1 => ?_) (fun c1 => ?_)
    · replace h := h.1 c1
      refine lv_aload_n C.1 C.2.1 dX7_remove_54 rfl (lv_at hl 0 rfl) ?_
      refine lv_iload_n C.1 C.2.1 dX7_remove_55 rfl (lv_at hl 2 rfl) ?_
      refine k_v (r_V (As := [.int x2]) (rest := []) C hml (c_X7_arrange l G x2 σ _ h) kM_X7_arrange im_X7_arrange se_X7_arrange ml_X7_102 ⟨rfl, rfl⟩ ⟨Nat.le_of_ble_eq_true rfl, Nat.le_of_ble_eq_true rfl⟩ hcs S kd_117 (by decide) (T := TX7) (N := 17) rfl rfl hl.1 rfl (Nat.le_of_ble_eq_true rfl) dX7_remove_56) S (fun σ2 H locs h S => ?_)
      refine lv_iload_n C.1 C.2.1 dX7_remove_59 rfl (lv_at hl 2 rfl) ?_
      exact hR _ _ _ _ _ _ dX7_remove_60 h S
    · replace h := h.2 c1
      refine lv_aload_n C.1 C.2.1 dX7_remove_30 rfl (lv_at hl 0 rfl) ?_
      refine g_X7_7 C fl_X7_22 kd_117 S fn_117_7 dX7_remove_31 ?_
      refine lv_iload_n C.1 C.2.1 dX7_remove_34 rfl (lv_at hl 3 rfl) ?_
      refine lv_iload_n C.1 C.2.1 dX7_remove_35 rfl (lv_at hl 3 rfl) ?_
      refine lv_iload_n C.1 C.2.1 dX7_remove_36 rfl (lv_at hl 1 rfl) ?_
      refine lv_icmp_ge (tgt := 44) C.1 C.2.1 dX7_remove_37 (by decide) (fun c3 => ?_) (fun c3 => ?_)
      · replace h := h.1 c3
        refine lv_iload_n C.1 C.2.1 dX7_remove_44 rfl (lv_at hl 3 rfl) ?_
        refine lv_iconst (v := (1 : Int32)) C.1 C.2.1 dX7_remove_45 (by decide) ?_
        refine lv_iadd C.1 C.2.1 dX7_remove_46 ?_
        refine a_ist C kd_122 S ln_122 h.1 dX7_remove_47 (fun σ4 H locs e5 S => ?_)
        replace h := h.2 σ4 e5
        refine lv_iinc (v := (x3 + 1)) (lv' := [(3, .int (x3 + 1)), (0, .ref (G.2.2 + 117)), (1, .int x1), (2, .int x2)]) C.1 C.2.1 dX7_remove_48 hl (k := 3) rfl rfl (by decide) rfl (fun ls hl => ?_)
        refine lv_goto (tgt := 25) C.1 C.2.1 dX7_remove_51 (by decide) ?_
        exact ih x2 ((x3 + 1)) _ _ _ _ S (lv_sub hl [1, 2, 3, 0] rfl) h
      · replace h := h.2 c3
        refine lv_iload_n C.1 C.2.1 dX7_remove_40 rfl (lv_at hl 3 rfl) ?_
        refine lv_goto (tgt := 47) C.1 C.2.1 dX7_remove_41 (by decide) ?_
        refine a_ist C kd_122 S ln_122 h.1 dX7_remove_47 (fun σ6 H locs e7 S => ?_)
        replace h := h.2 σ6 e7
        refine lv_iinc (v := (x3 + 1)) (lv' := [(3, .int (x3 + 1)), (0, .ref (G.2.2 + 117)), (1, .int x1), (2, .int x2)]) C.1 C.2.1 dX7_remove_48 hl (k := 3) rfl rfl (by decide) rfl (fun ls hl => ?_)
        refine lv_goto (tgt := 25) C.1 C.2.1 dX7_remove_51 (by decide) ?_
        exact ih x2 ((x3 + 1)) _ _ _ _ S (lv_sub hl [1, 2, 3, 0] rfl) h
theorem kM_X7_remove : s_M yX7_remove cX7_remove 4 (some .int) 1 := ⟨co_X7_remove, in_X7, by decide, by decide, by decide +kernel⟩
set_option maxHeartbeats 4000000 in
set_option maxRecDepth 100000 in
theorem c_X7_remove (l : Launch) (G : s_G) (x1 : Int32) (σ : Sg) (post : Int32 → Sg → Prop) (h : wpX7_remove x1 σ post) : Met l yX7_remove (wsU yX7_remove cX7_remove 4 (some .int)) rm_X7_remove (va_Pc [.ref (G.2.2 + 117), .int x1] (s_Pre G σ)) (va_Qi post (s_B G) (s_A G.2.2)) 0 0 (s_A G.2.2) := by
  refine Met.ofW (cc := cX7_remove) (maxL := 4) (ret := (some .int)) (by decide) rfl ?_
  intro p e s m args below meth c s₁ B hml hv
  obtain ⟨rfl, hP, hrok, hK, hN⟩ := hv
  have C : s_C G p s (([.ref (G.2.2 + 117), .int x1] : List Value).toArray) m c RX7 cX7_remove := ⟨B.exec, B.bytes, findClass_of_methodNamed B.named, fun w hw => atoms_spec (ws := wsU yX7_remove cX7_remove 4 (some .int)) B.pre w (List.mem_cons_of_mem _ hw), hK, hN⟩
  have hr := B.returns
  have hlocks := B.notSynchronized
  have S : s_St G σ s.heap s.heap [] := ⟨hP, va_S.rf, hrok⟩
  have hcs : 0 ≤ (rm_X7_remove).cells ∧ 0 ≤ (rm_X7_remove).slots := ⟨Nat.le_refl 0, Nat.le_refl 0⟩
  have hR : ∀ (r : Int32) (σ1 : Sg) (H : Heap) (locs : List Loc) (pc : Nat) (ls : Array Slot), decode cX7_remove pc = .ok (.ireturn, 1) → post r σ1 → s_St G σ1 s.heap H locs → W p l e rm_X7_remove s m ([.ref (G.2.2 + 117), .int x1] : List Value).toArray below meth c H locs 0 0 (MQ below (va_Qi post (s_B G) (s_A G.2.2)) ([.ref (G.2.2 + 117), .int x1] : List Value).toArray s 0 0 (s_A G.2.2)) (F0 m pc ls [.int r]) := fun _ _ _ _ _ _ hd hp S => ret_i C hr hlocks hd hp S
  have hl := lv_entry ([.ref (G.2.2 + 117), .int x1]) (n := 4) (Nat.le_of_ble_eq_true rfl)
  rw [lg_entry_eq]
  generalize (lg_sl ([.ref (G.2.2 + 117), .int x1]) ++ List.replicate (4 - (lg_sl ([.ref (G.2.2 + 117), .int x1])).length) Slot.unset).toArray = ls at hl ⊢
  have hl : lv_has ls 4 [(0, .ref (G.2.2 + 117)), (1, .int x1)] := hl
  unfold wpX7_remove at h
  refine lv_aload_n C.1 C.2.1 dX7_remove_0 rfl (lv_at hl 0 rfl) ?_
  refine lv_iload_n C.1 C.2.1 dX7_remove_1 rfl (lv_at hl 1 rfl) ?_
  refine k_i (r_V (As := [.int x1]) (rest := []) C hml (c_X7_isMember l G x1 σ _ h) kM_X7_isMember im_X7_isMember se_X7_isMember ml_X7_99 ⟨rfl, rfl⟩ ⟨Nat.le_of_ble_eq_true rfl, Nat.le_of_ble_eq_true rfl⟩ hcs S kd_117 (by decide) (T := TX7) (N := 17) rfl rfl hl.1 rfl (Nat.le_of_ble_eq_true rfl) dX7_remove_2) S (fun r9 σ8 H locs h S => ?_)
  refine lv_if_ne (tgt := 10) C.1 C.2.1 dX7_remove_5 (by decide) (fun c10 => ?_) (fun c10 => ?_)
  · replace h := h.1 c10
    refine lv_aload_n C.1 C.2.1 dX7_remove_10 rfl (lv_at hl 0 rfl) ?_
    refine k_v (r_V (As := []) (rest := []) C hml (c_X7_remember l G σ8 _ h) kM_X7_remember im_X7_remember se_X7_remember ml_X7_86 ⟨rfl, rfl⟩ ⟨Nat.le_of_ble_eq_true rfl, Nat.le_of_ble_eq_true rfl⟩ hcs S kd_117 (by decide) (T := TX7) (N := 17) rfl rfl hl.1 rfl (Nat.le_of_ble_eq_true rfl) dX7_remove_11) S (fun σ11 H locs h S => ?_)
    refine lv_aload_n C.1 C.2.1 dX7_remove_14 rfl (lv_at hl 0 rfl) ?_
    refine g_X7_0 C fl_X7_7 kd_117 S fn_117_0 dX7_remove_15 ?_
    refine lv_iconst (v := (0 : Int32)) C.1 C.2.1 dX7_remove_18 (by decide) ?_
    refine a_ild C kd_118 S ln_118 h.1 dX7_remove_19 ?_
    replace h := h.2
    refine lv_iconst (v := (1 : Int32)) C.1 C.2.1 dX7_remove_20 (by decide) ?_
    refine lv_isub C.1 C.2.1 dX7_remove_21 ?_
    refine lv_istore_n (lv' := [(2, .int ((σ11.1 118 ((0 : Int32)).toNatClampNeg) - (1 : Int32))), (0, .ref (G.2.2 + 117)), (1, .int x1)]) C.1 C.2.1 dX7_remove_22 rfl hl (by decide) rfl (fun ls hl => ?_)
    refine lv_iconst (v := (0 : Int32)) C.1 C.2.1 dX7_remove_23 (by decide) ?_
    refine lv_istore_n (lv' := [(3, .int (0 : Int32)), (2, .int ((σ11.1 118 ((0 : Int32)).toNatClampNeg) - (1 : Int32))), (0, .ref (G.2.2 + 117)), (1, .int x1)]) C.1 C.2.1 dX7_remove_24 rfl hl (by decide) rfl (fun ls hl => ?_)
    obtain ⟨nf, h⟩ := h
    exact TX7_remove_25 C hml hcs hR nf (((σ11.1 118 ((0 : Int32)).toNatClampNeg) - (1 : Int32))) ((0 : Int32)) S (lv_sub hl [2, 3, 1, 0] rfl) h
  · replace h := h.2 c10
    refine lv_iconst (v := (-1 : Int32)) C.1 C.2.1 dX7_remove_8 (by decide) ?_
    exact hR _ _ _ _ _ _ dX7_remove_9 h S
/-! X7_rule -/
abbrev rm_X7_rule : Room := { frames := 2, cells := 0, slots := 0, locals := 43 }
def BX7_rule_57 (x1 : Int32) (x2 : Int32) (x3 : Int32) (post : Int32 → Sg → Prop) (y0 : Int32) (σ : Sg) : Prop := (((¬ x3 = (1 : Int32)) → (vp_in (((44 : Int32) + x1)) 50 ∧ (vp_in (((44 : Int32) + x1)) 50 ∧ (∀ σ2 : Sg, σ2 = setI σ 118 (((44 : Int32) + x1)).toNatClampNeg (((σ.1 118 (((44 : Int32) + x1)).toNatClampNeg) &&& (((1 : Int32) <<< (x2 &&& 31)) ^^^ (-1 : Int32)))) → post y0 σ2)))) ∧ ((x3 = (1 : Int32)) → (vp_in (((44 : Int32) + x1)) 50 ∧ (vp_in (((44 : Int32) + x1)) 50 ∧ (∀ σ4 : Sg, σ4 = setI σ 118 (((44 : Int32) + x1)).toNatClampNeg (((σ.1 118 (((44 : Int32) + x1)).toNatClampNeg) ||| ((1 : Int32) <<< (x2 &&& 31)))) → post y0 σ4)))))
def wpX7_rule (x1 : Int32) (x2 : Int32) (x3 : Int32) (σ : Sg) (post : Int32 → Sg → Prop) : Prop := wpX7_isMember x1 σ (fun r7 σ6 => (((r7 = 0) → post ((-1 : Int32)) σ6) ∧ ((¬ r7 = 0) → wpX7_isMember x2 σ6 (fun r10 σ9 => (((r10 = 0) → post ((-1 : Int32)) σ9) ∧ ((¬ r10 = 0) → (((x1 = x2) → post ((-1 : Int32)) σ9) ∧ ((¬ x1 = x2) → wpX7_isIn x3 ((0 : Int32)) ((1 : Int32)) σ9 (fun r14 σ13 => (((¬ r14 = 0) → wpX7_remember σ13 (fun σ16 => (vp_in (((44 : Int32) + x1)) 50 ∧ wpX7_has ((σ16.1 118 (((44 : Int32) + x1)).toNatClampNeg)) x2 σ16 (fun r18 σ17 => (((r18 = 0) → BX7_rule_57 x1 x2 x3 post ((0 : Int32)) σ17) ∧ ((¬ r18 = 0) → BX7_rule_57 x1 x2 x3 post ((1 : Int32)) σ17)))))) ∧ ((r14 = 0) → post ((-1 : Int32)) σ13)))))))))))
set_option maxHeartbeats 4000000 in
set_option maxRecDepth 100000 in
theorem TX7_rule_57 (C : s_C G p s args m c RX7 cX7_rule) (hml : c.maxLocals = 5) (hcs : cells ≤ (rm_X7_rule).cells ∧ slots ≤ (rm_X7_rule).slots) {x1 : Int32} {x2 : Int32} {x3 : Int32} {post : Int32 → Sg → Prop} (hR : ∀ (r : Int32) (σ1 : Sg) (H : Heap) (locs : List Loc) (pc : Nat) (ls : Array Slot), decode cX7_rule pc = .ok (.ireturn, 1) → post r σ1 → s_St G σ1 H0 H locs → W p l e rm_X7_rule s m args below meth c H locs cells slots Q (F0 m pc ls [.int r])) : ∀ (y0 : Int32), ∀ {σ : Sg} {H : Heap} {locs : List Loc} {ls : Array Slot}, s_St G σ H0 H locs → lv_has ls 5 [(0, .ref (G.2.2 + 117)), (1, .int x1), (2, .int x2), (3, .int x3)] → BX7_rule_57 x1 x2 x3 post y0 σ → W p l e rm_X7_rule s m args below meth c H locs cells slots Q (F0 m 57 ls [.int y0]) := by
  intro y0  σ H locs ls S hl h
  unfold BX7_rule_57 at h
  refine lv_istore (lv' := [(4, .int y0), (0, .ref (G.2.2 + 117)), (1, .int x1), (2, .int x2), (3, .int x3)]) C.1 C.2.1 dX7_rule_57 hl (by decide) rfl (fun ls hl => ?_)
  refine lv_aload_n C.1 C.2.1 dX7_rule_59 rfl (lv_at hl 1 rfl) ?_
  refine g_X7_0 C fl_X7_7 kd_117 S fn_117_0 dX7_rule_60 ?_
  refine lv_bipush (v := (44 : Int32)) C.1 C.2.1 dX7_rule_63 (by decide) ?_
  refine lv_iload_n C.1 C.2.1 dX7_rule_65 rfl (lv_at hl 2 rfl) ?_
  refine lv_iadd C.1 C.2.1 dX7_rule_66 ?_
  refine lv_iload_n C.1 C.2.1 dX7_rule_67 rfl (lv_at hl 4 rfl) ?_
  refine lv_iconst (v := (1 : Int32)) C.1 C.2.1 dX7_rule_68 (by decide) ?_
  refine lv_icmp_ne (tgt := 88) C.1 C.2.1 dX7_rule_69 (by decide) (fun c1 => ?_) (fun c1 => ?_)
  · replace h := h.1 c1
    refine lv_aload_n C.1 C.2.1 dX7_rule_88 rfl (lv_at hl 1 rfl) ?_
    refine g_X7_0 C fl_X7_7 kd_117 S fn_117_0 dX7_rule_89 ?_
    refine lv_bipush (v := (44 : Int32)) C.1 C.2.1 dX7_rule_92 (by decide) ?_
    refine lv_iload_n C.1 C.2.1 dX7_rule_94 rfl (lv_at hl 2 rfl) ?_
    refine lv_iadd C.1 C.2.1 dX7_rule_95 ?_
    refine a_ild C kd_118 S ln_118 h.1 dX7_rule_96 ?_
    replace h := h.2
    refine lv_iconst (v := (1 : Int32)) C.1 C.2.1 dX7_rule_97 (by decide) ?_
    refine lv_iload_n C.1 C.2.1 dX7_rule_98 rfl (lv_at hl 3 rfl) ?_
    refine lv_ishl C.1 C.2.1 dX7_rule_99 ?_
    refine lv_iconst (v := (-1 : Int32)) C.1 C.2.1 dX7_rule_100 (by decide) ?_
    refine lv_ixor C.1 C.2.1 dX7_rule_101 ?_
    refine lv_iand C.1 C.2.1 dX7_rule_102 ?_
    refine a_ist C kd_118 S ln_118 h.1 dX7_rule_103 (fun σ2 H locs e3 S => ?_)
    replace h := h.2 σ2 e3
    refine lv_iload C.1 C.2.1 dX7_rule_104 (lv_at hl 0 rfl) ?_
    exact hR _ _ _ _ _ _ dX7_rule_106 h S
  · replace h := h.2 c1
    refine lv_aload_n C.1 C.2.1 dX7_rule_72 rfl (lv_at hl 1 rfl) ?_
    refine g_X7_0 C fl_X7_7 kd_117 S fn_117_0 dX7_rule_73 ?_
    refine lv_bipush (v := (44 : Int32)) C.1 C.2.1 dX7_rule_76 (by decide) ?_
    refine lv_iload_n C.1 C.2.1 dX7_rule_78 rfl (lv_at hl 2 rfl) ?_
    refine lv_iadd C.1 C.2.1 dX7_rule_79 ?_
    refine a_ild C kd_118 S ln_118 h.1 dX7_rule_80 ?_
    replace h := h.2
    refine lv_iconst (v := (1 : Int32)) C.1 C.2.1 dX7_rule_81 (by decide) ?_
    refine lv_iload_n C.1 C.2.1 dX7_rule_82 rfl (lv_at hl 3 rfl) ?_
    refine lv_ishl C.1 C.2.1 dX7_rule_83 ?_
    refine lv_ior C.1 C.2.1 dX7_rule_84 ?_
    refine lv_goto (tgt := 103) C.1 C.2.1 dX7_rule_85 (by decide) ?_
    refine a_ist C kd_118 S ln_118 h.1 dX7_rule_103 (fun σ4 H locs e5 S => ?_)
    replace h := h.2 σ4 e5
    refine lv_iload C.1 C.2.1 dX7_rule_104 (lv_at hl 0 rfl) ?_
    exact hR _ _ _ _ _ _ dX7_rule_106 h S
theorem kM_X7_rule : s_M yX7_rule cX7_rule 5 (some .int) 3 := ⟨co_X7_rule, in_X7, by decide, by decide, by decide +kernel⟩
set_option maxHeartbeats 4000000 in
set_option maxRecDepth 100000 in
theorem c_X7_rule (l : Launch) (G : s_G) (x1 : Int32) (x2 : Int32) (x3 : Int32) (σ : Sg) (post : Int32 → Sg → Prop) (h : wpX7_rule x1 x2 x3 σ post) : Met l yX7_rule (wsU yX7_rule cX7_rule 5 (some .int)) rm_X7_rule (va_Pc [.ref (G.2.2 + 117), .int x1, .int x2, .int x3] (s_Pre G σ)) (va_Qi post (s_B G) (s_A G.2.2)) 0 0 (s_A G.2.2) := by
  refine Met.ofW (cc := cX7_rule) (maxL := 5) (ret := (some .int)) (by decide) rfl ?_
  intro p e s m args below meth c s₁ B hml hv
  obtain ⟨rfl, hP, hrok, hK, hN⟩ := hv
  have C : s_C G p s (([.ref (G.2.2 + 117), .int x1, .int x2, .int x3] : List Value).toArray) m c RX7 cX7_rule := ⟨B.exec, B.bytes, findClass_of_methodNamed B.named, fun w hw => atoms_spec (ws := wsU yX7_rule cX7_rule 5 (some .int)) B.pre w (List.mem_cons_of_mem _ hw), hK, hN⟩
  have hr := B.returns
  have hlocks := B.notSynchronized
  have S : s_St G σ s.heap s.heap [] := ⟨hP, va_S.rf, hrok⟩
  have hcs : 0 ≤ (rm_X7_rule).cells ∧ 0 ≤ (rm_X7_rule).slots := ⟨Nat.le_refl 0, Nat.le_refl 0⟩
  have hR : ∀ (r : Int32) (σ1 : Sg) (H : Heap) (locs : List Loc) (pc : Nat) (ls : Array Slot), decode cX7_rule pc = .ok (.ireturn, 1) → post r σ1 → s_St G σ1 s.heap H locs → W p l e rm_X7_rule s m ([.ref (G.2.2 + 117), .int x1, .int x2, .int x3] : List Value).toArray below meth c H locs 0 0 (MQ below (va_Qi post (s_B G) (s_A G.2.2)) ([.ref (G.2.2 + 117), .int x1, .int x2, .int x3] : List Value).toArray s 0 0 (s_A G.2.2)) (F0 m pc ls [.int r]) := fun _ _ _ _ _ _ hd hp S => ret_i C hr hlocks hd hp S
  have hl := lv_entry ([.ref (G.2.2 + 117), .int x1, .int x2, .int x3]) (n := 5) (Nat.le_of_ble_eq_true rfl)
  rw [lg_entry_eq]
  generalize (lg_sl ([.ref (G.2.2 + 117), .int x1, .int x2, .int x3]) ++ List.replicate (5 - (lg_sl ([.ref (G.2.2 + 117), .int x1, .int x2, .int x3])).length) Slot.unset).toArray = ls at hl ⊢
  have hl : lv_has ls 5 [(0, .ref (G.2.2 + 117)), (1, .int x1), (2, .int x2), (3, .int x3)] := hl
  unfold wpX7_rule at h
  refine lv_aload_n C.1 C.2.1 dX7_rule_0 rfl (lv_at hl 0 rfl) ?_
  refine lv_iload_n C.1 C.2.1 dX7_rule_1 rfl (lv_at hl 1 rfl) ?_
  refine k_i (r_V (As := [.int x1]) (rest := []) C hml (c_X7_isMember l G x1 σ _ h) kM_X7_isMember im_X7_isMember se_X7_isMember ml_X7_99 ⟨rfl, rfl⟩ ⟨Nat.le_of_ble_eq_true rfl, Nat.le_of_ble_eq_true rfl⟩ hcs S kd_117 (by decide) (T := TX7) (N := 17) rfl rfl hl.1 rfl (Nat.le_of_ble_eq_true rfl) dX7_rule_2) S (fun r7 σ6 H locs h S => ?_)
  refine lv_if_eq (tgt := 30) C.1 C.2.1 dX7_rule_5 (by decide) (fun c8 => ?_) (fun c8 => ?_)
  · replace h := h.1 c8
    refine lv_iconst (v := (-1 : Int32)) C.1 C.2.1 dX7_rule_30 (by decide) ?_
    exact hR _ _ _ _ _ _ dX7_rule_31 h S
  · replace h := h.2 c8
    refine lv_aload_n C.1 C.2.1 dX7_rule_8 rfl (lv_at hl 0 rfl) ?_
    refine lv_iload_n C.1 C.2.1 dX7_rule_9 rfl (lv_at hl 2 rfl) ?_
    refine k_i (r_V (As := [.int x2]) (rest := []) C hml (c_X7_isMember l G x2 σ6 _ h) kM_X7_isMember im_X7_isMember se_X7_isMember ml_X7_99 ⟨rfl, rfl⟩ ⟨Nat.le_of_ble_eq_true rfl, Nat.le_of_ble_eq_true rfl⟩ hcs S kd_117 (by decide) (T := TX7) (N := 17) rfl rfl hl.1 rfl (Nat.le_of_ble_eq_true rfl) dX7_rule_10) S (fun r10 σ9 H locs h S => ?_)
    refine lv_if_eq (tgt := 30) C.1 C.2.1 dX7_rule_13 (by decide) (fun c11 => ?_) (fun c11 => ?_)
    · replace h := h.1 c11
      refine lv_iconst (v := (-1 : Int32)) C.1 C.2.1 dX7_rule_30 (by decide) ?_
      exact hR _ _ _ _ _ _ dX7_rule_31 h S
    · replace h := h.2 c11
      refine lv_iload_n C.1 C.2.1 dX7_rule_16 rfl (lv_at hl 1 rfl) ?_
      refine lv_iload_n C.1 C.2.1 dX7_rule_17 rfl (lv_at hl 2 rfl) ?_
      refine lv_icmp_eq (tgt := 30) C.1 C.2.1 dX7_rule_18 (by decide) (fun c12 => ?_) (fun c12 => ?_)
      · replace h := h.1 c12
        refine lv_iconst (v := (-1 : Int32)) C.1 C.2.1 dX7_rule_30 (by decide) ?_
        exact hR _ _ _ _ _ _ dX7_rule_31 h S
      · replace h := h.2 c12
        refine lv_iload_n C.1 C.2.1 dX7_rule_21 rfl (lv_at hl 3 rfl) ?_
        refine lv_iconst (v := (0 : Int32)) C.1 C.2.1 dX7_rule_22 (by decide) ?_
        refine lv_iconst (v := (1 : Int32)) C.1 C.2.1 dX7_rule_23 (by decide) ?_
        refine k_i (r_S (As := [.int x3, .int (0 : Int32), .int (1 : Int32)]) (rest := []) C hml (c_X7_isIn l G x3 ((0 : Int32)) ((1 : Int32)) σ9 _ h) kM_X7_isIn st_X7_isIn ml_X7_60 ⟨rfl, rfl⟩ ⟨Nat.le_of_ble_eq_true rfl, Nat.le_of_ble_eq_true rfl⟩ hcs S rfl hl.1 rfl (Nat.le_of_ble_eq_true rfl) dX7_rule_24) S (fun r14 σ13 H locs h S => ?_)
        refine lv_if_ne (tgt := 32) C.1 C.2.1 dX7_rule_27 (by decide) (fun c15 => ?_) (fun c15 => ?_)
        · replace h := h.1 c15
          refine lv_aload_n C.1 C.2.1 dX7_rule_32 rfl (lv_at hl 0 rfl) ?_
          refine k_v (r_V (As := []) (rest := []) C hml (c_X7_remember l G σ13 _ h) kM_X7_remember im_X7_remember se_X7_remember ml_X7_86 ⟨rfl, rfl⟩ ⟨Nat.le_of_ble_eq_true rfl, Nat.le_of_ble_eq_true rfl⟩ hcs S kd_117 (by decide) (T := TX7) (N := 17) rfl rfl hl.1 rfl (Nat.le_of_ble_eq_true rfl) dX7_rule_33) S (fun σ16 H locs h S => ?_)
          refine lv_aload_n C.1 C.2.1 dX7_rule_36 rfl (lv_at hl 0 rfl) ?_
          refine g_X7_0 C fl_X7_7 kd_117 S fn_117_0 dX7_rule_37 ?_
          refine lv_bipush (v := (44 : Int32)) C.1 C.2.1 dX7_rule_40 (by decide) ?_
          refine lv_iload_n C.1 C.2.1 dX7_rule_42 rfl (lv_at hl 1 rfl) ?_
          refine lv_iadd C.1 C.2.1 dX7_rule_43 ?_
          refine a_ild C kd_118 S ln_118 h.1 dX7_rule_44 ?_
          replace h := h.2
          refine lv_iload_n C.1 C.2.1 dX7_rule_45 rfl (lv_at hl 2 rfl) ?_
          refine k_i (r_S (As := [.int (σ16.1 118 (((44 : Int32) + x1)).toNatClampNeg), .int x2]) (rest := []) C hml (c_X7_has l G ((σ16.1 118 (((44 : Int32) + x1)).toNatClampNeg)) x2 σ16 _ h) kM_X7_has st_X7_has ml_X7_89 ⟨rfl, rfl⟩ ⟨Nat.le_of_ble_eq_true rfl, Nat.le_of_ble_eq_true rfl⟩ hcs S rfl hl.1 rfl (Nat.le_of_ble_eq_true rfl) dX7_rule_46) S (fun r18 σ17 H locs h S => ?_)
          refine lv_if_eq (tgt := 56) C.1 C.2.1 dX7_rule_49 (by decide) (fun c19 => ?_) (fun c19 => ?_)
          · replace h := h.1 c19
            refine lv_iconst (v := (0 : Int32)) C.1 C.2.1 dX7_rule_56 (by decide) ?_
            exact TX7_rule_57 C hml hcs hR ((0 : Int32)) S (lv_sub hl [0, 1, 2, 3] rfl) h
          · replace h := h.2 c19
            refine lv_iconst (v := (1 : Int32)) C.1 C.2.1 dX7_rule_52 (by decide) ?_
            refine lv_goto (tgt := 57) C.1 C.2.1 dX7_rule_53 (by decide) ?_
            exact TX7_rule_57 C hml hcs hR ((1 : Int32)) S (lv_sub hl [0, 1, 2, 3] rfl) h
        · replace h := h.2 c15
          refine lv_iconst (v := (-1 : Int32)) C.1 C.2.1 dX7_rule_30 (by decide) ?_
          exact hR _ _ _ _ _ _ dX7_rule_31 h S
/-! X7_rules -/
abbrev rm_X7_rules : Room := { frames := 1, cells := 0, slots := 0, locals := 22 }
def BX7_rules_4  (post : Int32 → Sg → Prop) : Nat → Int32 → Int32 → Sg → Prop
  | 0, _, _, _ => False
  | n + 1, x1, x2, σ => (vp_in ((0 : Int32)) 50 ∧ ((((σ.1 118 ((0 : Int32)).toNatClampNeg) ≤ x2) → post x1 σ) ∧ ((¬ (σ.1 118 ((0 : Int32)).toNatClampNeg) ≤ x2) → (vp_in (((44 : Int32) + x2)) 50 ∧ wpX7_size ((σ.1 118 (((44 : Int32) + x2)).toNatClampNeg)) σ (fun r3 σ2 => BX7_rules_4 post n ((x1 + r3)) ((x2 + 1)) σ2)))))
def wpX7_rules  (σ : Sg) (post : Int32 → Sg → Prop) : Prop := ∃ nf, BX7_rules_4 post nf ((0 : Int32)) ((0 : Int32)) σ
set_option maxHeartbeats 4000000 in
set_option maxRecDepth 100000 in
theorem TX7_rules_4 (C : s_C G p s args m c RX7 cX7_rules) (hml : c.maxLocals = 3) (hcs : cells ≤ (rm_X7_rules).cells ∧ slots ≤ (rm_X7_rules).slots)  {post : Int32 → Sg → Prop} (hR : ∀ (r : Int32) (σ1 : Sg) (H : Heap) (locs : List Loc) (pc : Nat) (ls : Array Slot), decode cX7_rules pc = .ok (.ireturn, 1) → post r σ1 → s_St G σ1 H0 H locs → W p l e rm_X7_rules s m args below meth c H locs cells slots Q (F0 m pc ls [.int r])) : ∀ (n : Nat) (x1 : Int32) (x2 : Int32), ∀ {σ : Sg} {H : Heap} {locs : List Loc} {ls : Array Slot}, s_St G σ H0 H locs → lv_has ls 3 [(0, .ref (G.2.2 + 117)), (1, .int x1), (2, .int x2)] → BX7_rules_4 post n x1 x2 σ → W p l e rm_X7_rules s m args below meth c H locs cells slots Q (F0 m 4 ls []) := by
  intro n
  induction n with
  | zero =>
    intro x1 x2  σ H locs ls S hl h
    exact absurd h (fun h => h)
  | succ n ih0 =>
    have ih : ∀ (x1 : Int32) (x2 : Int32), ∀ (σ : Sg) (H : Heap) (locs : List Loc) (ls : Array Slot), s_St G σ H0 H locs → lv_has ls 3 [(0, .ref (G.2.2 + 117)), (1, .int x1), (2, .int x2)] → BX7_rules_4 post n x1 x2 σ → W p l e rm_X7_rules s m args below meth c H locs cells slots Q (F0 m 4 ls []) := fun x1 x2  _ _ _ _ => ih0 x1 x2 
    intro x1 x2  σ H locs ls S hl h
    refine lv_iload_n C.1 C.2.1 dX7_rules_4 rfl (lv_at hl 2 rfl) ?_
    refine lv_aload_n C.1 C.2.1 dX7_rules_5 rfl (lv_at hl 0 rfl) ?_
    refine g_X7_0 C fl_X7_7 kd_117 S fn_117_0 dX7_rules_6 ?_
    refine lv_iconst (v := (0 : Int32)) C.1 C.2.1 dX7_rules_9 (by decide) ?_
    refine a_ild C kd_118 S ln_118 h.1 dX7_rules_10 ?_
    replace h := h.2
    refine lv_icmp_ge (tgt := 35) C.1 C.2.1 dX7_rules_11 (by decide) (fun c1 => ?_) (fun c1 => ?_)
    · replace h := h.1 c1
      refine lv_iload_n C.1 C.2.1 dX7_rules_35 rfl (lv_at hl 1 rfl) ?_
      exact hR _ _ _ _ _ _ dX7_rules_36 h S
    · replace h := h.2 c1
      refine lv_iload_n C.1 C.2.1 dX7_rules_14 rfl (lv_at hl 1 rfl) ?_
      refine lv_aload_n C.1 C.2.1 dX7_rules_15 rfl (lv_at hl 0 rfl) ?_
      refine g_X7_0 C fl_X7_7 kd_117 S fn_117_0 dX7_rules_16 ?_
      refine lv_bipush (v := (44 : Int32)) C.1 C.2.1 dX7_rules_19 (by decide) ?_
      refine lv_iload_n C.1 C.2.1 dX7_rules_21 rfl (lv_at hl 2 rfl) ?_
      refine lv_iadd C.1 C.2.1 dX7_rules_22 ?_
      refine a_ild C kd_118 S ln_118 h.1 dX7_rules_23 ?_
      replace h := h.2
      refine k_i (r_S (As := [.int (σ.1 118 (((44 : Int32) + x2)).toNatClampNeg)]) (rest := [.int x1]) C hml (c_X7_size l G ((σ.1 118 (((44 : Int32) + x2)).toNatClampNeg)) σ _ h) kM_X7_size st_X7_size ml_X7_109 ⟨rfl, rfl⟩ ⟨Nat.le_of_ble_eq_true rfl, Nat.le_of_ble_eq_true rfl⟩ hcs S rfl hl.1 rfl (Nat.le_of_ble_eq_true rfl) dX7_rules_24) S (fun r3 σ2 H locs h S => ?_)
      refine lv_iadd C.1 C.2.1 dX7_rules_27 ?_
      refine lv_istore_n (lv' := [(1, .int (x1 + r3)), (0, .ref (G.2.2 + 117)), (2, .int x2)]) C.1 C.2.1 dX7_rules_28 rfl hl (by decide) rfl (fun ls hl => ?_)
      refine lv_iinc (v := (x2 + 1)) (lv' := [(2, .int (x2 + 1)), (1, .int (x1 + r3)), (0, .ref (G.2.2 + 117))]) C.1 C.2.1 dX7_rules_29 hl (k := 2) rfl rfl (by decide) rfl (fun ls hl => ?_)
      refine lv_goto (tgt := 4) C.1 C.2.1 dX7_rules_32 (by decide) ?_
      exact ih ((x1 + r3)) ((x2 + 1)) _ _ _ _ S (lv_sub hl [2, 1, 0] rfl) h
theorem kM_X7_rules : s_M yX7_rules cX7_rules 3 (some .int) 0 := ⟨co_X7_rules, in_X7, by decide, by decide, by decide +kernel⟩
set_option maxHeartbeats 4000000 in
set_option maxRecDepth 100000 in
theorem c_X7_rules (l : Launch) (G : s_G)  (σ : Sg) (post : Int32 → Sg → Prop) (h : wpX7_rules σ post) : Met l yX7_rules (wsU yX7_rules cX7_rules 3 (some .int)) rm_X7_rules (va_Pc [.ref (G.2.2 + 117)] (s_Pre G σ)) (va_Qi post (s_B G) (s_A G.2.2)) 0 0 (s_A G.2.2) := by
  refine Met.ofW (cc := cX7_rules) (maxL := 3) (ret := (some .int)) (by decide) rfl ?_
  intro p e s m args below meth c s₁ B hml hv
  obtain ⟨rfl, hP, hrok, hK, hN⟩ := hv
  have C : s_C G p s (([.ref (G.2.2 + 117)] : List Value).toArray) m c RX7 cX7_rules := ⟨B.exec, B.bytes, findClass_of_methodNamed B.named, fun w hw => atoms_spec (ws := wsU yX7_rules cX7_rules 3 (some .int)) B.pre w (List.mem_cons_of_mem _ hw), hK, hN⟩
  have hr := B.returns
  have hlocks := B.notSynchronized
  have S : s_St G σ s.heap s.heap [] := ⟨hP, va_S.rf, hrok⟩
  have hcs : 0 ≤ (rm_X7_rules).cells ∧ 0 ≤ (rm_X7_rules).slots := ⟨Nat.le_refl 0, Nat.le_refl 0⟩
  have hR : ∀ (r : Int32) (σ1 : Sg) (H : Heap) (locs : List Loc) (pc : Nat) (ls : Array Slot), decode cX7_rules pc = .ok (.ireturn, 1) → post r σ1 → s_St G σ1 s.heap H locs → W p l e rm_X7_rules s m ([.ref (G.2.2 + 117)] : List Value).toArray below meth c H locs 0 0 (MQ below (va_Qi post (s_B G) (s_A G.2.2)) ([.ref (G.2.2 + 117)] : List Value).toArray s 0 0 (s_A G.2.2)) (F0 m pc ls [.int r]) := fun _ _ _ _ _ _ hd hp S => ret_i C hr hlocks hd hp S
  have hl := lv_entry ([.ref (G.2.2 + 117)]) (n := 3) (Nat.le_of_ble_eq_true rfl)
  rw [lg_entry_eq]
  generalize (lg_sl ([.ref (G.2.2 + 117)]) ++ List.replicate (3 - (lg_sl ([.ref (G.2.2 + 117)])).length) Slot.unset).toArray = ls at hl ⊢
  have hl : lv_has ls 3 [(0, .ref (G.2.2 + 117))] := hl
  unfold wpX7_rules at h
  refine lv_iconst (v := (0 : Int32)) C.1 C.2.1 dX7_rules_0 (by decide) ?_
  refine lv_istore_n (lv' := [(1, .int (0 : Int32)), (0, .ref (G.2.2 + 117))]) C.1 C.2.1 dX7_rules_1 rfl hl (by decide) rfl (fun ls hl => ?_)
  refine lv_iconst (v := (0 : Int32)) C.1 C.2.1 dX7_rules_2 (by decide) ?_
  refine lv_istore_n (lv' := [(2, .int (0 : Int32)), (1, .int (0 : Int32)), (0, .ref (G.2.2 + 117))]) C.1 C.2.1 dX7_rules_3 rfl hl (by decide) rfl (fun ls hl => ?_)
  obtain ⟨nf, h⟩ := h
  exact TX7_rules_4 C hml hcs hR nf ((0 : Int32)) ((0 : Int32)) S (lv_sub hl [2, 1, 0] rfl) h
end M11
