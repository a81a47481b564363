section M12
variable {p : Program} {l : Launch} {e : Env} {R : Room} {s : State} {m : MethodId} {args : Array Value} {below : List Frame} {meth : Method} {c : Code} {H0 : Heap} {cells slots : Nat} {Q : State → Prop} {G : s_G}
/-! X7_set -/
abbrev rm_X7_set : Room := { frames := 2, cells := 0, slots := 0, locals := 43 }
def BX7_set_97 (x1 : Int32) (x2 : Int32) (x3 : Int32) (post : Int32 → Sg → Prop) (y0 : Int32) (σ : Sg) : Prop := (((¬ y0 = 0) → wpX7_remember σ (fun σ2 => (vp_in ((((20 : Int32) + ((6 : Int32) * x2)) + x1)) 50 ∧ (vp_in ((((20 : Int32) + ((6 : Int32) * x2)) + x1)) 50 ∧ (∀ σ3 : Sg, σ3 = setI σ2 118 ((((20 : Int32) + ((6 : Int32) * x2)) + x1)).toNatClampNeg x3 → post ((σ2.1 118 ((((20 : Int32) + ((6 : Int32) * x2)) + x1)).toNatClampNeg)) σ3))))) ∧ ((y0 = 0) → post ((-1 : Int32)) σ))
def wpX7_set (x1 : Int32) (x2 : Int32) (x3 : Int32) (σ : Sg) (post : Int32 → Sg → Prop) : Prop := wpX7_isMember x1 σ (fun r6 σ5 => (((r6 = 0) → post ((-1 : Int32)) σ5) ∧ ((¬ r6 = 0) → wpX7_isIn x2 ((0 : Int32)) ((3 : Int32)) σ5 (fun r9 σ8 => (((¬ r9 = 0) → (((¬ x2 = 0) → (((¬ x2 = (1 : Int32)) → (((¬ x2 = (2 : Int32)) → wpX7_isIn x3 ((0 : Int32)) ((999 : Int32)) σ8 (fun r15 σ14 => BX7_set_97 x1 x2 x3 post r15 σ14)) ∧ ((x2 = (2 : Int32)) → wpX7_isIn x3 ((1 : Int32)) ((3 : Int32)) σ8 (fun r17 σ16 => (((r17 = 0) → BX7_set_97 x1 x2 x3 post ((0 : Int32)) σ16) ∧ ((¬ r17 = 0) → (vp_in (((26 : Int32) + x1)) 50 ∧ (((x3 < (σ16.1 118 (((26 : Int32) + x1)).toNatClampNeg)) → BX7_set_97 x1 x2 x3 post ((0 : Int32)) σ16) ∧ ((¬ x3 < (σ16.1 118 (((26 : Int32) + x1)).toNatClampNeg)) → BX7_set_97 x1 x2 x3 post ((1 : Int32)) σ16))))))))) ∧ ((x2 = (1 : Int32)) → (vp_in (((32 : Int32) + x1)) 50 ∧ wpX7_isIn x3 ((0 : Int32)) ((σ8.1 118 (((32 : Int32) + x1)).toNatClampNeg)) σ8 (fun r21 σ20 => BX7_set_97 x1 x2 x3 post r21 σ20))))) ∧ ((x2 = 0) → wpX7_isIn x3 ((0 : Int32)) ((2 : Int32)) σ8 (fun r23 σ22 => BX7_set_97 x1 x2 x3 post r23 σ22)))) ∧ ((r9 = 0) → post ((-1 : Int32)) σ8))))))
set_option maxHeartbeats 4000000 in
set_option maxRecDepth 100000 in
theorem TX7_set_97 (C : s_C G p s args m c RX7 cX7_set) (hml : c.maxLocals = 7) (hcs : cells ≤ (rm_X7_set).cells ∧ slots ≤ (rm_X7_set).slots) {x1 : Int32} {x2 : Int32} {x3 : Int32} {post : Int32 → Sg → Prop} (hR : ∀ (r : Int32) (σ1 : Sg) (H : Heap) (locs : List Loc) (pc : Nat) (ls : Array Slot), decode cX7_set pc = .ok (.ireturn, 1) → post r σ1 → s_St G σ1 H0 H locs → W p l e rm_X7_set s m args below meth c H locs cells slots Q (F0 m pc ls [.int r])) : ∀ (y0 : Int32), ∀ {σ : Sg} {H : Heap} {locs : List Loc} {ls : Array Slot}, s_St G σ H0 H locs → lv_has ls 7 [(0, .ref (G.2.2 + 117)), (1, .int x1), (2, .int x2), (3, .int x3)] → BX7_set_97 x1 x2 x3 post y0 σ → W p l e rm_X7_set s m args below meth c H locs cells slots Q (F0 m 97 ls [.int y0]) := by
  intro y0  σ H locs ls S hl h
  unfold BX7_set_97 at h
  refine lv_istore (lv' := [(4, .int y0), (0, .ref (G.2.2 + 117)), (1, .int x1), (2, .int x2), (3, .int x3)]) C.1 C.2.1 dX7_set_97 hl (by decide) rfl (fun ls hl => ?_)
  refine lv_iload C.1 C.2.1 dX7_set_99 (lv_at hl 0 rfl) ?_
  refine lv_if_ne (tgt := 106) C.1 C.2.1 dX7_set_101 (by decide) (fun c1 => ?_) (fun c1 => ?_)
  · replace h := h.1 c1
    refine lv_aload_n C.1 C.2.1 dX7_set_106 rfl (lv_at hl 1 rfl) ?_
    refine k_v (r_V (As := []) (rest := []) C hml (c_X7_remember l G σ _ h) kM_X7_remember im_X7_remember se_X7_remember ml_X7_86 ⟨rfl, rfl⟩ ⟨Nat.le_of_ble_eq_true rfl, Nat.le_of_ble_eq_true rfl⟩ hcs S kd_117 (by decide) (T := TX7) (N := 17) rfl rfl hl.1 rfl (Nat.le_of_ble_eq_true rfl) dX7_set_107) S (fun σ2 H locs h S => ?_)
    refine lv_bipush (v := (20 : Int32)) C.1 C.2.1 dX7_set_110 (by decide) ?_
    refine lv_bipush (v := (6 : Int32)) C.1 C.2.1 dX7_set_112 (by decide) ?_
    refine lv_iload_n C.1 C.2.1 dX7_set_114 rfl (lv_at hl 3 rfl) ?_
    refine lv_imul C.1 C.2.1 dX7_set_115 ?_
    refine lv_iadd C.1 C.2.1 dX7_set_116 ?_
    refine lv_iload_n C.1 C.2.1 dX7_set_117 rfl (lv_at hl 2 rfl) ?_
    refine lv_iadd C.1 C.2.1 dX7_set_118 ?_
    refine lv_istore (lv' := [(5, .int (((20 : Int32) + ((6 : Int32) * x2)) + x1)), (4, .int y0), (0, .ref (G.2.2 + 117)), (1, .int x1), (2, .int x2), (3, .int x3)]) C.1 C.2.1 dX7_set_119 hl (by decide) rfl (fun ls hl => ?_)
    refine lv_aload_n C.1 C.2.1 dX7_set_121 rfl (lv_at hl 2 rfl) ?_
    refine g_X7_0 C fl_X7_7 kd_117 S fn_117_0 dX7_set_122 ?_
    refine lv_iload C.1 C.2.1 dX7_set_125 (lv_at hl 0 rfl) ?_
    refine a_ild C kd_118 S ln_118 h.1 dX7_set_127 ?_
    replace h := h.2
    refine lv_istore (lv' := [(6, .int (σ2.1 118 ((((20 : Int32) + ((6 : Int32) * x2)) + x1)).toNatClampNeg)), (5, .int (((20 : Int32) + ((6 : Int32) * x2)) + x1)), (4, .int y0), (0, .ref (G.2.2 + 117)), (1, .int x1), (2, .int x2), (3, .int x3)]) C.1 C.2.1 dX7_set_128 hl (by decide) rfl (fun ls hl => ?_)
    refine lv_aload_n C.1 C.2.1 dX7_set_130 rfl (lv_at hl 3 rfl) ?_
    refine g_X7_0 C fl_X7_7 kd_117 S fn_117_0 dX7_set_131 ?_
    refine lv_iload C.1 C.2.1 dX7_set_134 (lv_at hl 1 rfl) ?_
    refine lv_iload_n C.1 C.2.1 dX7_set_136 rfl (lv_at hl 6 rfl) ?_
    refine a_ist C kd_118 S ln_118 h.1 dX7_set_137 (fun σ3 H locs e4 S => ?_)
    replace h := h.2 σ3 e4
    refine lv_iload C.1 C.2.1 dX7_set_138 (lv_at hl 0 rfl) ?_
    exact hR _ _ _ _ _ _ dX7_set_140 h S
  · replace h := h.2 c1
    refine lv_iconst (v := (-1 : Int32)) C.1 C.2.1 dX7_set_104 (by decide) ?_
    exact hR _ _ _ _ _ _ dX7_set_105 h S
theorem kM_X7_set : s_M yX7_set cX7_set 7 (some .int) 3 := ⟨co_X7_set, in_X7, by decide, by decide, by decide +kernel⟩
set_option maxHeartbeats 4000000 in
set_option maxRecDepth 100000 in
theorem c_X7_set (l : Launch) (G : s_G) (x1 : Int32) (x2 : Int32) (x3 : Int32) (σ : Sg) (post : Int32 → Sg → Prop) (h : wpX7_set x1 x2 x3 σ post) : Met l yX7_set (wsU yX7_set cX7_set 7 (some .int)) rm_X7_set (va_Pc [.ref (G.2.2 + 117), .int x1, .int x2, .int x3] (s_Pre G σ)) (va_Qi post (s_B G) (s_A G.2.2)) 0 0 (s_A G.2.2) := by
  refine Met.ofW (cc := cX7_set) (maxL := 7) (ret := (some .int)) (by decide) rfl ?_
  intro p e s m args below meth c s₁ B hml hv
  obtain ⟨rfl, hP, hrok, hK, hN⟩ := hv
  have C : s_C G p s (([.ref (G.2.2 + 117), .int x1, .int x2, .int x3] : List Value).toArray) m c RX7 cX7_set := ⟨B.exec, B.bytes, findClass_of_methodNamed B.named, fun w hw => atoms_spec (ws := wsU yX7_set cX7_set 7 (some .int)) B.pre w (List.mem_cons_of_mem _ hw), hK, hN⟩
  have hr := B.returns
  have hlocks := B.notSynchronized
  have S : s_St G σ s.heap s.heap [] := ⟨hP, va_S.rf, hrok⟩
  have hcs : 0 ≤ (rm_X7_set).cells ∧ 0 ≤ (rm_X7_set).slots := ⟨Nat.le_refl 0, Nat.le_refl 0⟩
  have hR : ∀ (r : Int32) (σ1 : Sg) (H : Heap) (locs : List Loc) (pc : Nat) (ls : Array Slot), decode cX7_set pc = .ok (.ireturn, 1) → post r σ1 → s_St G σ1 s.heap H locs → W p l e rm_X7_set s m ([.ref (G.2.2 + 117), .int x1, .int x2, .int x3] : List Value).toArray below meth c H locs 0 0 (MQ below (va_Qi post (s_B G) (s_A G.2.2)) ([.ref (G.2.2 + 117), .int x1, .int x2, .int x3] : List Value).toArray s 0 0 (s_A G.2.2)) (F0 m pc ls [.int r]) := fun _ _ _ _ _ _ hd hp S => ret_i C hr hlocks hd hp S
  have hl := lv_entry ([.ref (G.2.2 + 117), .int x1, .int x2, .int x3]) (n := 7) (Nat.le_of_ble_eq_true rfl)
  rw [lg_entry_eq]
  generalize (lg_sl ([.ref (G.2.2 + 117), .int x1, .int x2, .int x3]) ++ List.replicate (7 - (lg_sl ([.ref (G.2.2 + 117), .int x1, .int x2, .int x3])).length) Slot.unset).toArray = ls at hl ⊢
  have hl : lv_has ls 7 [(0, .ref (G.2.2 + 117)), (1, .int x1), (2, .int x2), (3, .int x3)] := hl
  unfold wpX7_set at h
  refine lv_aload_n C.1 C.2.1 dX7_set_0 rfl (lv_at hl 0 rfl) ?_
  refine lv_iload_n C.1 C.2.1 dX7_set_1 rfl (lv_at hl 1 rfl) ?_
  refine k_i (r_V (As := [.int x1]) (rest := []) C hml (c_X7_isMember l G x1 σ _ h) kM_X7_isMember im_X7_isMember se_X7_isMember ml_X7_99 ⟨rfl, rfl⟩ ⟨Nat.le_of_ble_eq_true rfl, Nat.le_of_ble_eq_true rfl⟩ hcs S kd_117 (by decide) (T := TX7) (N := 17) rfl rfl hl.1 rfl (Nat.le_of_ble_eq_true rfl) dX7_set_2) S (fun r6 σ5 H locs h S => ?_)
  refine lv_if_eq (tgt := 17) C.1 C.2.1 dX7_set_5 (by decide) (fun c7 => ?_) (fun c7 => ?_)
  · replace h := h.1 c7
    refine lv_iconst (v := (-1 : Int32)) C.1 C.2.1 dX7_set_17 (by decide) ?_
    exact hR _ _ _ _ _ _ dX7_set_18 h S
  · replace h := h.2 c7
    refine lv_iload_n C.1 C.2.1 dX7_set_8 rfl (lv_at hl 2 rfl) ?_
    refine lv_iconst (v := (0 : Int32)) C.1 C.2.1 dX7_set_9 (by decide) ?_
    refine lv_iconst (v := (3 : Int32)) C.1 C.2.1 dX7_set_10 (by decide) ?_
    refine k_i (r_S (As := [.int x2, .int (0 : Int32), .int (3 : Int32)]) (rest := []) C hml (c_X7_isIn l G x2 ((0 : Int32)) ((3 : Int32)) σ5 _ h) kM_X7_isIn st_X7_isIn ml_X7_60 ⟨rfl, rfl⟩ ⟨Nat.le_of_ble_eq_true rfl, Nat.le_of_ble_eq_true rfl⟩ hcs S rfl hl.1 rfl (Nat.le_of_ble_eq_true rfl) dX7_set_11) S (fun r9 σ8 H locs h S => ?_)
    refine lv_if_ne (tgt := 19) C.1 C.2.1 dX7_set_14 (by decide) (fun c10 => ?_) (fun c10 => ?_)
    · replace h := h.1 c10
      refine lv_iload_n C.1 C.2.1 dX7_set_19 rfl (lv_at hl 2 rfl) ?_
      refine lv_if_ne (tgt := 32) C.1 C.2.1 dX7_set_20 (by decide) (fun c11 => ?_) (fun c11 => ?_)
      · replace h := h.1 c11
        refine lv_iload_n C.1 C.2.1 dX7_set_32 rfl (lv_at hl 2 rfl) ?_
        refine lv_iconst (v := (1 : Int32)) C.1 C.2.1 dX7_set_33 (by decide) ?_
        refine lv_icmp_ne (tgt := 54) C.1 C.2.1 dX7_set_34 (by decide) (fun c12 => ?_) (fun c12 => ?_)
        · replace h := h.1 c12
          refine lv_iload_n C.1 C.2.1 dX7_set_54 rfl (lv_at hl 2 rfl) ?_
          refine lv_iconst (v := (2 : Int32)) C.1 C.2.1 dX7_set_55 (by decide) ?_
          refine lv_icmp_ne (tgt := 89) C.1 C.2.1 dX7_set_56 (by decide) (fun c13 => ?_) (fun c13 => ?_)
          · replace h := h.1 c13
            refine lv_iload_n C.1 C.2.1 dX7_set_89 rfl (lv_at hl 3 rfl) ?_
            refine lv_iconst (v := (0 : Int32)) C.1 C.2.1 dX7_set_90 (by decide) ?_
            refine lv_sipush (v := (999 : Int32)) C.1 C.2.1 dX7_set_91 (by decide) ?_
            refine k_i (r_S (As := [.int x3, .int (0 : Int32), .int (999 : Int32)]) (rest := []) C hml (c_X7_isIn l G x3 ((0 : Int32)) ((999 : Int32)) σ8 _ h) kM_X7_isIn st_X7_isIn ml_X7_60 ⟨rfl, rfl⟩ ⟨Nat.le_of_ble_eq_true rfl, Nat.le_of_ble_eq_true rfl⟩ hcs S rfl hl.1 rfl (Nat.le_of_ble_eq_true rfl) dX7_set_94) S (fun r15 σ14 H locs h S => ?_)
            exact TX7_set_97 C hml hcs hR r15 S (lv_sub hl [0, 1, 2, 3] rfl) h
          · replace h := h.2 c13
            refine lv_iload_n C.1 C.2.1 dX7_set_59 rfl (lv_at hl 3 rfl) ?_
            refine lv_iconst (v := (1 : Int32)) C.1 C.2.1 dX7_set_60 (by decide) ?_
            refine lv_iconst (v := (3 : Int32)) C.1 C.2.1 dX7_set_61 (by decide) ?_
            refine k_i (r_S (As := [.int x3, .int (1 : Int32), .int (3 : Int32)]) (rest := []) C hml (c_X7_isIn l G x3 ((1 : Int32)) ((3 : Int32)) σ8 _ h) kM_X7_isIn st_X7_isIn ml_X7_60 ⟨rfl, rfl⟩ ⟨Nat.le_of_ble_eq_true rfl, Nat.le_of_ble_eq_true rfl⟩ hcs S rfl hl.1 rfl (Nat.le_of_ble_eq_true rfl) dX7_set_62) S (fun r17 σ16 H locs h S => ?_)
            refine lv_if_eq (tgt := 85) C.1 C.2.1 dX7_set_65 (by decide) (fun c18 => ?_) (fun c18 => ?_)
            · replace h := h.1 c18
              refine lv_iconst (v := (0 : Int32)) C.1 C.2.1 dX7_set_85 (by decide) ?_
              refine lv_goto (tgt := 97) C.1 C.2.1 dX7_set_86 (by decide) ?_
              exact TX7_set_97 C hml hcs hR ((0 : Int32)) S (lv_sub hl [0, 1, 2, 3] rfl) h
            · replace h := h.2 c18
              refine lv_iload_n C.1 C.2.1 dX7_set_68 rfl (lv_at hl 3 rfl) ?_
              refine lv_aload_n C.1 C.2.1 dX7_set_69 rfl (lv_at hl 0 rfl) ?_
              refine g_X7_0 C fl_X7_7 kd_117 S fn_117_0 dX7_set_70 ?_
              refine lv_bipush (v := (26 : Int32)) C.1 C.2.1 dX7_set_73 (by decide) ?_
              refine lv_iload_n C.1 C.2.1 dX7_set_75 rfl (lv_at hl 1 rfl) ?_
              refine lv_iadd C.1 C.2.1 dX7_set_76 ?_
              refine a_ild C kd_118 S ln_118 h.1 dX7_set_77 ?_
              replace h := h.2
              refine lv_icmp_lt (tgt := 85) C.1 C.2.1 dX7_set_78 (by decide) (fun c19 => ?_) (fun c19 => ?_)
              · replace h := h.1 c19
                refine lv_iconst (v := (0 : Int32)) C.1 C.2.1 dX7_set_85 (by decide) ?_
                refine lv_goto (tgt := 97) C.1 C.2.1 dX7_set_86 (by decide) ?_
                exact TX7_set_97 C hml hcs hR ((0 : Int32)) S (lv_sub hl [0, 1, 2, 3] rfl) h
              · replace h := h.2 c19
                refine lv_iconst (v := (1 : Int32)) C.1 C.2.1 dX7_set_81 (by decide) ?_
                refine lv_goto (tgt := 97) C.1 C.2.1 dX7_set_82 (by decide) ?_
                exact TX7_set_97 C hml hcs hR ((1 : Int32)) S (lv_sub hl [0, 1, 2, 3] rfl) h
        · replace h := h.2 c12
          refine lv_iload_n C.1 C.2.1 dX7_set_37 rfl (lv_at hl 3 rfl) ?_
          refine lv_iconst (v := (0 : Int32)) C.1 C.2.1 dX7_set_38 (by decide) ?_
          refine lv_aload_n C.1 C.2.1 dX7_set_39 rfl (lv_at hl 0 rfl) ?_
          refine g_X7_0 C fl_X7_7 kd_117 S fn_117_0 dX7_set_40 ?_
          refine lv_bipush (v := (32 : Int32)) C.1 C.2.1 dX7_set_43 (by decide) ?_
          refine lv_iload_n C.1 C.2.1 dX7_set_45 rfl (lv_at hl 1 rfl) ?_
          refine lv_iadd C.1 C.2.1 dX7_set_46 ?_
          refine a_ild C kd_118 S ln_118 h.1 dX7_set_47 ?_
          replace h := h.2
          refine k_i (r_S (As := [.int x3, .int (0 : Int32), .int (σ8.1 118 (((32 : Int32) + x1)).toNatClampNeg)]) (rest := []) C hml (c_X7_isIn l G x3 ((0 : Int32)) ((σ8.1 118 (((32 : Int32) + x1)).toNatClampNeg)) σ8 _ h) kM_X7_isIn st_X7_isIn ml_X7_60 ⟨rfl, rfl⟩ ⟨Nat.le_of_ble_eq_true rfl, Nat.le_of_ble_eq_true rfl⟩ hcs S rfl hl.1 rfl (Nat.le_of_ble_eq_true rfl) dX7_set_48) S (fun r21 σ20 H locs h S => ?_)
          refine lv_goto (tgt := 97) C.1 C.2.1 dX7_set_51 (by decide) ?_
          exact TX7_set_97 C hml hcs hR r21 S (lv_sub hl [0, 1, 2, 3] rfl) h
      · replace h := h.2 c11
        refine lv_iload_n C.1 C.2.1 dX7_set_23 rfl (lv_at hl 3 rfl) ?_
        refine lv_iconst (v := (0 : Int32)) C.1 C.2.1 dX7_set_24 (by decide) ?_
        refine lv_iconst (v := (2 : Int32)) C.1 C.2.1 dX7_set_25 (by decide) ?_
        refine k_i (r_S (As := [.int x3, .int (0 : Int32), .int (2 : Int32)]) (rest := []) C hml (c_X7_isIn l G x3 ((0 : Int32)) ((2 : Int32)) σ8 _ h) kM_X7_isIn st_X7_isIn ml_X7_60 ⟨rfl, rfl⟩ ⟨Nat.le_of_ble_eq_true rfl, Nat.le_of_ble_eq_true rfl⟩ hcs S rfl hl.1 rfl (Nat.le_of_ble_eq_true rfl) dX7_set_26) S (fun r23 σ22 H locs h S => ?_)
        refine lv_goto (tgt := 97) C.1 C.2.1 dX7_set_29 (by decide) ?_
        exact TX7_set_97 C hml hcs hR r23 S (lv_sub hl [0, 1, 2, 3] rfl) h
    · replace h := h.2 c10
      refine lv_iconst (v := (-1 : Int32)) C.1 C.2.1 dX7_set_17 (by decide) ?_
      exact hR _ _ _ _ _ _ dX7_set_18 h S
/-! X7_setSeparator -/
abbrev rm_X7_setSeparator : Room := { frames := 1, cells := 0, slots := 0, locals := 22 }
def BX7_setSeparator_17 (x1 : Int32) (post : Int32 → Sg → Prop)  (σ : Sg) : Prop := wpX7_remember σ (fun σ1 => (vp_in ((1 : Int32)) 50 ∧ (vp_in ((1 : Int32)) 50 ∧ (∀ σ2 : Sg, σ2 = setI σ1 118 ((1 : Int32)).toNatClampNeg x1 → post ((σ1.1 118 ((1 : Int32)).toNatClampNeg)) σ2))))
def wpX7_setSeparator (x1 : Int32) (σ : Sg) (post : Int32 → Sg → Prop) : Prop := (((x1 = 0) → BX7_setSeparator_17 x1 post σ) ∧ ((¬ x1 = 0) → wpX7_isIn x1 ((33 : Int32)) ((47 : Int32)) σ (fun r6 σ5 => (((¬ r6 = 0) → BX7_setSeparator_17 x1 post σ5) ∧ ((r6 = 0) → post ((-1 : Int32)) σ5)))))
set_option maxHeartbeats 4000000 in
set_option maxRecDepth 100000 in
theorem TX7_setSeparator_17 (C : s_C G p s args m c RX7 cX7_setSeparator) (hml : c.maxLocals = 3) (hcs : cells ≤ (rm_X7_setSeparator).cells ∧ slots ≤ (rm_X7_setSeparator).slots) {x1 : Int32} {post : Int32 → Sg → Prop} (hR : ∀ (r : Int32) (σ1 : Sg) (H : Heap) (locs : List Loc) (pc : Nat) (ls : Array Slot), decode cX7_setSeparator pc = .ok (.ireturn, 1) → post r σ1 → s_St G σ1 H0 H locs → W p l e rm_X7_setSeparator s m args below meth c H locs cells slots Q (F0 m pc ls [.int r])) : ∀ {σ : Sg} {H : Heap} {locs : List Loc} {ls : Array Slot}, s_St G σ H0 H locs → lv_has ls 3 [(0, .ref (G.2.2 + 117)), (1, .int x1)] → BX7_setSeparator_17 x1 post σ → W p l e rm_X7_setSeparator s m args below meth c H locs cells slots Q (F0 m 17 ls []) := by
  intro   σ H locs ls S hl h
  unfold BX7_setSeparator_17 at h
  refine lv_aload_n C.1 C.2.1 dX7_setSeparator_17 rfl (lv_at hl 0 rfl) ?_
  refine k_v (r_V (As := []) (rest := []) C hml (c_X7_remember l G σ _ h) kM_X7_remember im_X7_remember se_X7_remember ml_X7_86 ⟨rfl, rfl⟩ ⟨Nat.le_of_ble_eq_true rfl, Nat.le_of_ble_eq_true rfl⟩ hcs S kd_117 (by decide) (T := TX7) (N := 17) rfl rfl hl.1 rfl (Nat.le_of_ble_eq_true rfl) dX7_setSeparator_18) S (fun σ1 H locs h S => ?_)
  refine lv_aload_n C.1 C.2.1 dX7_setSeparator_21 rfl (lv_at hl 0 rfl) ?_
  refine g_X7_0 C fl_X7_7 kd_117 S fn_117_0 dX7_setSeparator_22 ?_
  refine lv_iconst (v := (1 : Int32)) C.1 C.2.1 dX7_setSeparator_25 (by decide) ?_
  refine a_ild C kd_118 S ln_118 h.1 dX7_setSeparator_26 ?_
  replace h := h.2
  refine lv_istore_n (lv' := [(2, .int (σ1.1 118 ((1 : Int32)).toNatClampNeg)), (0, .ref (G.2.2 + 117)), (1, .int x1)]) C.1 C.2.1 dX7_setSeparator_27 rfl hl (by decide) rfl (fun ls hl => ?_)
  refine lv_aload_n C.1 C.2.1 dX7_setSeparator_28 rfl (lv_at hl 1 rfl) ?_
  refine g_X7_0 C fl_X7_7 kd_117 S fn_117_0 dX7_setSeparator_29 ?_
  refine lv_iconst (v := (1 : Int32)) C.1 C.2.1 dX7_setSeparator_32 (by decide) ?_
  refine lv_iload_n C.1 C.2.1 dX7_setSeparator_33 rfl (lv_at hl 2 rfl) ?_
  refine a_ist C kd_118 S ln_118 h.1 dX7_setSeparator_34 (fun σ2 H locs e3 S => ?_)
  replace h := h.2 σ2 e3
  refine lv_iload_n C.1 C.2.1 dX7_setSeparator_35 rfl (lv_at hl 0 rfl) ?_
  exact hR _ _ _ _ _ _ dX7_setSeparator_36 h S
theorem kM_X7_setSeparator : s_M yX7_setSeparator cX7_setSeparator 3 (some .int) 1 := ⟨co_X7_setSeparator, in_X7, by decide, by decide, by decide +kernel⟩
set_option maxHeartbeats 4000000 in
set_option maxRecDepth 100000 in
theorem c_X7_setSeparator (l : Launch) (G : s_G) (x1 : Int32) (σ : Sg) (post : Int32 → Sg → Prop) (h : wpX7_setSeparator x1 σ post) : Met l yX7_setSeparator (wsU yX7_setSeparator cX7_setSeparator 3 (some .int)) rm_X7_setSeparator (va_Pc [.ref (G.2.2 + 117), .int x1] (s_Pre G σ)) (va_Qi post (s_B G) (s_A G.2.2)) 0 0 (s_A G.2.2) := by
  refine Met.ofW (cc := cX7_setSeparator) (maxL := 3) (ret := (some .int)) (by decide) rfl ?_
  intro p e s m args below meth c s₁ B hml hv
  obtain ⟨rfl, hP, hrok, hK, hN⟩ := hv
  have C : s_C G p s (([.ref (G.2.2 + 117), .int x1] : List Value).toArray) m c RX7 cX7_setSeparator := ⟨B.exec, B.bytes, findClass_of_methodNamed B.named, fun w hw => atoms_spec (ws := wsU yX7_setSeparator cX7_setSeparator 3 (some .int)) B.pre w (List.mem_cons_of_mem _ hw), hK, hN⟩
  have hr := B.returns
  have hlocks := B.notSynchronized
  have S : s_St G σ s.heap s.heap [] := ⟨hP, va_S.rf, hrok⟩
  have hcs : 0 ≤ (rm_X7_setSeparator).cells ∧ 0 ≤ (rm_X7_setSeparator).slots := ⟨Nat.le_refl 0, Nat.le_refl 0⟩
  have hR : ∀ (r : Int32) (σ1 : Sg) (H : Heap) (locs : List Loc) (pc : Nat) (ls : Array Slot), decode cX7_setSeparator pc = .ok (.ireturn, 1) → post r σ1 → s_St G σ1 s.heap H locs → W p l e rm_X7_setSeparator s m ([.ref (G.2.2 + 117), .int x1] : List Value).toArray below meth c H locs 0 0 (MQ below (va_Qi post (s_B G) (s_A G.2.2)) ([.ref (G.2.2 + 117), .int x1] : List Value).toArray s 0 0 (s_A G.2.2)) (F0 m pc ls [.int r]) := fun _ _ _ _ _ _ hd hp S => ret_i C hr hlocks hd hp S
  have hl := lv_entry ([.ref (G.2.2 + 117), .int x1]) (n := 3) (Nat.le_of_ble_eq_true rfl)
  rw [lg_entry_eq]
  generalize (lg_sl ([.ref (G.2.2 + 117), .int x1]) ++ List.replicate (3 - (lg_sl ([.ref (G.2.2 + 117), .int x1])).length) Slot.unset).toArray = ls at hl ⊢
  have hl : lv_has ls 3 [(0, .ref (G.2.2 + 117)), (1, .int x1)] := hl
  unfold wpX7_setSeparator at h
  refine lv_iload_n C.1 C.2.1 dX7_setSeparator_0 rfl (lv_at hl 1 rfl) ?_
  refine lv_if_eq (tgt := 17) C.1 C.2.1 dX7_setSeparator_1 (by decide) (fun c4 => ?_) (fun c4 => ?_)
  · replace h := h.1 c4
    exact TX7_setSeparator_17 C hml hcs hR S (lv_sub hl [0, 1] rfl) h
  · replace h := h.2 c4
    refine lv_iload_n C.1 C.2.1 dX7_setSeparator_4 rfl (lv_at hl 1 rfl) ?_
    refine lv_bipush (v := (33 : Int32)) C.1 C.2.1 dX7_setSeparator_5 (by decide) ?_
    refine lv_bipush (v := (47 : Int32)) C.1 C.2.1 dX7_setSeparator_7 (by decide) ?_
    refine k_i (r_S (As := [.int x1, .int (33 : Int32), .int (47 : Int32)]) (rest := []) C hml (c_X7_isIn l G x1 ((33 : Int32)) ((47 : Int32)) σ _ h) kM_X7_isIn st_X7_isIn ml_X7_60 ⟨rfl, rfl⟩ ⟨Nat.le_of_ble_eq_true rfl, Nat.le_of_ble_eq_true rfl⟩ hcs S rfl hl.1 rfl (Nat.le_of_ble_eq_true rfl) dX7_setSeparator_9) S (fun r6 σ5 H locs h S => ?_)
    refine lv_if_ne (tgt := 17) C.1 C.2.1 dX7_setSeparator_12 (by decide) (fun c7 => ?_) (fun c7 => ?_)
    · replace h := h.1 c7
      exact TX7_setSeparator_17 C hml hcs hR S (lv_sub hl [0, 1] rfl) h
    · replace h := h.2 c7
      refine lv_iconst (v := (-1 : Int32)) C.1 C.2.1 dX7_setSeparator_15 (by decide) ?_
      exact hR _ _ _ _ _ _ dX7_setSeparator_16 h S
/-! X7_sumOf -/
abbrev rm_X7_sumOf : Room := { frames := 0, cells := 0, slots := 0, locals := 0 }
def BX7_sumOf_4 (x1 : Int32) (post : Int32 → Sg → Prop) : Nat → Int32 → Int32 → Sg → Prop
  | 0, _, _, _ => False
  | n + 1, x2, x3, σ => (vp_in ((0 : Int32)) 50 ∧ ((((σ.1 118 ((0 : Int32)).toNatClampNeg) ≤ x3) → post x2 σ) ∧ ((¬ (σ.1 118 ((0 : Int32)).toNatClampNeg) ≤ x3) → (vp_in ((x1 + x3)) 50 ∧ BX7_sumOf_4 x1 post n ((x2 + (σ.1 118 ((x1 + x3)).toNatClampNeg))) ((x3 + 1)) σ))))
def wpX7_sumOf (x1 : Int32) (σ : Sg) (post : Int32 → Sg → Prop) : Prop := ∃ nf, BX7_sumOf_4 x1 post nf ((0 : Int32)) ((0 : Int32)) σ
set_option maxHeartbeats 4000000 in
set_option maxRecDepth 100000 in
theorem TX7_sumOf_4 (C : s_C G p s args m c RX7 cX7_sumOf) (hml : c.maxLocals = 4) (hcs : cells ≤ (rm_X7_sumOf).cells ∧ slots ≤ (rm_X7_sumOf).slots) {x1 : Int32} {post : Int32 → Sg → Prop} (hR : ∀ (r : Int32) (σ1 : Sg) (H : Heap) (locs : List Loc) (pc : Nat) (ls : Array Slot), decode cX7_sumOf pc = .ok (.ireturn, 1) → post r σ1 → s_St G σ1 H0 H locs → W p l e rm_X7_sumOf s m args below meth c H locs cells slots Q (F0 m pc ls [.int r])) : ∀ (n : Nat) (x2 : Int32) (x3 : Int32), ∀ {σ : Sg} {H : Heap} {locs : List Loc} {ls : Array Slot}, s_St G σ H0 H locs → lv_has ls 4 [(0, .ref (G.2.2 + 117)), (1, .int x1), (2, .int x2), (3, .int x3)] → BX7_sumOf_4 x1 post n x2 x3 σ → W p l e rm_X7_sumOf s m args below meth c H locs cells slots Q (F0 m 4 ls []) := by
  intro n
  induction n with
  | zero =>
    intro x2 x3  σ H locs ls S hl h
    exact absurd h (fun h => h)
  | succ n ih0 =>
    have ih : ∀ (x2 : Int32) (x3 : Int32), ∀ (σ : Sg) (H : Heap) (locs : List Loc) (ls : Array Slot), s_St G σ H0 H locs → lv_has ls 4 [(0, .ref (G.2.2 + 117)), (1, .int x1), (2, .int x2), (3, .int x3)] → BX7_sumOf_4 x1 post n x2 x3 σ → W p l e rm_X7_sumOf s m args below meth c H locs cells slots Q (F0 m 4 ls []) := fun x2 x3  _ _ _ _ => ih0 x2 x3 
    intro x2 x3  σ H locs ls S hl h
    refine lv_iload_n C.1 C.2.1 dX7_sumOf_4 rfl (lv_at hl 3 rfl) ?_
    refine lv_aload_n C.1 C.2.1 dX7_sumOf_5 rfl (lv_at hl 0 rfl) ?_
    refine g_X7_0 C fl_X7_7 kd_117 S fn_117_0 dX7_sumOf_6 ?_
    refine lv_iconst (v := (0 : Int32)) C.1 C.2.1 dX7_sumOf_9 (by decide) ?_
    refine a_ild C kd_118 S ln_118 h.1 dX7_sumOf_10 ?_
    replace h := h.2
    refine lv_icmp_ge (tgt := 31) C.1 C.2.1 dX7_sumOf_11 (by decide) (fun c1 => ?_) (fun c1 => ?_)
    · replace h := h.1 c1
      refine lv_iload_n C.1 C.2.1 dX7_sumOf_31 rfl (lv_at hl 2 rfl) ?_
      exact hR _ _ _ _ _ _ dX7_sumOf_32 h S
    · replace h := h.2 c1
      refine lv_iload_n C.1 C.2.1 dX7_sumOf_14 rfl (lv_at hl 2 rfl) ?_
      refine lv_aload_n C.1 C.2.1 dX7_sumOf_15 rfl (lv_at hl 0 rfl) ?_
      refine g_X7_0 C fl_X7_7 kd_117 S fn_117_0 dX7_sumOf_16 ?_
      refine lv_iload_n C.1 C.2.1 dX7_sumOf_19 rfl (lv_at hl 1 rfl) ?_
      refine lv_iload_n C.1 C.2.1 dX7_sumOf_20 rfl (lv_at hl 3 rfl) ?_
      refine lv_iadd C.1 C.2.1 dX7_sumOf_21 ?_
      refine a_ild C kd_118 S ln_118 h.1 dX7_sumOf_22 ?_
      replace h := h.2
      refine lv_iadd C.1 C.2.1 dX7_sumOf_23 ?_
      refine lv_istore_n (lv' := [(2, .int (x2 + (σ.1 118 ((x1 + x3)).toNatClampNeg))), (0, .ref (G.2.2 + 117)), (1, .int x1), (3, .int x3)]) C.1 C.2.1 dX7_sumOf_24 rfl hl (by decide) rfl (fun ls hl => ?_)
      refine lv_iinc (v := (x3 + 1)) (lv' := [(3, .int (x3 + 1)), (2, .int (x2 + (σ.1 118 ((x1 + x3)).toNatClampNeg))), (0, .ref (G.2.2 + 117)), (1, .int x1)]) C.1 C.2.1 dX7_sumOf_25 hl (k := 3) rfl rfl (by decide) rfl (fun ls hl => ?_)
      refine lv_goto (tgt := 4) C.1 C.2.1 dX7_sumOf_28 (by decide) ?_
      exact ih ((x2 + (σ.1 118 ((x1 + x3)).toNatClampNeg))) ((x3 + 1)) _ _ _ _ S (lv_sub hl [2, 3, 1, 0] rfl) h
theorem kM_X7_sumOf : s_M yX7_sumOf cX7_sumOf 4 (some .int) 1 := ⟨co_X7_sumOf, in_X7, by decide, by decide, by decide +kernel⟩
set_option maxHeartbeats 4000000 in
set_option maxRecDepth 100000 in
theorem c_X7_sumOf (l : Launch) (G : s_G) (x1 : Int32) (σ : Sg) (post : Int32 → Sg → Prop) (h : wpX7_sumOf x1 σ post) : Met l yX7_sumOf (wsU yX7_sumOf cX7_sumOf 4 (some .int)) rm_X7_sumOf (va_Pc [.ref (G.2.2 + 117), .int x1] (s_Pre G σ)) (va_Qi post (s_B G) (s_A G.2.2)) 0 0 (s_A G.2.2) := by
  refine Met.ofW (cc := cX7_sumOf) (maxL := 4) (ret := (some .int)) (by decide) rfl ?_
  intro p e s m args below meth c s₁ B hml hv
  obtain ⟨rfl, hP, hrok, hK, hN⟩ := hv
  have C : s_C G p s (([.ref (G.2.2 + 117), .int x1] : List Value).toArray) m c RX7 cX7_sumOf := ⟨B.exec, B.bytes, findClass_of_methodNamed B.named, fun w hw => atoms_spec (ws := wsU yX7_sumOf cX7_sumOf 4 (some .int)) B.pre w (List.mem_cons_of_mem _ hw), hK, hN⟩
  have hr := B.returns
  have hlocks := B.notSynchronized
  have S : s_St G σ s.heap s.heap [] := ⟨hP, va_S.rf, hrok⟩
  have hcs : 0 ≤ (rm_X7_sumOf).cells ∧ 0 ≤ (rm_X7_sumOf).slots := ⟨Nat.le_refl 0, Nat.le_refl 0⟩
  have hR : ∀ (r : Int32) (σ1 : Sg) (H : Heap) (locs : List Loc) (pc : Nat) (ls : Array Slot), decode cX7_sumOf pc = .ok (.ireturn, 1) → post r σ1 → s_St G σ1 s.heap H locs → W p l e rm_X7_sumOf s m ([.ref (G.2.2 + 117), .int x1] : List Value).toArray below meth c H locs 0 0 (MQ below (va_Qi post (s_B G) (s_A G.2.2)) ([.ref (G.2.2 + 117), .int x1] : List Value).toArray s 0 0 (s_A G.2.2)) (F0 m pc ls [.int r]) := fun _ _ _ _ _ _ hd hp S => ret_i C hr hlocks hd hp S
  have hl := lv_entry ([.ref (G.2.2 + 117), .int x1]) (n := 4) (Nat.le_of_ble_eq_true rfl)
  rw [lg_entry_eq]
  generalize (lg_sl ([.ref (G.2.2 + 117), .int x1]) ++ List.replicate (4 - (lg_sl ([.ref (G.2.2 + 117), .int x1])).length) Slot.unset).toArray = ls at hl ⊢
  have hl : lv_has ls 4 [(0, .ref (G.2.2 + 117)), (1, .int x1)] := hl
  unfold wpX7_sumOf at h
  refine lv_iconst (v := (0 : Int32)) C.1 C.2.1 dX7_sumOf_0 (by decide) ?_
  refine lv_istore_n (lv' := [(2, .int (0 : Int32)), (0, .ref (G.2.2 + 117)), (1, .int x1)]) C.1 C.2.1 dX7_sumOf_1 rfl hl (by decide) rfl (fun ls hl => ?_)
  refine lv_iconst (v := (0 : Int32)) C.1 C.2.1 dX7_sumOf_2 (by decide) ?_
  refine lv_istore_n (lv' := [(3, .int (0 : Int32)), (2, .int (0 : Int32)), (0, .ref (G.2.2 + 117)), (1, .int x1)]) C.1 C.2.1 dX7_sumOf_3 rfl hl (by decide) rfl (fun ls hl => ?_)
  obtain ⟨nf, h⟩ := h
  exact TX7_sumOf_4 C hml hcs hR nf ((0 : Int32)) ((0 : Int32)) S (lv_sub hl [2, 3, 1, 0] rfl) h
/-! X7_told -/
abbrev rm_X7_told : Room := { frames := 5, cells := 0, slots := 0, locals := 113 }
def wpX7_told (x1 : Int32) (σ : Sg) (post : Int32 → Sg → Prop) : Prop := ((((x1).toInt < 0 ∨ 7 < (x1).toInt) → post ((-1 : Int32)) σ) ∧ ((x1 = 0) → (vp_in ((0 : Int32)) 50 ∧ post ((σ.1 118 ((0 : Int32)).toNatClampNeg)) σ)) ∧ ((x1 = 1) → (vp_in ((1 : Int32)) 50 ∧ post ((σ.1 118 ((1 : Int32)).toNatClampNeg)) σ)) ∧ ((x1 = 2) → wpX7_rules σ (fun r3 σ2 => post r3 σ2)) ∧ ((x1 = 3) → wpX7_clashes σ (fun r5 σ4 => post r5 σ4)) ∧ ((x1 = 4) → post ((σ.1 117 6)) σ) ∧ ((x1 = 5) → post ((σ.1 117 2)) σ) ∧ ((x1 = 6) → wpX7_sumOf ((26 : Int32)) σ (fun r7 σ6 => post r7 σ6)) ∧ ((x1 = 7) → wpX7_sumOf ((32 : Int32)) σ (fun r9 σ8 => post r9 σ8)))
theorem kM_X7_told : s_M yX7_told cX7_told 2 (some .int) 1 := ⟨co_X7_told, in_X7, by decide, by decide, by decide +kernel⟩
set_option maxHeartbeats 4000000 in
set_option maxRecDepth 100000 in
theorem c_X7_told (l : Launch) (G : s_G) (x1 : Int32) (σ : Sg) (post : Int32 → Sg → Prop) (h : wpX7_told x1 σ post) : Met l yX7_told (wsU yX7_told cX7_told 2 (some .int)) rm_X7_told (va_Pc [.ref (G.2.2 + 117), .int x1] (s_Pre G σ)) (va_Qi post (s_B G) (s_A G.2.2)) 0 0 (s_A G.2.2) := by
  refine Met.ofW (cc := cX7_told) (maxL := 2) (ret := (some .int)) (by decide) rfl ?_
  intro p e s m args below meth c s₁ B hml hv
  obtain ⟨rfl, hP, hrok, hK, hN⟩ := hv
  have C : s_C G p s (([.ref (G.2.2 + 117), .int x1] : List Value).toArray) m c RX7 cX7_told := ⟨B.exec, B.bytes, findClass_of_methodNamed B.named, fun w hw => atoms_spec (ws := wsU yX7_told cX7_told 2 (some .int)) B.pre w (List.mem_cons_of_mem _ hw), hK, hN⟩
  have hr := B.returns
  have hlocks := B.notSynchronized
  have S : s_St G σ s.heap s.heap [] := ⟨hP, va_S.rf, hrok⟩
  have hcs : 0 ≤ (rm_X7_told).cells ∧ 0 ≤ (rm_X7_told).slots := ⟨Nat.le_refl 0, Nat.le_refl 0⟩
  have hR : ∀ (r : Int32) (σ1 : Sg) (H : Heap) (locs : List Loc) (pc : Nat) (ls : Array Slot), decode cX7_told pc = .ok (.ireturn, 1) → post r σ1 → s_St G σ1 s.heap H locs → W p l e rm_X7_told s m ([.ref (G.2.2 + 117), .int x1] : List Value).toArray below meth c H locs 0 0 (MQ below (va_Qi post (s_B G) (s_A G.2.2)) ([.ref (G.2.2 + 117), .int x1] : List Value).toArray s 0 0 (s_A G.2.2)) (F0 m pc ls [.int r]) := fun _ _ _ _ _ _ hd hp S => ret_i C hr hlocks hd hp S
  have hl := lv_entry ([.ref (G.2.2 + 117), .int x1]) (n := 2) (Nat.le_of_ble_eq_true rfl)
  rw [lg_entry_eq]
  generalize (lg_sl ([.ref (G.2.2 + 117), .int x1]) ++ List.replicate (2 - (lg_sl ([.ref (G.2.2 + 117), .int x1])).length) Slot.unset).toArray = ls at hl ⊢
  have hl : lv_has ls 2 [(0, .ref (G.2.2 + 117)), (1, .int x1)] := hl
  unfold wpX7_told at h
  refine lv_iload_n C.1 C.2.1 dX7_told_0 rfl (lv_at hl 1 rfl) ?_
  rcases (sw_0_7 x1) with c1 | c1 | c1 | c1 | c1 | c1 | c1 | c1 | c1
  · replace h := h.1 c1
    refine lv_tableOut (tgt := 96) C.1 C.2.1 dX7_told_1 c1 (by decide) ?_
    refine lv_iconst (v := (-1 : Int32)) C.1 C.2.1 dX7_told_96 (by decide) ?_
    exact hR _ _ _ _ _ _ dX7_told_97 h S
  · replace h := h.2.1 c1
    refine lv_tableIn (tgt := 48) (off := 47) C.1 C.2.1 dX7_told_1 (by rw [c1]; decide) (by rw [c1]; decide) (by rw [c1]; decide) (by decide) ?_
    refine lv_aload_n C.1 C.2.1 dX7_told_48 rfl (lv_at hl 0 rfl) ?_
    refine g_X7_0 C fl_X7_7 kd_117 S fn_117_0 dX7_told_49 ?_
    refine lv_iconst (v := (0 : Int32)) C.1 C.2.1 dX7_told_52 (by decide) ?_
    refine a_ild C kd_118 S ln_118 h.1 dX7_told_53 ?_
    replace h := h.2
    exact hR _ _ _ _ _ _ dX7_told_54 h S
  · replace h := h.2.2.1 c1
    refine lv_tableIn (tgt := 55) (off := 54) C.1 C.2.1 dX7_told_1 (by rw [c1]; decide) (by rw [c1]; decide) (by rw [c1]; decide) (by decide) ?_
    refine lv_aload_n C.1 C.2.1 dX7_told_55 rfl (lv_at hl 0 rfl) ?_
    refine g_X7_0 C fl_X7_7 kd_117 S fn_117_0 dX7_told_56 ?_
    refine lv_iconst (v := (1 : Int32)) C.1 C.2.1 dX7_told_59 (by decide) ?_
    refine a_ild C kd_118 S ln_118 h.1 dX7_told_60 ?_
    replace h := h.2
    exact hR _ _ _ _ _ _ dX7_told_61 h S
  · replace h := h.2.2.2.1 c1
    refine lv_tableIn (tgt := 62) (off := 61) C.1 C.2.1 dX7_told_1 (by rw [c1]; decide) (by rw [c1]; decide) (by rw [c1]; decide) (by decide) ?_
    refine lv_aload_n C.1 C.2.1 dX7_told_62 rfl (lv_at hl 0 rfl) ?_
    refine k_i (r_V (As := []) (rest := []) C hml (c_X7_rules l G σ _ h) kM_X7_rules im_X7_rules se_X7_rules ml_X7_115 ⟨rfl, rfl⟩ ⟨Nat.le_of_ble_eq_true rfl, Nat.le_of_ble_eq_true rfl⟩ hcs S kd_117 (by decide) (T := TX7) (N := 17) rfl rfl hl.1 rfl (Nat.le_of_ble_eq_true rfl) dX7_told_63) S (fun r3 σ2 H locs h S => ?_)
    exact hR _ _ _ _ _ _ dX7_told_66 h S
  · replace h := h.2.2.2.2.1 c1
    refine lv_tableIn (tgt := 67) (off := 66) C.1 C.2.1 dX7_told_1 (by rw [c1]; decide) (by rw [c1]; decide) (by rw [c1]; decide) (by decide) ?_
    refine lv_aload_n C.1 C.2.1 dX7_told_67 rfl (lv_at hl 0 rfl) ?_
    refine k_i (r_V (As := []) (rest := []) C hml (c_X7_clashes l G σ _ h) kM_X7_clashes im_X7_clashes se_X7_clashes ml_X7_119 ⟨rfl, rfl⟩ ⟨Nat.le_of_ble_eq_true rfl, Nat.le_of_ble_eq_true rfl⟩ hcs S kd_117 (by decide) (T := TX7) (N := 17) rfl rfl hl.1 rfl (Nat.le_of_ble_eq_true rfl) dX7_told_68) S (fun r5 σ4 H locs h S => ?_)
    exact hR _ _ _ _ _ _ dX7_told_71 h S
  · replace h := h.2.2.2.2.2.1 c1
    refine lv_tableIn (tgt := 72) (off := 71) C.1 C.2.1 dX7_told_1 (by rw [c1]; decide) (by rw [c1]; decide) (by rw [c1]; decide) (by decide) ?_
    refine lv_aload_n C.1 C.2.1 dX7_told_72 rfl (lv_at hl 0 rfl) ?_
    refine g_X7_6 C fl_X7_64 kd_117 S dX7_told_73 ?_
    exact hR _ _ _ _ _ _ dX7_told_76 h S
  · replace h := h.2.2.2.2.2.2.1 c1
    refine lv_tableIn (tgt := 77) (off := 76) C.1 C.2.1 dX7_told_1 (by rw [c1]; decide) (by rw [c1]; decide) (by rw [c1]; decide) (by decide) ?_
    refine lv_aload_n C.1 C.2.1 dX7_told_77 rfl (lv_at hl 0 rfl) ?_
    refine g_X7_2 C fl_X7_52 kd_117 S dX7_told_78 ?_
    exact hR _ _ _ _ _ _ dX7_told_81 h S
  · replace h := h.2.2.2.2.2.2.2.1 c1
    refine lv_tableIn (tgt := 82) (off := 81) C.1 C.2.1 dX7_told_1 (by rw [c1]; decide) (by rw [c1]; decide) (by rw [c1]; decide) (by decide) ?_
    refine lv_aload_n C.1 C.2.1 dX7_told_82 rfl (lv_at hl 0 rfl) ?_
    refine lv_bipush (v := (26 : Int32)) C.1 C.2.1 dX7_told_83 (by decide) ?_
    refine k_i (r_V (As := [.int (26 : Int32)]) (rest := []) C hml (c_X7_sumOf l G ((26 : Int32)) σ _ h) kM_X7_sumOf im_X7_sumOf se_X7_sumOf ml_X7_122 ⟨rfl, rfl⟩ ⟨Nat.le_of_ble_eq_true rfl, Nat.le_of_ble_eq_true rfl⟩ hcs S kd_117 (by decide) (T := TX7) (N := 17) rfl rfl hl.1 rfl (Nat.le_of_ble_eq_true rfl) dX7_told_85) S (fun r7 σ6 H locs h S => ?_)
    exact hR _ _ _ _ _ _ dX7_told_88 h S
  · replace h := h.2.2.2.2.2.2.2.2 c1
    refine lv_tableIn (tgt := 89) (off := 88) C.1 C.2.1 dX7_told_1 (by rw [c1]; decide) (by rw [c1]; decide) (by rw [c1]; decide) (by decide) ?_
    refine lv_aload_n C.1 C.2.1 dX7_told_89 rfl (lv_at hl 0 rfl) ?_
    refine lv_bipush (v := (32 : Int32)) C.1 C.2.1 dX7_told_90 (by decide) ?_
    refine k_i (r_V (As := [.int (32 : Int32)]) (rest := []) C hml (c_X7_sumOf l G ((32 : Int32)) σ _ h) kM_X7_sumOf im_X7_sumOf se_X7_sumOf ml_X7_122 ⟨rfl, rfl⟩ ⟨Nat.le_of_ble_eq_true rfl, Nat.le_of_ble_eq_true rfl⟩ hcs S kd_117 (by decide) (T := TX7) (N := 17) rfl rfl hl.1 rfl (Nat.le_of_ble_eq_true rfl) dX7_told_92) S (fun r9 σ8 H locs h S => ?_)
    exact hR _ _ _ _ _ _ dX7_told_95 h S
/-! X7_undo -/
abbrev rm_X7_undo : Room := { frames := 0, cells := 0, slots := 0, locals := 0 }
def BX7_undo_22  (post : Int32 → Sg → Prop) : Nat → Int32 → Sg → Prop
  | 0, _, _ => False
  | n + 1, x1, σ => ((((50 : Int32) ≤ x1) → (∀ σ2 : Sg, σ2 = setI σ 117 10 ((0 : Int32)) → post ((σ2.1 117 2)) σ2)) ∧ ((¬ (50 : Int32) ≤ x1) → (vp_in ((((50 : Int32) * (σ.1 117 2)) + x1)) 400 ∧ (vp_in x1 50 ∧ (∀ σ4 : Sg, σ4 = setI σ 118 (x1).toNatClampNeg ((σ.1 119 ((((50 : Int32) * (σ.1 117 2)) + x1)).toNatClampNeg)) → BX7_undo_22 post n ((x1 + 1)) σ4)))))
def wpX7_undo  (σ : Sg) (post : Int32 → Sg → Prop) : Prop := (((¬ (σ.1 117 2) = 0) → (∀ σ7 : Sg, σ7 = setI σ 117 2 (((σ.1 117 2) - (1 : Int32))) → ∃ nf, BX7_undo_22 post nf ((0 : Int32)) σ7)) ∧ (((σ.1 117 2) = 0) → post ((-2 : Int32)) σ))
set_option maxHeartbeats 4000000 in
set_option maxRecDepth 100000 in
theorem TX7_undo_22 (C : s_C G p s args m c RX7 cX7_undo) (hml : c.maxLocals = 2) (hcs : cells ≤ (rm_X7_undo).cells ∧ slots ≤ (rm_X7_undo).slots)  {post : Int32 → Sg → Prop} (hR : ∀ (r : Int32) (σ1 : Sg) (H : Heap) (locs : List Loc) (pc : Nat) (ls : Array Slot), decode cX7_undo pc = .ok (.ireturn, 1) → post r σ1 → s_St G σ1 H0 H locs → W p l e rm_X7_undo s m args below meth c H locs cells slots Q (F0 m pc ls [.int r])) : ∀ (n : Nat) (x1 : Int32), ∀ {σ : Sg} {H : Heap} {locs : List Loc} {ls : Array Slot}, s_St G σ H0 H locs → lv_has ls 2 [(0, .ref (G.2.2 + 117)), (1, .int x1)] → BX7_undo_22 post n x1 σ → W p l e rm_X7_undo s m args below meth c H locs cells slots Q (F0 m 22 ls []) := by
  intro n
  induction n with
  | zero =>
    intro x1  σ H locs ls S hl h
    exact absurd h (fun h => h)
  | succ n ih0 =>
    have ih : ∀ (x1 : Int32), ∀ (σ : Sg) (H : Heap) (locs : List Loc) (ls : Array Slot), s_St G σ H0 H locs → lv_has ls 2 [(0, .ref (G.2.2 + 117)), (1, .int x1)] → BX7_undo_22 post n x1 σ → W p l e rm_X7_undo s m args below meth c H locs cells slots Q (F0 m 22 ls []) := fun x1  _ _ _ _ => ih0 x1 
    intro x1  σ H locs ls S hl h
    refine lv_iload_n C.1 C.2.1 dX7_undo_22 rfl (lv_at hl 1 rfl) ?_
    refine lv_bipush (v := (50 : Int32)) C.1 C.2.1 dX7_undo_23 (by decide) ?_
    refine lv_icmp_ge (tgt := 54) C.1 C.2.1 dX7_undo_25 (by decide) (fun c1 => ?_) (fun c1 => ?_)
    · replace h := h.1 c1
      refine lv_aload_n C.1 C.2.1 dX7_undo_54 rfl (lv_at hl 0 rfl) ?_
      refine lv_iconst (v := (0 : Int32)) C.1 C.2.1 dX7_undo_55 (by decide) ?_
      refine p_X7_10 C fl_X7_56 kd_117 S rfl rfl dX7_undo_56 (fun σ2 H locs e3 S => ?_)
      replace h := h σ2 e3
      refine lv_aload_n C.1 C.2.1 dX7_undo_59 rfl (lv_at hl 0 rfl) ?_
      refine g_X7_2 C fl_X7_52 kd_117 S dX7_undo_60 ?_
      exact hR _ _ _ _ _ _ dX7_undo_63 h S
    · replace h := h.2 c1
      refine lv_aload_n C.1 C.2.1 dX7_undo_28 rfl (lv_at hl 0 rfl) ?_
      refine g_X7_0 C fl_X7_7 kd_117 S fn_117_0 dX7_undo_29 ?_
      refine lv_iload_n C.1 C.2.1 dX7_undo_32 rfl (lv_at hl 1 rfl) ?_
      refine lv_aload_n C.1 C.2.1 dX7_undo_33 rfl (lv_at hl 0 rfl) ?_
      refine g_X7_1 C fl_X7_13 kd_117 S fn_117_1 dX7_undo_34 ?_
      refine lv_bipush (v := (50 : Int32)) C.1 C.2.1 dX7_undo_37 (by decide) ?_
      refine lv_aload_n C.1 C.2.1 dX7_undo_39 rfl (lv_at hl 0 rfl) ?_
      refine g_X7_2 C fl_X7_52 kd_117 S dX7_undo_40 ?_
      refine lv_imul C.1 C.2.1 dX7_undo_43 ?_
      refine lv_iload_n C.1 C.2.1 dX7_undo_44 rfl (lv_at hl 1 rfl) ?_
      refine lv_iadd C.1 C.2.1 dX7_undo_45 ?_
      refine a_ild C kd_119 S ln_119 h.1 dX7_undo_46 ?_
      replace h := h.2
      refine a_ist C kd_118 S ln_118 h.1 dX7_undo_47 (fun σ4 H locs e5 S => ?_)
      replace h := h.2 σ4 e5
      refine lv_iinc (v := (x1 + 1)) (lv' := [(1, .int (x1 + 1)), (0, .ref (G.2.2 + 117))]) C.1 C.2.1 dX7_undo_48 hl (k := 1) rfl rfl (by decide) rfl (fun ls hl => ?_)
      refine lv_goto (tgt := 22) C.1 C.2.1 dX7_undo_51 (by decide) ?_
      exact ih ((x1 + 1)) _ _ _ _ S (lv_sub hl [1, 0] rfl) h
theorem kM_X7_undo : s_M yX7_undo cX7_undo 2 (some .int) 0 := ⟨co_X7_undo, in_X7, by decide, by decide, by decide +kernel⟩
set_option maxHeartbeats 4000000 in
set_option maxRecDepth 100000 in
theorem c_X7_undo (l : Launch) (G : s_G)  (σ : Sg) (post : Int32 → Sg → Prop) (h : wpX7_undo σ post) : Met l yX7_undo (wsU yX7_undo cX7_undo 2 (some .int)) rm_X7_undo (va_Pc [.ref (G.2.2 + 117)] (s_Pre G σ)) (va_Qi post (s_B G) (s_A G.2.2)) 0 0 (s_A G.2.2) := by
  refine Met.ofW (cc := cX7_undo) (maxL := 2) (ret := (some .int)) (by decide) rfl ?_
  intro p e s m args below meth c s₁ B hml hv
  obtain ⟨rfl, hP, hrok, hK, hN⟩ := hv
  have C : s_C G p s (([.ref (G.2.2 + 117)] : List Value).toArray) m c RX7 cX7_undo := ⟨B.exec, B.bytes, findClass_of_methodNamed B.named, fun w hw => atoms_spec (ws := wsU yX7_undo cX7_undo 2 (some .int)) B.pre w (List.mem_cons_of_mem _ hw), hK, hN⟩
  have hr := B.returns
  have hlocks := B.notSynchronized
  have S : s_St G σ s.heap s.heap [] := ⟨hP, va_S.rf, hrok⟩
  have hcs : 0 ≤ (rm_X7_undo).cells ∧ 0 ≤ (rm_X7_undo).slots := ⟨Nat.le_refl 0, Nat.le_refl 0⟩
  have hR : ∀ (r : Int32) (σ1 : Sg) (H : Heap) (locs : List Loc) (pc : Nat) (ls : Array Slot), decode cX7_undo pc = .ok (.ireturn, 1) → post r σ1 → s_St G σ1 s.heap H locs → W p l e rm_X7_undo s m ([.ref (G.2.2 + 117)] : List Value).toArray below meth c H locs 0 0 (MQ below (va_Qi post (s_B G) (s_A G.2.2)) ([.ref (G.2.2 + 117)] : List Value).toArray s 0 0 (s_A G.2.2)) (F0 m pc ls [.int r]) := fun _ _ _ _ _ _ hd hp S => ret_i C hr hlocks hd hp S
  have hl := lv_entry ([.ref (G.2.2 + 117)]) (n := 2) (Nat.le_of_ble_eq_true rfl)
  rw [lg_entry_eq]
  generalize (lg_sl ([.ref (G.2.2 + 117)]) ++ List.replicate (2 - (lg_sl ([.ref (G.2.2 + 117)])).length) Slot.unset).toArray = ls at hl ⊢
  have hl : lv_has ls 2 [(0, .ref (G.2.2 + 117))] := hl
  unfold wpX7_undo at h
  refine lv_aload_n C.1 C.2.1 dX7_undo_0 rfl (lv_at hl 0 rfl) ?_
  refine g_X7_2 C fl_X7_52 kd_117 S dX7_undo_1 ?_
  refine lv_if_ne (tgt := 10) C.1 C.2.1 dX7_undo_4 (by decide) (fun c6 => ?_) (fun c6 => ?_)
  · replace h := h.1 c6
    refine lv_aload_n C.1 C.2.1 dX7_undo_10 rfl (lv_at hl 0 rfl) ?_
    refine lv_dup C.1 C.2.1 dX7_undo_11 rfl ?_
    refine g_X7_2 C fl_X7_52 kd_117 S dX7_undo_12 ?_
    refine lv_iconst (v := (1 : Int32)) C.1 C.2.1 dX7_undo_15 (by decide) ?_
    refine lv_isub C.1 C.2.1 dX7_undo_16 ?_
    refine p_X7_2 C fl_X7_52 kd_117 S dX7_undo_17 (fun σ7 H locs e8 S => ?_)
    replace h := h σ7 e8
    refine lv_iconst (v := (0 : Int32)) C.1 C.2.1 dX7_undo_20 (by decide) ?_
    refine lv_istore_n (lv' := [(1, .int (0 : Int32)), (0, .ref (G.2.2 + 117))]) C.1 C.2.1 dX7_undo_21 rfl hl (by decide) rfl (fun ls hl => ?_)
    obtain ⟨nf, h⟩ := h
    exact TX7_undo_22 C hml hcs hR nf ((0 : Int32)) S (lv_sub hl [1, 0] rfl) h
  · replace h := h.2 c6
    refine lv_bipush (v := (-2 : Int32)) C.1 C.2.1 dX7_undo_7 (by decide) ?_
    exact hR _ _ _ _ _ _ dX7_undo_9 h S
/-! X7_value -/
abbrev rm_X7_value : Room := { frames := 7, cells := 0, slots := 0, locals := 164 }
def BX7_value_34 (x1 : Int32) (x2 : Int32) (post : Int32 → Sg → Prop) : Nat → Int32 → Int32 → Int32 → Sg → Prop
  | 0, _, _, _, _ => False
  | n + 1, x3, x4, x5, σ => (((x3 ≤ x5) → (((¬ x4 = 0) → post ((-9 : Int32)) σ) ∧ ((x4 = 0) → (((¬ x2 = 0) → post ((-9 : Int32)) σ) ∧ ((x2 = 0) → (vp_in (((38 : Int32) + x1)) 50 ∧ post ((σ.1 118 (((38 : Int32) + x1)).toNatClampNeg)) σ)))))) ∧ ((¬ x3 ≤ x5) → (vp_in x5 20 ∧ (((¬ (σ.1 125 (x5).toNatClampNeg) = x1) → BX7_value_34 x1 x2 post n x3 x4 ((x5 + 1)) σ) ∧ (((σ.1 125 (x5).toNatClampNeg) = x1) → (((¬ x4 = x2) → BX7_value_34 x1 x2 post n x3 ((x4 + 1)) ((x5 + 1)) σ) ∧ ((x4 = x2) → (vp_in x5 20 ∧ post ((σ.1 127 (x5).toNatClampNeg)) σ))))))))
def wpX7_value (x1 : Int32) (x2 : Int32) (σ : Sg) (post : Int32 → Sg → Prop) : Prop := wpX7_isMember x1 σ (fun r7 σ6 => (((r7 = 0) → post ((-1 : Int32)) σ6) ∧ ((¬ r7 = 0) → (((0 ≤ x2) → wpX7_layReading σ6 (fun r11 σ10 => (((¬ r11 = (-9 : Int32)) → ∃ nf, BX7_value_34 x1 x2 post nf r11 ((0 : Int32)) ((0 : Int32)) σ10) ∧ ((r11 = (-9 : Int32)) → post ((-2 : Int32)) σ10)))) ∧ ((¬ 0 ≤ x2) → post ((-1 : Int32)) σ6)))))
set_option maxHeartbeats 4000000 in
set_option maxRecDepth 100000 in
theorem TX7_value_34 (C : s_C G p s args m c RX7 cX7_value) (hml : c.maxLocals = 6) (hcs : cells ≤ (rm_X7_value).cells ∧ slots ≤ (rm_X7_value).slots) {x1 : Int32} {x2 : Int32} {post : Int32 → Sg → Prop} (hR : ∀ (r : Int32) (σ1 : Sg) (H : Heap) (locs : List Loc) (pc : Nat) (ls : Array Slot), decode cX7_value pc = .ok (.ireturn, 1) → post r σ1 → s_St G σ1 H0 H locs → W p l e rm_X7_value s m args below meth c H locs cells slots Q (F0 m pc ls [.int r])) : ∀ (n : Nat) (x3 : Int32) (x4 : Int32) (x5 : Int32), ∀ {σ : Sg} {H : Heap} {locs : List Loc} {ls : Array Slot}, s_St G σ H0 H locs → lv_has ls 6 [(0, .ref (G.2.2 + 117)), (1, .int x1), (2, .int x2), (3, .int x3), (4, .int x4), (5, .int x5)] → BX7_value_34 x1 x2 post n x3 x4 x5 σ → W p l e rm_X7_value s m args below meth c H locs cells slots Q (F0 m 34 ls []) := by
  intro n
  induction n with
  | zero =>
    intro x3 x4 x5  σ H locs ls S hl h
    exact absurd h (fun h => h)
  | succ n ih0 =>
    have ih : ∀ (x3 : Int32) (x4 : Int32) (x5 : Int32), ∀ (σ : Sg) (H : Heap) (locs : List Loc) (ls : Array Slot), s_St G σ H0 H locs → lv_has ls 6 [(0, .ref (G.2.2 + 117)), (1, .int x1), (2, .int x2), (3, .int x3), (4, .int x4), (5, .int x5)] → BX7_value_34 x1 x2 post n x3 x4 x5 σ → W p l e rm_X7_value s m args below meth c H locs cells slots Q (F0 m 34 ls []) := fun x3 x4 x5  _ _ _ _ => ih0 x3 x4 x5 
    intro x3 x4 x5  σ H locs ls S hl h
    refine lv_iload C.1 C.2.1 dX7_value_34 (lv_at hl 5 rfl) ?_
    refine lv_iload_n C.1 C.2.1 dX7_value_36 rfl (lv_at hl 3 rfl) ?_
    refine lv_icmp_ge (tgt := 74) C.1 C.2.1 dX7_value_37 (by decide) (fun c1 => ?_) (fun c1 => ?_)
    · replace h := h.1 c1
      refine lv_iload C.1 C.2.1 dX7_value_74 (lv_at hl 4 rfl) ?_
      refine lv_if_ne (tgt := 95) C.1 C.2.1 dX7_value_76 (by decide) (fun c2 => ?_) (fun c2 => ?_)
      · replace h := h.1 c2
        refine lv_bipush (v := (-9 : Int32)) C.1 C.2.1 dX7_value_95 (by decide) ?_
        exact hR _ _ _ _ _ _ dX7_value_97 h S
      · replace h := h.2 c2
        refine lv_iload_n C.1 C.2.1 dX7_value_79 rfl (lv_at hl 2 rfl) ?_
        refine lv_if_ne (tgt := 95) C.1 C.2.1 dX7_value_80 (by decide) (fun c3 => ?_) (fun c3 => ?_)
        · replace h := h.1 c3
          refine lv_bipush (v := (-9 : Int32)) C.1 C.2.1 dX7_value_95 (by decide) ?_
          exact hR _ _ _ _ _ _ dX7_value_97 h S
        · replace h := h.2 c3
          refine lv_aload_n C.1 C.2.1 dX7_value_83 rfl (lv_at hl 0 rfl) ?_
          refine g_X7_0 C fl_X7_7 kd_117 S fn_117_0 dX7_value_84 ?_
          refine lv_bipush (v := (38 : Int32)) C.1 C.2.1 dX7_value_87 (by decide) ?_
          refine lv_iload_n C.1 C.2.1 dX7_value_89 rfl (lv_at hl 1 rfl) ?_
          refine lv_iadd C.1 C.2.1 dX7_value_90 ?_
          refine a_ild C kd_118 S ln_118 h.1 dX7_value_91 ?_
          replace h := h.2
          refine lv_goto (tgt := 97) C.1 C.2.1 dX7_value_92 (by decide) ?_
          exact hR _ _ _ _ _ _ dX7_value_97 h S
    · replace h := h.2 c1
      refine lv_aload_n C.1 C.2.1 dX7_value_40 rfl (lv_at hl 0 rfl) ?_
      refine g_X7_11 C fl_X7_33 kd_117 S fn_117_11 dX7_value_41 ?_
      refine lv_iload C.1 C.2.1 dX7_value_44 (lv_at hl 5 rfl) ?_
      refine a_ild C kd_125 S ln_125 h.1 dX7_value_46 ?_
      replace h := h.2
      refine lv_iload_n C.1 C.2.1 dX7_value_47 rfl (lv_at hl 1 rfl) ?_
      refine lv_icmp_ne (tgt := 68) C.1 C.2.1 dX7_value_48 (by decide) (fun c4 => ?_) (fun c4 => ?_)
      · replace h := h.1 c4
        refine lv_iinc (v := (x5 + 1)) (lv' := [(5, .int (x5 + 1)), (0, .ref (G.2.2 + 117)), (1, .int x1), (2, .int x2), (3, .int x3), (4, .int x4)]) C.1 C.2.1 dX7_value_68 hl (k := 5) rfl rfl (by decide) rfl (fun ls hl => ?_)
        refine lv_goto (tgt := 34) C.1 C.2.1 dX7_value_71 (by decide) ?_
        exact ih x3 x4 ((x5 + 1)) _ _ _ _ S (lv_sub hl [1, 2, 3, 4, 5, 0] rfl) h
      · replace h := h.2 c4
        refine lv_iload C.1 C.2.1 dX7_value_51 (lv_at hl 4 rfl) ?_
        refine lv_iload_n C.1 C.2.1 dX7_value_53 rfl (lv_at hl 2 rfl) ?_
        refine lv_icmp_ne (tgt := 65) C.1 C.2.1 dX7_value_54 (by decide) (fun c5 => ?_) (fun c5 => ?_)
        · replace h := h.1 c5
          refine lv_iinc (v := (x4 + 1)) (lv' := [(4, .int (x4 + 1)), (0, .ref (G.2.2 + 117)), (1, .int x1), (2, .int x2), (3, .int x3), (5, .int x5)]) C.1 C.2.1 dX7_value_65 hl (k := 4) rfl rfl (by decide) rfl (fun ls hl => ?_)
          refine lv_iinc (v := (x5 + 1)) (lv' := [(5, .int (x5 + 1)), (4, .int (x4 + 1)), (0, .ref (G.2.2 + 117)), (1, .int x1), (2, .int x2), (3, .int x3)]) C.1 C.2.1 dX7_value_68 hl (k := 5) rfl rfl (by decide) rfl (fun ls hl => ?_)
          refine lv_goto (tgt := 34) C.1 C.2.1 dX7_value_71 (by decide) ?_
          exact ih x3 ((x4 + 1)) ((x5 + 1)) _ _ _ _ S (lv_sub hl [2, 3, 4, 5, 1, 0] rfl) h
        · replace h := h.2 c5
          refine lv_aload_n C.1 C.2.1 dX7_value_57 rfl (lv_at hl 0 rfl) ?_
          refine g_X7_13 C fl_X7_39 kd_117 S fn_117_13 dX7_value_58 ?_
          refine lv_iload C.1 C.2.1 dX7_value_61 (lv_at hl 5 rfl) ?_
          refine a_ild C kd_127 S ln_127 h.1 dX7_value_63 ?_
          replace h := h.2
          exact hR _ _ _ _ _ _ dX7_value_64 h S
theorem kM_X7_value : s_M yX7_value cX7_value 6 (some .int) 2 := ⟨co_X7_value, in_X7, by decide, by decide, by decide +kernel⟩
set_option maxHeartbeats 4000000 in
set_option maxRecDepth 100000 in
theorem c_X7_value (l : Launch) (G : s_G) (x1 : Int32) (x2 : Int32) (σ : Sg) (post : Int32 → Sg → Prop) (h : wpX7_value x1 x2 σ post) : Met l yX7_value (wsU yX7_value cX7_value 6 (some .int)) rm_X7_value (va_Pc [.ref (G.2.2 + 117), .int x1, .int x2] (s_Pre G σ)) (va_Qi post (s_B G) (s_A G.2.2)) 0 0 (s_A G.2.2) := by
  refine Met.ofW (cc := cX7_value) (maxL := 6) (ret := (some .int)) (by decide) rfl ?_
  intro p e s m args below meth c s₁ B hml hv
  obtain ⟨rfl, hP, hrok, hK, hN⟩ := hv
  have C : s_C G p s (([.ref (G.2.2 + 117), .int x1, .int x2] : List Value).toArray) m c RX7 cX7_value := ⟨B.exec, B.bytes, findClass_of_methodNamed B.named, fun w hw => atoms_spec (ws := wsU yX7_value cX7_value 6 (some .int)) B.pre w (List.mem_cons_of_mem _ hw), hK, hN⟩
  have hr := B.returns
  have hlocks := B.notSynchronized
  have S : s_St G σ s.heap s.heap [] := ⟨hP, va_S.rf, hrok⟩
  have hcs : 0 ≤ (rm_X7_value).cells ∧ 0 ≤ (rm_X7_value).slots := ⟨Nat.le_refl 0, Nat.le_refl 0⟩
  have hR : ∀ (r : Int32) (σ1 : Sg) (H : Heap) (locs : List Loc) (pc : Nat) (ls : Array Slot), decode cX7_value pc = .ok (.ireturn, 1) → post r σ1 → s_St G σ1 s.heap H locs → W p l e rm_X7_value s m ([.ref (G.2.2 + 117), .int x1, .int x2] : List Value).toArray below meth c H locs 0 0 (MQ below (va_Qi post (s_B G) (s_A G.2.2)) ([.ref (G.2.2 + 117), .int x1, .int x2] : List Value).toArray s 0 0 (s_A G.2.2)) (F0 m pc ls [.int r]) := fun _ _ _ _ _ _ hd hp S => ret_i C hr hlocks hd hp S
  have hl := lv_entry ([.ref (G.2.2 + 117), .int x1, .int x2]) (n := 6) (Nat.le_of_ble_eq_true rfl)
  rw [lg_entry_eq]
  generalize (lg_sl ([.ref (G.2.2 + 117), .int x1, .int x2]) ++ List.replicate (6 - (lg_sl ([.ref (G.2.2 + 117), .int x1, .int x2])).length) Slot.unset).toArray = ls at hl ⊢
  have hl : lv_has ls 6 [(0, .ref (G.2.2 + 117)), (1, .int x1), (2, .int x2)] := hl
  unfold wpX7_value at h
  refine lv_aload_n C.1 C.2.1 dX7_value_0 rfl (lv_at hl 0 rfl) ?_
  refine lv_iload_n C.1 C.2.1 dX7_value_1 rfl (lv_at hl 1 rfl) ?_
  refine k_i (r_V (As := [.int x1]) (rest := []) C hml (c_X7_isMember l G x1 σ _ h) kM_X7_isMember im_X7_isMember se_X7_isMember ml_X7_99 ⟨rfl, rfl⟩ ⟨Nat.le_of_ble_eq_true rfl, Nat.le_of_ble_eq_true rfl⟩ hcs S kd_117 (by decide) (T := TX7) (N := 17) rfl rfl hl.1 rfl (Nat.le_of_ble_eq_true rfl) dX7_value_2) S (fun r7 σ6 H locs h S => ?_)
  refine lv_if_eq (tgt := 12) C.1 C.2.1 dX7_value_5 (by decide) (fun c8 => ?_) (fun c8 => ?_)
  · replace h := h.1 c8
    refine lv_iconst (v := (-1 : Int32)) C.1 C.2.1 dX7_value_12 (by decide) ?_
    exact hR _ _ _ _ _ _ dX7_value_13 h S
  · replace h := h.2 c8
    refine lv_iload_n C.1 C.2.1 dX7_value_8 rfl (lv_at hl 2 rfl) ?_
    refine lv_if_ge (tgt := 14) C.1 C.2.1 dX7_value_9 (by decide) (fun c9 => ?_) (fun c9 => ?_)
    · replace h := h.1 c9
      refine lv_aload_n C.1 C.2.1 dX7_value_14 rfl (lv_at hl 0 rfl) ?_
      refine k_i (r_V (As := []) (rest := []) C hml (c_X7_layReading l G σ6 _ h) kM_X7_layReading im_X7_layReading se_X7_layReading ml_X7_165 ⟨rfl, rfl⟩ ⟨Nat.le_of_ble_eq_true rfl, Nat.le_of_ble_eq_true rfl⟩ hcs S kd_117 (by decide) (T := TX7) (N := 17) rfl rfl hl.1 rfl (Nat.le_of_ble_eq_true rfl) dX7_value_15) S (fun r11 σ10 H locs h S => ?_)
      refine lv_istore_n (lv' := [(3, .int r11), (0, .ref (G.2.2 + 117)), (1, .int x1), (2, .int x2)]) C.1 C.2.1 dX7_value_18 rfl hl (by decide) rfl (fun ls hl => ?_)
      refine lv_iload_n C.1 C.2.1 dX7_value_19 rfl (lv_at hl 0 rfl) ?_
      refine lv_bipush (v := (-9 : Int32)) C.1 C.2.1 dX7_value_20 (by decide) ?_
      refine lv_icmp_ne (tgt := 28) C.1 C.2.1 dX7_value_22 (by decide) (fun c12 => ?_) (fun c12 => ?_)
      · replace h := h.1 c12
        refine lv_iconst (v := (0 : Int32)) C.1 C.2.1 dX7_value_28 (by decide) ?_
        refine lv_istore (lv' := [(4, .int (0 : Int32)), (3, .int r11), (0, .ref (G.2.2 + 117)), (1, .int x1), (2, .int x2)]) C.1 C.2.1 dX7_value_29 hl (by decide) rfl (fun ls hl => ?_)
        refine lv_iconst (v := (0 : Int32)) C.1 C.2.1 dX7_value_31 (by decide) ?_
        refine lv_istore (lv' := [(5, .int (0 : Int32)), (4, .int (0 : Int32)), (3, .int r11), (0, .ref (G.2.2 + 117)), (1, .int x1), (2, .int x2)]) C.1 C.2.1 dX7_value_32 hl (by decide) rfl (fun ls hl => ?_)
        obtain ⟨nf, h⟩ := h
        exact TX7_value_34 C hml hcs hR nf r11 ((0 : Int32)) ((0 : Int32)) S (lv_sub hl [3, 4, 5, 2, 1, 0] rfl) h
      · replace h := h.2 c12
        refine lv_bipush (v := (-2 : Int32)) C.1 C.2.1 dX7_value_25 (by decide) ?_
        exact hR _ _ _ _ _ _ dX7_value_27 h S
    · replace h := h.2 c9
      refine lv_iconst (v := (-1 : Int32)) C.1 C.2.1 dX7_value_12 (by decide) ?_
      exact hR _ _ _ _ _ _ dX7_value_13 h S
/-! X7_wipe -/
abbrev rm_X7_wipe : Room := { frames := 0, cells := 0, slots := 0, locals := 0 }
def wpX7_wipe  (σ : Sg) (post : Int32 → Sg → Prop) : Prop := (∀ σ1 : Sg, σ1 = setI σ 117 6 ((0 : Int32)) → (∀ σ3 : Sg, σ3 = setI σ1 117 10 ((0 : Int32)) → post ((σ.1 117 6)) σ3))
theorem kM_X7_wipe : s_M yX7_wipe cX7_wipe 2 (some .int) 0 := ⟨co_X7_wipe, in_X7, by decide, by decide, by decide +kernel⟩
set_option maxHeartbeats 4000000 in
set_option maxRecDepth 100000 in
theorem c_X7_wipe (l : Launch) (G : s_G)  (σ : Sg) (post : Int32 → Sg → Prop) (h : wpX7_wipe σ post) : Met l yX7_wipe (wsU yX7_wipe cX7_wipe 2 (some .int)) rm_X7_wipe (va_Pc [.ref (G.2.2 + 117)] (s_Pre G σ)) (va_Qi post (s_B G) (s_A G.2.2)) 0 0 (s_A G.2.2) := by
  refine Met.ofW (cc := cX7_wipe) (maxL := 2) (ret := (some .int)) (by decide) rfl ?_
  intro p e s m args below meth c s₁ B hml hv
  obtain ⟨rfl, hP, hrok, hK, hN⟩ := hv
  have C : s_C G p s (([.ref (G.2.2 + 117)] : List Value).toArray) m c RX7 cX7_wipe := ⟨B.exec, B.bytes, findClass_of_methodNamed B.named, fun w hw => atoms_spec (ws := wsU yX7_wipe cX7_wipe 2 (some .int)) B.pre w (List.mem_cons_of_mem _ hw), hK, hN⟩
  have hr := B.returns
  have hlocks := B.notSynchronized
  have S : s_St G σ s.heap s.heap [] := ⟨hP, va_S.rf, hrok⟩
  have hcs : 0 ≤ (rm_X7_wipe).cells ∧ 0 ≤ (rm_X7_wipe).slots := ⟨Nat.le_refl 0, Nat.le_refl 0⟩
  have hR : ∀ (r : Int32) (σ1 : Sg) (H : Heap) (locs : List Loc) (pc : Nat) (ls : Array Slot), decode cX7_wipe pc = .ok (.ireturn, 1) → post r σ1 → s_St G σ1 s.heap H locs → W p l e rm_X7_wipe s m ([.ref (G.2.2 + 117)] : List Value).toArray below meth c H locs 0 0 (MQ below (va_Qi post (s_B G) (s_A G.2.2)) ([.ref (G.2.2 + 117)] : List Value).toArray s 0 0 (s_A G.2.2)) (F0 m pc ls [.int r]) := fun _ _ _ _ _ _ hd hp S => ret_i C hr hlocks hd hp S
  have hl := lv_entry ([.ref (G.2.2 + 117)]) (n := 2) (Nat.le_of_ble_eq_true rfl)
  rw [lg_entry_eq]
  generalize (lg_sl ([.ref (G.2.2 + 117)]) ++ List.replicate (2 - (lg_sl ([.ref (G.2.2 + 117)])).length) Slot.unset).toArray = ls at hl ⊢
  have hl : lv_has ls 2 [(0, .ref (G.2.2 + 117))] := hl
  unfold wpX7_wipe at h
  refine lv_aload_n C.1 C.2.1 dX7_wipe_0 rfl (lv_at hl 0 rfl) ?_
  refine g_X7_6 C fl_X7_64 kd_117 S dX7_wipe_1 ?_
  refine lv_istore_n (lv' := [(1, .int (σ.1 117 6)), (0, .ref (G.2.2 + 117))]) C.1 C.2.1 dX7_wipe_4 rfl hl (by decide) rfl (fun ls hl => ?_)
  refine lv_aload_n C.1 C.2.1 dX7_wipe_5 rfl (lv_at hl 1 rfl) ?_
  refine lv_iconst (v := (0 : Int32)) C.1 C.2.1 dX7_wipe_6 (by decide) ?_
  refine p_X7_6 C fl_X7_64 kd_117 S dX7_wipe_7 (fun σ1 H locs e2 S => ?_)
  replace h := h σ1 e2
  refine lv_aload_n C.1 C.2.1 dX7_wipe_10 rfl (lv_at hl 1 rfl) ?_
  refine lv_iconst (v := (0 : Int32)) C.1 C.2.1 dX7_wipe_11 (by decide) ?_
  refine p_X7_10 C fl_X7_56 kd_117 S rfl rfl dX7_wipe_12 (fun σ3 H locs e4 S => ?_)
  replace h := h σ3 e4
  refine lv_iload_n C.1 C.2.1 dX7_wipe_15 rfl (lv_at hl 0 rfl) ?_
  exact hR _ _ _ _ _ _ dX7_wipe_16 h S
/-! X7_write -/
abbrev rm_X7_write : Room := { frames := 1, cells := 0, slots := 0, locals := 22 }
def wpX7_write (x1 : Int32) (σ : Sg) (post : Int32 → Sg → Prop) : Prop := wpX7_isIn x1 ((32 : Int32)) ((126 : Int32)) σ (fun r2 σ1 => (((¬ r2 = 0) → (((¬ (σ1.1 117 6) = (60 : Int32)) → (vp_in ((σ1.1 117 6)) 60 ∧ (∀ σ5 : Sg, σ5 = setI σ1 121 ((σ1.1 117 6)).toNatClampNeg x1 → (∀ σ7 : Sg, σ7 = setI σ5 117 6 (((σ5.1 117 6) + (1 : Int32))) → (∀ σ9 : Sg, σ9 = setI σ7 117 10 ((0 : Int32)) → post ((σ9.1 117 6)) σ9))))) ∧ (((σ1.1 117 6) = (60 : Int32)) → post ((-3 : Int32)) σ1))) ∧ ((r2 = 0) → post ((-1 : Int32)) σ1)))
theorem kM_X7_write : s_M yX7_write cX7_write 2 (some .int) 1 := ⟨co_X7_write, in_X7, by decide, by decide, by decide +kernel⟩
set_option maxHeartbeats 4000000 in
set_option maxRecDepth 100000 in
theorem c_X7_write (l : Launch) (G : s_G) (x1 : Int32) (σ : Sg) (post : Int32 → Sg → Prop) (h : wpX7_write x1 σ post) : Met l yX7_write (wsU yX7_write cX7_write 2 (some .int)) rm_X7_write (va_Pc [.ref (G.2.2 + 117), .int x1] (s_Pre G σ)) (va_Qi post (s_B G) (s_A G.2.2)) 0 0 (s_A G.2.2) := by
  refine Met.ofW (cc := cX7_write) (maxL := 2) (ret := (some .int)) (by decide) rfl ?_
  intro p e s m args below meth c s₁ B hml hv
  obtain ⟨rfl, hP, hrok, hK, hN⟩ := hv
  have C : s_C G p s (([.ref (G.2.2 + 117), .int x1] : List Value).toArray) m c RX7 cX7_write := ⟨B.exec, B.bytes, findClass_of_methodNamed B.named, fun w hw => atoms_spec (ws := wsU yX7_write cX7_write 2 (some .int)) B.pre w (List.mem_cons_of_mem _ hw), hK, hN⟩
  have hr := B.returns
  have hlocks := B.notSynchronized
  have S : s_St G σ s.heap s.heap [] := ⟨hP, va_S.rf, hrok⟩
  have hcs : 0 ≤ (rm_X7_write).cells ∧ 0 ≤ (rm_X7_write).slots := ⟨Nat.le_refl 0, Nat.le_refl 0⟩
  have hR : ∀ (r : Int32) (σ1 : Sg) (H : Heap) (locs : List Loc) (pc : Nat) (ls : Array Slot), decode cX7_write pc = .ok (.ireturn, 1) → post r σ1 → s_St G σ1 s.heap H locs → W p l e rm_X7_write s m ([.ref (G.2.2 + 117), .int x1] : List Value).toArray below meth c H locs 0 0 (MQ below (va_Qi post (s_B G) (s_A G.2.2)) ([.ref (G.2.2 + 117), .int x1] : List Value).toArray s 0 0 (s_A G.2.2)) (F0 m pc ls [.int r]) := fun _ _ _ _ _ _ hd hp S => ret_i C hr hlocks hd hp S
  have hl := lv_entry ([.ref (G.2.2 + 117), .int x1]) (n := 2) (Nat.le_of_ble_eq_true rfl)
  rw [lg_entry_eq]
  generalize (lg_sl ([.ref (G.2.2 + 117), .int x1]) ++ List.replicate (2 - (lg_sl ([.ref (G.2.2 + 117), .int x1])).length) Slot.unset).toArray = ls at hl ⊢
  have hl : lv_has ls 2 [(0, .ref (G.2.2 + 117)), (1, .int x1)] := hl
  unfold wpX7_write at h
  refine lv_iload_n C.1 C.2.1 dX7_write_0 rfl (lv_at hl 1 rfl) ?_
  refine lv_bipush (v := (32 : Int32)) C.1 C.2.1 dX7_write_1 (by decide) ?_
  refine lv_bipush (v := (126 : Int32)) C.1 C.2.1 dX7_write_3 (by decide) ?_
  refine k_i (r_S (As := [.int x1, .int (32 : Int32), .int (126 : Int32)]) (rest := []) C hml (c_X7_isIn l G x1 ((32 : Int32)) ((126 : Int32)) σ _ h) kM_X7_isIn st_X7_isIn ml_X7_60 ⟨rfl, rfl⟩ ⟨Nat.le_of_ble_eq_true rfl, Nat.le_of_ble_eq_true rfl⟩ hcs S rfl hl.1 rfl (Nat.le_of_ble_eq_true rfl) dX7_write_5) S (fun r2 σ1 H locs h S => ?_)
  refine lv_if_ne (tgt := 13) C.1 C.2.1 dX7_write_8 (by decide) (fun c3 => ?_) (fun c3 => ?_)
  · replace h := h.1 c3
    refine lv_aload_n C.1 C.2.1 dX7_write_13 rfl (lv_at hl 0 rfl) ?_
    refine g_X7_6 C fl_X7_64 kd_117 S dX7_write_14 ?_
    refine lv_bipush (v := (60 : Int32)) C.1 C.2.1 dX7_write_17 (by decide) ?_
    refine lv_icmp_ne (tgt := 25) C.1 C.2.1 dX7_write_19 (by decide) (fun c4 => ?_) (fun c4 => ?_)
    · replace h := h.1 c4
      refine lv_aload_n C.1 C.2.1 dX7_write_25 rfl (lv_at hl 0 rfl) ?_
      refine g_X7_5 C fl_X7_19 kd_117 S fn_117_5 dX7_write_26 ?_
      refine lv_aload_n C.1 C.2.1 dX7_write_29 rfl (lv_at hl 0 rfl) ?_
      refine g_X7_6 C fl_X7_64 kd_117 S dX7_write_30 ?_
      refine lv_iload_n C.1 C.2.1 dX7_write_33 rfl (lv_at hl 1 rfl) ?_
      refine a_ist C kd_121 S ln_121 h.1 dX7_write_34 (fun σ5 H locs e6 S => ?_)
      replace h := h.2 σ5 e6
      refine lv_aload_n C.1 C.2.1 dX7_write_35 rfl (lv_at hl 0 rfl) ?_
      refine lv_dup C.1 C.2.1 dX7_write_36 rfl ?_
      refine g_X7_6 C fl_X7_64 kd_117 S dX7_write_37 ?_
      refine lv_iconst (v := (1 : Int32)) C.1 C.2.1 dX7_write_40 (by decide) ?_
      refine lv_iadd C.1 C.2.1 dX7_write_41 ?_
      refine p_X7_6 C fl_X7_64 kd_117 S dX7_write_42 (fun σ7 H locs e8 S => ?_)
      replace h := h σ7 e8
      refine lv_aload_n C.1 C.2.1 dX7_write_45 rfl (lv_at hl 0 rfl) ?_
      refine lv_iconst (v := (0 : Int32)) C.1 C.2.1 dX7_write_46 (by decide) ?_
      refine p_X7_10 C fl_X7_56 kd_117 S rfl rfl dX7_write_47 (fun σ9 H locs e10 S => ?_)
      replace h := h σ9 e10
      refine lv_aload_n C.1 C.2.1 dX7_write_50 rfl (lv_at hl 0 rfl) ?_
      refine g_X7_6 C fl_X7_64 kd_117 S dX7_write_51 ?_
      exact hR _ _ _ _ _ _ dX7_write_54 h S
    · replace h := h.2 c4
      refine lv_bipush (v := (-3 : Int32)) C.1 C.2.1 dX7_write_22 (by decide) ?_
      exact hR _ _ _ _ _ _ dX7_write_24 h S
  · replace h := h.2 c3
    refine lv_iconst (v := (-1 : Int32)) C.1 C.2.1 dX7_write_11 (by decide) ?_
    exact hR _ _ _ _ _ _ dX7_write_12 h S
end M12
