section M8
variable {p : Program} {l : Launch} {e : Env} {R : Room} {s : State} {m : MethodId} {args : Array Value} {below : List Frame} {meth : Method} {c : Code} {H0 : Heap} {cells slots : Nat} {Q : State → Prop} {G : s_G}
/-! X7_declare -/
abbrev rm_X7_declare : Room := { frames := 4, cells := 0, slots := 0, locals := 89 }
def BX7_declare_73 (x1 : Int32) (x2 : Int32) (x3 : Int32) (post : Int32 → Sg → Prop) : Nat → Int32 → Int32 → Sg → Prop
  | 0, _, _, _ => False
  | n + 1, x4, x5, σ => ((((3 : Int32) ≤ x5) → (vp_in (((20 : Int32) + x4)) 50 ∧ (∀ σ2 : Sg, σ2 = setI σ 118 (((20 : Int32) + x4)).toNatClampNeg x1 → (vp_in (((26 : Int32) + x4)) 50 ∧ (∀ σ4 : Sg, σ4 = setI σ2 118 (((26 : Int32) + x4)).toNatClampNeg x2 → (vp_in (((32 : Int32) + x4)) 50 ∧ (∀ σ6 : Sg, σ6 = setI σ4 118 (((32 : Int32) + x4)).toNatClampNeg x3 → (vp_in (((38 : Int32) + x4)) 50 ∧ (∀ σ8 : Sg, σ8 = setI σ6 118 (((38 : Int32) + x4)).toNatClampNeg ((0 : Int32)) → (vp_in (((44 : Int32) + x4)) 50 ∧ (∀ σ10 : Sg, σ10 = setI σ8 118 (((44 : Int32) + x4)).toNatClampNeg ((0 : Int32)) → (vp_in ((0 : Int32)) 50 ∧ (vp_in ((0 : Int32)) 50 ∧ (∀ σ12 : Sg, σ12 = setI σ10 118 ((0 : Int32)).toNatClampNeg (((σ10.1 118 ((0 : Int32)).toNatClampNeg) + (1 : Int32))) → post x4 σ12)))))))))))))) ∧ ((¬ (3 : Int32) ≤ x5) → ((((σ.1 117 6) ≤ x5) → (vp_in ((((2 : Int32) + ((3 : Int32) * x4)) + x5)) 50 ∧ (∀ σ15 : Sg, σ15 = setI σ 118 ((((2 : Int32) + ((3 : Int32) * x4)) + x5)).toNatClampNeg ((0 : Int32)) → BX7_declare_73 x1 x2 x3 post n x4 ((x5 + 1)) σ15))) ∧ ((¬ (σ.1 117 6) ≤ x5) → (vp_in x5 60 ∧ (vp_in ((((2 : Int32) + ((3 : Int32) * x4)) + x5)) 50 ∧ (∀ σ17 : Sg, σ17 = setI σ 118 ((((2 : Int32) + ((3 : Int32) * x4)) + x5)).toNatClampNeg ((σ.1 121 (x5).toNatClampNeg)) → BX7_declare_73 x1 x2 x3 post n x4 ((x5 + 1)) σ17)))))))
def wpX7_declare (x1 : Int32) (x2 : Int32) (x3 : Int32) (σ : Sg) (post : Int32 → Sg → Prop) : Prop := wpX7_isIn x1 ((0 : Int32)) ((2 : Int32)) σ (fun r20 σ19 => (((r20 = 0) → post ((-1 : Int32)) σ19) ∧ ((¬ r20 = 0) → wpX7_isIn x2 ((0 : Int32)) ((3 : Int32)) σ19 (fun r23 σ22 => (((r23 = 0) → post ((-1 : Int32)) σ22) ∧ ((¬ r23 = 0) → wpX7_isIn x3 ((1 : Int32)) ((3 : Int32)) σ22 (fun r26 σ25 => (((r26 = 0) → post ((-1 : Int32)) σ25) ∧ ((¬ r26 = 0) → (((x2 ≤ x3) → wpX7_isNewWord σ25 (fun r30 σ29 => (((¬ r30 = 0) → (vp_in ((0 : Int32)) 50 ∧ (((¬ (σ29.1 118 ((0 : Int32)).toNatClampNeg) = (6 : Int32)) → wpX7_remember σ29 (fun σ33 => (vp_in ((0 : Int32)) 50 ∧ ∃ nf, BX7_declare_73 x1 x2 x3 post nf ((σ33.1 118 ((0 : Int32)).toNatClampNeg)) ((0 : Int32)) σ33))) ∧ (((σ29.1 118 ((0 : Int32)).toNatClampNeg) = (6 : Int32)) → post ((-3 : Int32)) σ29)))) ∧ ((r30 = 0) → post ((-2 : Int32)) σ29)))) ∧ ((¬ x2 ≤ x3) → post ((-1 : Int32)) σ25)))))))))))
set_option maxHeartbeats 4000000 in
set_option maxRecDepth 100000 in
theorem TX7_declare_73 (C : s_C G p s args m c RX7 cX7_declare) (hml : c.maxLocals = 6) (hcs : cells ≤ (rm_X7_declare).cells ∧ slots ≤ (rm_X7_declare).slots) {x1 : Int32} {x2 : Int32} {x3 : Int32} {post : Int32 → Sg → Prop} (hR : ∀ (r : Int32) (σ1 : Sg) (H : Heap) (locs : List Loc) (pc : Nat) (ls : Array Slot), decode cX7_declare pc = .ok (.ireturn, 1) → post r σ1 → s_St G σ1 H0 H locs → W p l e rm_X7_declare s m args below meth c H locs cells slots Q (F0 m pc ls [.int r])) : ∀ (n : Nat) (x4 : Int32) (x5 : Int32), ∀ {σ : Sg} {H : Heap} {locs : List Loc} {ls : Array Slot}, s_St G σ H0 H locs → lv_has ls 6 [(0, .ref (G.2.2 + 117)), (1, .int x1), (2, .int x2), (3, .int x3), (4, .int x4), (5, .int x5)] → BX7_declare_73 x1 x2 x3 post n x4 x5 σ → W p l e rm_X7_declare s m args below meth c H locs cells slots Q (F0 m 73 ls []) := by
  intro n
  induction n with
  | zero =>
    intro x4 x5  σ H locs ls S hl h
    exact absurd h (fun h => h)
  | succ n ih0 =>
    have ih : ∀ (x4 : Int32) (x5 : Int32), ∀ (σ : Sg) (H : Heap) (locs : List Loc) (ls : Array Slot), s_St G σ H0 H locs → lv_has ls 6 [(0, .ref (G.2.2 + 117)), (1, .int x1), (2, .int x2), (3, .int x3), (4, .int x4), (5, .int x5)] → BX7_declare_73 x1 x2 x3 post n x4 x5 σ → W p l e rm_X7_declare s m args below meth c H locs cells slots Q (F0 m 73 ls []) := fun x4 x5  _ _ _ _ => ih0 x4 x5 
    intro x4 x5  σ H locs ls S hl h
    refine lv_iload C.1 C.2.1 dX7_declare_73 (lv_at hl 5 rfl) ?_
    refine lv_iconst (v := (3 : Int32)) C.1 C.2.1 dX7_declare_75 (by decide) ?_
    refine lv_icmp_ge (tgt := 119) C.1 C.2.1 dX7_declare_76 (by decide) (fun c1 => ?_) (fun c1 => ?_)
    · replace h := h.1 c1
      refine lv_aload_n C.1 C.2.1 dX7_declare_119 rfl (lv_at hl 0 rfl) ?_
      refine g_X7_0 C fl_X7_7 kd_117 S fn_117_0 dX7_declare_120 ?_
      refine lv_bipush (v := (20 : Int32)) C.1 C.2.1 dX7_declare_123 (by decide) ?_
      refine lv_iload C.1 C.2.1 dX7_declare_125 (lv_at hl 4 rfl) ?_
      refine lv_iadd C.1 C.2.1 dX7_declare_127 ?_
      refine lv_iload_n C.1 C.2.1 dX7_declare_128 rfl (lv_at hl 1 rfl) ?_
      refine a_ist C kd_118 S ln_118 h.1 dX7_declare_129 (fun σ2 H locs e3 S => ?_)
      replace h := h.2 σ2 e3
      refine lv_aload_n C.1 C.2.1 dX7_declare_130 rfl (lv_at hl 0 rfl) ?_
      refine g_X7_0 C fl_X7_7 kd_117 S fn_117_0 dX7_declare_131 ?_
      refine lv_bipush (v := (26 : Int32)) C.1 C.2.1 dX7_declare_134 (by decide) ?_
      refine lv_iload C.1 C.2.1 dX7_declare_136 (lv_at hl 4 rfl) ?_
      refine lv_iadd C.1 C.2.1 dX7_declare_138 ?_
      refine lv_iload_n C.1 C.2.1 dX7_declare_139 rfl (lv_at hl 2 rfl) ?_
      refine a_ist C kd_118 S ln_118 h.1 dX7_declare_140 (fun σ4 H locs e5 S => ?_)
      replace h := h.2 σ4 e5
      refine lv_aload_n C.1 C.2.1 dX7_declare_141 rfl (lv_at hl 0 rfl) ?_
      refine g_X7_0 C fl_X7_7 kd_117 S fn_117_0 dX7_declare_142 ?_
      refine lv_bipush (v := (32 : Int32)) C.1 C.2.1 dX7_declare_145 (by decide) ?_
      refine lv_iload C.1 C.2.1 dX7_declare_147 (lv_at hl 4 rfl) ?_
      refine lv_iadd C.1 C.2.1 dX7_declare_149 ?_
      refine lv_iload_n C.1 C.2.1 dX7_declare_150 rfl (lv_at hl 3 rfl) ?_
      refine a_ist C kd_118 S ln_118 h.1 dX7_declare_151 (fun σ6 H locs e7 S => ?_)
      replace h := h.2 σ6 e7
      refine lv_aload_n C.1 C.2.1 dX7_declare_152 rfl (lv_at hl 0 rfl) ?_
      refine g_X7_0 C fl_X7_7 kd_117 S fn_117_0 dX7_declare_153 ?_
      refine lv_bipush (v := (38 : Int32)) C.1 C.2.1 dX7_declare_156 (by decide) ?_
      refine lv_iload C.1 C.2.1 dX7_declare_158 (lv_at hl 4 rfl) ?_
      refine lv_iadd C.1 C.2.1 dX7_declare_160 ?_
      refine lv_iconst (v := (0 : Int32)) C.1 C.2.1 dX7_declare_161 (by decide) ?_
      refine a_ist C kd_118 S ln_118 h.1 dX7_declare_162 (fun σ8 H locs e9 S => ?_)
      replace h := h.2 σ8 e9
      refine lv_aload_n C.1 C.2.1 dX7_declare_163 rfl (lv_at hl 0 rfl) ?_
      refine g_X7_0 C fl_X7_7 kd_117 S fn_117_0 dX7_declare_164 ?_
      refine lv_bipush (v := (44 : Int32)) C.1 C.2.1 dX7_declare_167 (by decide) ?_
      refine lv_iload C.1 C.2.1 dX7_declare_169 (lv_at hl 4 rfl) ?_
      refine lv_iadd C.1 C.2.1 dX7_declare_171 ?_
      refine lv_iconst (v := (0 : Int32)) C.1 C.2.1 dX7_declare_172 (by decide) ?_
      refine a_ist C kd_118 S ln_118 h.1 dX7_declare_173 (fun σ10 H locs e11 S => ?_)
      replace h := h.2 σ10 e11
      refine lv_aload_n C.1 C.2.1 dX7_declare_174 rfl (lv_at hl 0 rfl) ?_
      refine g_X7_0 C fl_X7_7 kd_117 S fn_117_0 dX7_declare_175 ?_
      refine lv_iconst (v := (0 : Int32)) C.1 C.2.1 dX7_declare_178 (by decide) ?_
      refine lv_dup2_11 C.1 C.2.1 dX7_declare_179 rfl rfl ?_
      refine a_ild C kd_118 S ln_118 h.1 dX7_declare_180 ?_
      replace h := h.2
      refine lv_iconst (v := (1 : Int32)) C.1 C.2.1 dX7_declare_181 (by decide) ?_
      refine lv_iadd C.1 C.2.1 dX7_declare_182 ?_
      refine a_ist C kd_118 S ln_118 h.1 dX7_declare_183 (fun σ12 H locs e13 S => ?_)
      replace h := h.2 σ12 e13
      refine lv_iload C.1 C.2.1 dX7_declare_184 (lv_at hl 4 rfl) ?_
      exact hR _ _ _ _ _ _ dX7_declare_186 h S
    · replace h := h.2 c1
      refine lv_aload_n C.1 C.2.1 dX7_declare_79 rfl (lv_at hl 0 rfl) ?_
      refine g_X7_0 C fl_X7_7 kd_117 S fn_117_0 dX7_declare_80 ?_
      refine lv_iconst (v := (2 : Int32)) C.1 C.2.1 dX7_declare_83 (by decide) ?_
      refine lv_iconst (v := (3 : Int32)) C.1 C.2.1 dX7_declare_84 (by decide) ?_
      refine lv_iload C.1 C.2.1 dX7_declare_85 (lv_at hl 4 rfl) ?_
      refine lv_imul C.1 C.2.1 dX7_declare_87 ?_
      refine lv_iadd C.1 C.2.1 dX7_declare_88 ?_
      refine lv_iload C.1 C.2.1 dX7_declare_89 (lv_at hl 5 rfl) ?_
      refine lv_iadd C.1 C.2.1 dX7_declare_91 ?_
      refine lv_iload C.1 C.2.1 dX7_declare_92 (lv_at hl 5 rfl) ?_
      refine lv_aload_n C.1 C.2.1 dX7_declare_94 rfl (lv_at hl 0 rfl) ?_
      refine g_X7_6 C fl_X7_64 kd_117 S dX7_declare_95 ?_
      refine lv_icmp_ge (tgt := 111) C.1 C.2.1 dX7_declare_98 (by decide) (fun c14 => ?_) (fun c14 => ?_)
      · replace h := h.1 c14
        refine lv_iconst (v := (0 : Int32)) C.1 C.2.1 dX7_declare_111 (by decide) ?_
        refine a_ist C kd_118 S ln_118 h.1 dX7_declare_112 (fun σ15 H locs e16 S => ?_)
        replace h := h.2 σ15 e16
        refine lv_iinc (v := (x5 + 1)) (lv' := [(5, .int (x5 + 1)), (0, .ref (G.2.2 + 117)), (1, .int x1), (2, .int x2), (3, .int x3), (4, .int x4)]) C.1 C.2.1 dX7_declare_113 hl (k := 5) rfl rfl (by decide) rfl (fun ls hl => ?_)
        refine lv_goto (tgt := 73) C.1 C.2.1 dX7_declare_116 (by decide) ?_
        exact ih x4 ((x5 + 1)) _ _ _ _ S (lv_sub hl [1, 2, 3, 4, 5, 0] rfl) h
      · replace h := h.2 c14
        refine lv_aload_n C.1 C.2.1 dX7_declare_101 rfl (lv_at hl 0 rfl) ?_
        refine g_X7_5 C fl_X7_19 kd_117 S fn_117_5 dX7_declare_102 ?_
        refine lv_iload C.1 C.2.1 dX7_declare_105 (lv_at hl 5 rfl) ?_
        refine a_ild C kd_121 S ln_121 h.1 dX7_declare_107 ?_
        replace h := h.2
        refine lv_goto (tgt := 112) C.1 C.2.1 dX7_declare_108 (by decide) ?_
        refine a_ist C kd_118 S ln_118 h.1 dX7_declare_112 (fun σ17 H locs e18 S => ?_)
        replace h := h.2 σ17 e18
        refine lv_iinc (v := (x5 + 1)) (lv' := [(5, .int (x5 + 1)), (0, .ref (G.2.2 + 117)), (1, .int x1), (2, .int x2), (3, .int x3), (4, .int x4)]) C.1 C.2.1 dX7_declare_113 hl (k := 5) rfl rfl (by decide) rfl (fun ls hl => ?_)
        refine lv_goto (tgt := 73) C.1 C.2.1 dX7_declare_116 (by decide) ?_
        exact ih x4 ((x5 + 1)) _ _ _ _ S (lv_sub hl [1, 2, 3, 4, 5, 0] rfl) h
theorem kM_X7_declare : s_M yX7_declare cX7_declare 6 (some .int) 3 := ⟨co_X7_declare, in_X7, by decide, by decide, by decide +kernel⟩
set_option maxHeartbeats 4000000 in
set_option maxRecDepth 100000 in
theorem c_X7_declare (l : Launch) (G : s_G) (x1 : Int32) (x2 : Int32) (x3 : Int32) (σ : Sg) (post : Int32 → Sg → Prop) (h : wpX7_declare x1 x2 x3 σ post) : Met l yX7_declare (wsU yX7_declare cX7_declare 6 (some .int)) rm_X7_declare (va_Pc [.ref (G.2.2 + 117), .int x1, .int x2, .int x3] (s_Pre G σ)) (va_Qi post (s_B G) (s_A G.2.2)) 0 0 (s_A G.2.2) := by
  refine Met.ofW (cc := cX7_declare) (maxL := 6) (ret := (some .int)) (by decide) rfl ?_
  intro p e s m args below meth c s₁ B hml hv
  obtain ⟨rfl, hP, hrok, hK, hN⟩ := hv
  have C : s_C G p s (([.ref (G.2.2 + 117), .int x1, .int x2, .int x3] : List Value).toArray) m c RX7 cX7_declare := ⟨B.exec, B.bytes, findClass_of_methodNamed B.named, fun w hw => atoms_spec (ws := wsU yX7_declare cX7_declare 6 (some .int)) B.pre w (List.mem_cons_of_mem _ hw), hK, hN⟩
  have hr := B.returns
  have hlocks := B.notSynchronized
  have S : s_St G σ s.heap s.heap [] := ⟨hP, va_S.rf, hrok⟩
  have hcs : 0 ≤ (rm_X7_declare).cells ∧ 0 ≤ (rm_X7_declare).slots := ⟨Nat.le_refl 0, Nat.le_refl 0⟩
  have hR : ∀ (r : Int32) (σ1 : Sg) (H : Heap) (locs : List Loc) (pc : Nat) (ls : Array Slot), decode cX7_declare pc = .ok (.ireturn, 1) → post r σ1 → s_St G σ1 s.heap H locs → W p l e rm_X7_declare s m ([.ref (G.2.2 + 117), .int x1, .int x2, .int x3] : List Value).toArray below meth c H locs 0 0 (MQ below (va_Qi post (s_B G) (s_A G.2.2)) ([.ref (G.2.2 + 117), .int x1, .int x2, .int x3] : List Value).toArray s 0 0 (s_A G.2.2)) (F0 m pc ls [.int r]) := fun _ _ _ _ _ _ hd hp S => ret_i C hr hlocks hd hp S
  have hl := lv_entry ([.ref (G.2.2 + 117), .int x1, .int x2, .int x3]) (n := 6) (Nat.le_of_ble_eq_true rfl)
  rw [lg_entry_eq]
  generalize (lg_sl ([.ref (G.2.2 + 117), .int x1, .int x2, .int x3]) ++ List.replicate (6 - (lg_sl ([.ref (G.2.2 + 117), .int x1, .int x2, .int x3])).length) Slot.unset).toArray = ls at hl ⊢
  have hl : lv_has ls 6 [(0, .ref (G.2.2 + 117)), (1, .int x1), (2, .int x2), (3, .int x3)] := hl
  unfold wpX7_declare at h
  refine lv_iload_n C.1 C.2.1 dX7_declare_0 rfl (lv_at hl 1 rfl) ?_
  refine lv_iconst (v := (0 : Int32)) C.1 C.2.1 dX7_declare_1 (by decide) ?_
  refine lv_iconst (v := (2 : Int32)) C.1 C.2.1 dX7_declare_2 (by decide) ?_
  refine k_i (r_S (As := [.int x1, .int (0 : Int32), .int (2 : Int32)]) (rest := []) C hml (c_X7_isIn l G x1 ((0 : Int32)) ((2 : Int32)) σ _ h) kM_X7_isIn st_X7_isIn ml_X7_60 ⟨rfl, rfl⟩ ⟨Nat.le_of_ble_eq_true rfl, Nat.le_of_ble_eq_true rfl⟩ hcs S rfl hl.1 rfl (Nat.le_of_ble_eq_true rfl) dX7_declare_3) S (fun r20 σ19 H locs h S => ?_)
  refine lv_if_eq (tgt := 32) C.1 C.2.1 dX7_declare_6 (by decide) (fun c21 => ?_) (fun c21 => ?_)
  · replace h := h.1 c21
    refine lv_iconst (v := (-1 : Int32)) C.1 C.2.1 dX7_declare_32 (by decide) ?_
    exact hR _ _ _ _ _ _ dX7_declare_33 h S
  · replace h := h.2 c21
    refine lv_iload_n C.1 C.2.1 dX7_declare_9 rfl (lv_at hl 2 rfl) ?_
    refine lv_iconst (v := (0 : Int32)) C.1 C.2.1 dX7_declare_10 (by decide) ?_
    refine lv_iconst (v := (3 : Int32)) C.1 C.2.1 dX7_declare_11 (by decide) ?_
    refine k_i (r_S (As := [.int x2, .int (0 : Int32), .int (3 : Int32)]) (rest := []) C hml (c_X7_isIn l G x2 ((0 : Int32)) ((3 : Int32)) σ19 _ h) kM_X7_isIn st_X7_isIn ml_X7_60 ⟨rfl, rfl⟩ ⟨Nat.le_of_ble_eq_true rfl, Nat.le_of_ble_eq_true rfl⟩ hcs S rfl hl.1 rfl (Nat.le_of_ble_eq_true rfl) dX7_declare_12) S (fun r23 σ22 H locs h S => ?_)
    refine lv_if_eq (tgt := 32) C.1 C.2.1 dX7_declare_15 (by decide) (fun c24 => ?_) (fun c24 => ?_)
    · replace h := h.1 c24
      refine lv_iconst (v := (-1 : Int32)) C.1 C.2.1 dX7_declare_32 (by decide) ?_
      exact hR _ _ _ _ _ _ dX7_declare_33 h S
    · replace h := h.2 c24
      refine lv_iload_n C.1 C.2.1 dX7_declare_18 rfl (lv_at hl 3 rfl) ?_
      refine lv_iconst (v := (1 : Int32)) C.1 C.2.1 dX7_declare_19 (by decide) ?_
      refine lv_iconst (v := (3 : Int32)) C.1 C.2.1 dX7_declare_20 (by decide) ?_
      refine k_i (r_S (As := [.int x3, .int (1 : Int32), .int (3 : Int32)]) (rest := []) C hml (c_X7_isIn l G x3 ((1 : Int32)) ((3 : Int32)) σ22 _ h) kM_X7_isIn st_X7_isIn ml_X7_60 ⟨rfl, rfl⟩ ⟨Nat.le_of_ble_eq_true rfl, Nat.le_of_ble_eq_true rfl⟩ hcs S rfl hl.1 rfl (Nat.le_of_ble_eq_true rfl) dX7_declare_21) S (fun r26 σ25 H locs h S => ?_)
      refine lv_if_eq (tgt := 32) C.1 C.2.1 dX7_declare_24 (by decide) (fun c27 => ?_) (fun c27 => ?_)
      · replace h := h.1 c27
        refine lv_iconst (v := (-1 : Int32)) C.1 C.2.1 dX7_declare_32 (by decide) ?_
        exact hR _ _ _ _ _ _ dX7_declare_33 h S
      · replace h := h.2 c27
        refine lv_iload_n C.1 C.2.1 dX7_declare_27 rfl (lv_at hl 3 rfl) ?_
        refine lv_iload_n C.1 C.2.1 dX7_declare_28 rfl (lv_at hl 2 rfl) ?_
        refine lv_icmp_ge (tgt := 34) C.1 C.2.1 dX7_declare_29 (by decide) (fun c28 => ?_) (fun c28 => ?_)
        · replace h := h.1 c28
          refine lv_aload_n C.1 C.2.1 dX7_declare_34 rfl (lv_at hl 0 rfl) ?_
          refine k_i (r_V (As := []) (rest := []) C hml (c_X7_isNewWord l G σ25 _ h) kM_X7_isNewWord im_X7_isNewWord se_X7_isNewWord ml_X7_83 ⟨rfl, rfl⟩ ⟨Nat.le_of_ble_eq_true rfl, Nat.le_of_ble_eq_true rfl⟩ hcs S kd_117 (by decide) (T := TX7) (N := 17) rfl rfl hl.1 rfl (Nat.le_of_ble_eq_true rfl) dX7_declare_35) S (fun r30 σ29 H locs h S => ?_)
          refine lv_if_ne (tgt := 44) C.1 C.2.1 dX7_declare_38 (by decide) (fun c31 => ?_) (fun c31 => ?_)
          · replace h := h.1 c31
            refine lv_aload_n C.1 C.2.1 dX7_declare_44 rfl (lv_at hl 0 rfl) ?_
            refine g_X7_0 C fl_X7_7 kd_117 S fn_117_0 dX7_declare_45 ?_
            refine lv_iconst (v := (0 : Int32)) C.1 C.2.1 dX7_declare_48 (by decide) ?_
            refine a_ild C kd_118 S ln_118 h.1 dX7_declare_49 ?_
            replace h := h.2
            refine lv_bipush (v := (6 : Int32)) C.1 C.2.1 dX7_declare_50 (by decide) ?_
            refine lv_icmp_ne (tgt := 58) C.1 C.2.1 dX7_declare_52 (by decide) (fun c32 => ?_) (fun c32 => ?_)
            · replace h := h.1 c32
              refine lv_aload_n C.1 C.2.1 dX7_declare_58 rfl (lv_at hl 0 rfl) ?_
              refine k_v (r_V (As := []) (rest := []) C hml (c_X7_remember l G σ29 _ h) kM_X7_remember im_X7_remember se_X7_remember ml_X7_86 ⟨rfl, rfl⟩ ⟨Nat.le_of_ble_eq_true rfl, Nat.le_of_ble_eq_true rfl⟩ hcs S kd_117 (by decide) (T := TX7) (N := 17) rfl rfl hl.1 rfl (Nat.le_of_ble_eq_true rfl) dX7_declare_59) S (fun σ33 H locs h S => ?_)
              refine lv_aload_n C.1 C.2.1 dX7_declare_62 rfl (lv_at hl 0 rfl) ?_
              refine g_X7_0 C fl_X7_7 kd_117 S fn_117_0 dX7_declare_63 ?_
              refine lv_iconst (v := (0 : Int32)) C.1 C.2.1 dX7_declare_66 (by decide) ?_
              refine a_ild C kd_118 S ln_118 h.1 dX7_declare_67 ?_
              replace h := h.2
              refine lv_istore (lv' := [(4, .int (σ33.1 118 ((0 : Int32)).toNatClampNeg)), (0, .ref (G.2.2 + 117)), (1, .int x1), (2, .int x2), (3, .int x3)]) C.1 C.2.1 dX7_declare_68 hl (by decide) rfl (fun ls hl => ?_)
              refine lv_iconst (v := (0 : Int32)) C.1 C.2.1 dX7_declare_70 (by decide) ?_
              refine lv_istore (lv' := [(5, .int (0 : Int32)), (4, .int (σ33.1 118 ((0 : Int32)).toNatClampNeg)), (0, .ref (G.2.2 + 117)), (1, .int x1), (2, .int x2), (3, .int x3)]) C.1 C.2.1 dX7_declare_71 hl (by decide) rfl (fun ls hl => ?_)
              obtain ⟨nf, h⟩ := h
              exact TX7_declare_73 C hml hcs hR nf ((σ33.1 118 ((0 : Int32)).toNatClampNeg)) ((0 : Int32)) S (lv_sub hl [2, 3, 4, 5, 1, 0] rfl) h
            · replace h := h.2 c32
              refine lv_bipush (v := (-3 : Int32)) C.1 C.2.1 dX7_declare_55 (by decide) ?_
              exact hR _ _ _ _ _ _ dX7_declare_57 h S
          · replace h := h.2 c31
            refine lv_bipush (v := (-2 : Int32)) C.1 C.2.1 dX7_declare_41 (by decide) ?_
            exact hR _ _ _ _ _ _ dX7_declare_43 h S
        · replace h := h.2 c28
          refine lv_iconst (v := (-1 : Int32)) C.1 C.2.1 dX7_declare_32 (by decide) ?_
          exact hR _ _ _ _ _ _ dX7_declare_33 h S
/-! X7_isDigitAt -/
abbrev rm_X7_isDigitAt : Room := { frames := 1, cells := 0, slots := 0, locals := 22 }
def wpX7_isDigitAt (x1 : Int32) (σ : Sg) (post : Int32 → Sg → Prop) : Prop := ((((σ.1 117 6) ≤ x1) → post (0 : Int32) σ) ∧ ((¬ (σ.1 117 6) ≤ x1) → (vp_in x1 60 ∧ wpX7_isIn ((σ.1 121 (x1).toNatClampNeg)) ((48 : Int32)) ((57 : Int32)) σ (fun r3 σ2 => (((r3 = 0) → post (0 : Int32) σ2) ∧ ((¬ r3 = 0) → post (1 : Int32) σ2))))))
theorem kM_X7_isDigitAt : s_M yX7_isDigitAt cX7_isDigitAt 2 (some .boolean) 1 := ⟨co_X7_isDigitAt, in_X7, by decide, by decide, by decide +kernel⟩
set_option maxHeartbeats 4000000 in
set_option maxRecDepth 100000 in
theorem c_X7_isDigitAt (l : Launch) (G : s_G) (x1 : Int32) (σ : Sg) (post : Int32 → Sg → Prop) (h : wpX7_isDigitAt x1 σ post) : Met l yX7_isDigitAt (wsU yX7_isDigitAt cX7_isDigitAt 2 (some .boolean)) rm_X7_isDigitAt (va_Pc [.ref (G.2.2 + 117), .int x1] (s_Pre G σ)) (va_Qi post (s_B G) (s_A G.2.2)) 0 0 (s_A G.2.2) := by
  refine Met.ofW (cc := cX7_isDigitAt) (maxL := 2) (ret := (some .boolean)) (by decide) rfl ?_
  intro p e s m args below meth c s₁ B hml hv
  obtain ⟨rfl, hP, hrok, hK, hN⟩ := hv
  have C : s_C G p s (([.ref (G.2.2 + 117), .int x1] : List Value).toArray) m c RX7 cX7_isDigitAt := ⟨B.exec, B.bytes, findClass_of_methodNamed B.named, fun w hw => atoms_spec (ws := wsU yX7_isDigitAt cX7_isDigitAt 2 (some .boolean)) B.pre w (List.mem_cons_of_mem _ hw), hK, hN⟩
  have hr := B.returns
  have hlocks := B.notSynchronized
  have S : s_St G σ s.heap s.heap [] := ⟨hP, va_S.rf, hrok⟩
  have hcs : 0 ≤ (rm_X7_isDigitAt).cells ∧ 0 ≤ (rm_X7_isDigitAt).slots := ⟨Nat.le_refl 0, Nat.le_refl 0⟩
  have hR : ∀ (r : Int32) (σ1 : Sg) (H : Heap) (locs : List Loc) (pc : Nat) (ls : Array Slot), decode cX7_isDigitAt pc = .ok (.ireturn, 1) → narrow .boolean (.int r) = .int r → post r σ1 → s_St G σ1 s.heap H locs → W p l e rm_X7_isDigitAt s m ([.ref (G.2.2 + 117), .int x1] : List Value).toArray below meth c H locs 0 0 (MQ below (va_Qi post (s_B G) (s_A G.2.2)) ([.ref (G.2.2 + 117), .int x1] : List Value).toArray s 0 0 (s_A G.2.2)) (F0 m pc ls [.int r]) := fun _ _ _ _ _ _ hd hn hp S => ret_z C hr hlocks hd hn hp S
  have hl := lv_entry ([.ref (G.2.2 + 117), .int x1]) (n := 2) (Nat.le_of_ble_eq_true rfl)
  rw [lg_entry_eq]
  generalize (lg_sl ([.ref (G.2.2 + 117), .int x1]) ++ List.replicate (2 - (lg_sl ([.ref (G.2.2 + 117), .int x1])).length) Slot.unset).toArray = ls at hl ⊢
  have hl : lv_has ls 2 [(0, .ref (G.2.2 + 117)), (1, .int x1)] := hl
  unfold wpX7_isDigitAt at h
  refine lv_iload_n C.1 C.2.1 dX7_isDigitAt_0 rfl (lv_at hl 1 rfl) ?_
  refine lv_aload_n C.1 C.2.1 dX7_isDigitAt_1 rfl (lv_at hl 0 rfl) ?_
  refine g_X7_6 C fl_X7_64 kd_117 S dX7_isDigitAt_2 ?_
  refine lv_icmp_ge (tgt := 28) C.1 C.2.1 dX7_isDigitAt_5 (by decide) (fun c1 => ?_) (fun c1 => ?_)
  · replace h := h.1 c1
    refine lv_iconst (v := (0 : Int32)) C.1 C.2.1 dX7_isDigitAt_28 (by decide) ?_
    exact hR _ _ _ _ _ _ dX7_isDigitAt_29 rfl h S
  · replace h := h.2 c1
    refine lv_aload_n C.1 C.2.1 dX7_isDigitAt_8 rfl (lv_at hl 0 rfl) ?_
    refine g_X7_5 C fl_X7_19 kd_117 S fn_117_5 dX7_isDigitAt_9 ?_
    refine lv_iload_n C.1 C.2.1 dX7_isDigitAt_12 rfl (lv_at hl 1 rfl) ?_
    refine a_ild C kd_121 S ln_121 h.1 dX7_isDigitAt_13 ?_
    replace h := h.2
    refine lv_bipush (v := (48 : Int32)) C.1 C.2.1 dX7_isDigitAt_14 (by decide) ?_
    refine lv_bipush (v := (57 : Int32)) C.1 C.2.1 dX7_isDigitAt_16 (by decide) ?_
    refine k_i (r_S (As := [.int (σ.1 121 (x1).toNatClampNeg), .int (48 : Int32), .int (57 : Int32)]) (rest := []) C hml (c_X7_isIn l G ((σ.1 121 (x1).toNatClampNeg)) ((48 : Int32)) ((57 : Int32)) σ _ h) kM_X7_isIn st_X7_isIn ml_X7_60 ⟨rfl, rfl⟩ ⟨Nat.le_of_ble_eq_true rfl, Nat.le_of_ble_eq_true rfl⟩ hcs S rfl hl.1 rfl (Nat.le_of_ble_eq_true rfl) dX7_isDigitAt_18) S (fun r3 σ2 H locs h S => ?_)
    refine lv_if_eq (tgt := 28) C.1 C.2.1 dX7_isDigitAt_21 (by decide) (fun c4 => ?_) (fun c4 => ?_)
    · replace h := h.1 c4
      refine lv_iconst (v := (0 : Int32)) C.1 C.2.1 dX7_isDigitAt_28 (by decide) ?_
      exact hR _ _ _ _ _ _ dX7_isDigitAt_29 rfl h S
    · replace h := h.2 c4
      refine lv_iconst (v := (1 : Int32)) C.1 C.2.1 dX7_isDigitAt_24 (by decide) ?_
      refine lv_goto (tgt := 29) C.1 C.2.1 dX7_isDigitAt_25 (by decide) ?_
      exact hR _ _ _ _ _ _ dX7_isDigitAt_29 rfl h S
/-! X7_matched -/
abbrev rm_X7_matched : Room := { frames := 2, cells := 0, slots := 0, locals := 44 }
def BX7_matched_2 (x1 : Int32) (x2 : Int32) (post : Int32 → Sg → Prop) : Nat → Int32 → Sg → Prop
  | 0, _, _ => False
  | n + 1, x3, σ => wpX7_wordLength x1 σ (fun r2 σ1 => (((r2 ≤ x3) → post x3 σ1) ∧ ((¬ r2 ≤ x3) → ((((σ1.1 117 6) ≤ (x2 + x3)) → post x3 σ1) ∧ ((¬ (σ1.1 117 6) ≤ (x2 + x3)) → (vp_in ((x2 + x3)) 60 ∧ wpX7_letter x1 x3 σ1 (fun r6 σ5 => (((¬ (σ1.1 121 ((x2 + x3)).toNatClampNeg) = r6) → post x3 σ5) ∧ (((σ1.1 121 ((x2 + x3)).toNatClampNeg) = r6) → BX7_matched_2 x1 x2 post n ((x3 + 1)) σ5)))))))))
def wpX7_matched (x1 : Int32) (x2 : Int32) (σ : Sg) (post : Int32 → Sg → Prop) : Prop := ∃ nf, BX7_matched_2 x1 x2 post nf ((0 : Int32)) σ
set_option maxHeartbeats 4000000 in
set_option maxRecDepth 100000 in
theorem TX7_matched_2 (C : s_C G p s args m c RX7 cX7_matched) (hml : c.maxLocals = 4) (hcs : cells ≤ (rm_X7_matched).cells ∧ slots ≤ (rm_X7_matched).slots) {x1 : Int32} {x2 : Int32} {post : Int32 → Sg → Prop} (hR : ∀ (r : Int32) (σ1 : Sg) (H : Heap) (locs : List Loc) (pc : Nat) (ls : Array Slot), decode cX7_matched pc = .ok (.ireturn, 1) → post r σ1 → s_St G σ1 H0 H locs → W p l e rm_X7_matched s m args below meth c H locs cells slots Q (F0 m pc ls [.int r])) : ∀ (n : Nat) (x3 : Int32), ∀ {σ : Sg} {H : Heap} {locs : List Loc} {ls : Array Slot}, s_St G σ H0 H locs → lv_has ls 4 [(0, .ref (G.2.2 + 117)), (1, .int x1), (2, .int x2), (3, .int x3)] → BX7_matched_2 x1 x2 post n x3 σ → W p l e rm_X7_matched s m args below meth c H locs cells slots Q (F0 m 2 ls []) := by
  intro n
  induction n with
  | zero =>
    intro x3  σ H locs ls S hl h
    exact absurd h (fun h => h)
  | succ n ih0 =>
    have ih : ∀ (x3 : Int32), ∀ (σ : Sg) (H : Heap) (locs : List Loc) (ls : Array Slot), s_St G σ H0 H locs → lv_has ls 4 [(0, .ref (G.2.2 + 117)), (1, .int x1), (2, .int x2), (3, .int x3)] → BX7_matched_2 x1 x2 post n x3 σ → W p l e rm_X7_matched s m args below meth c H locs cells slots Q (F0 m 2 ls []) := fun x3  _ _ _ _ => ih0 x3 
    intro x3  σ H locs ls S hl h
    refine lv_iload_n C.1 C.2.1 dX7_matched_2 rfl (lv_at hl 3 rfl) ?_
    refine lv_aload_n C.1 C.2.1 dX7_matched_3 rfl (lv_at hl 0 rfl) ?_
    refine lv_iload_n C.1 C.2.1 dX7_matched_4 rfl (lv_at hl 1 rfl) ?_
    refine k_i (r_V (As := [.int x1]) (rest := [.int x3]) C hml (c_X7_wordLength l G x1 σ _ h) kM_X7_wordLength im_X7_wordLength se_X7_wordLength ml_X7_71 ⟨rfl, rfl⟩ ⟨Nat.le_of_ble_eq_true rfl, Nat.le_of_ble_eq_true rfl⟩ hcs S kd_117 (by decide) (T := TX7) (N := 17) rfl rfl hl.1 rfl (Nat.le_of_ble_eq_true rfl) dX7_matched_5) S (fun r2 σ1 H locs h S => ?_)
    refine lv_icmp_ge (tgt := 44) C.1 C.2.1 dX7_matched_8 (by decide) (fun c3 => ?_) (fun c3 => ?_)
    · replace h := h.1 c3
      refine lv_iload_n C.1 C.2.1 dX7_matched_44 rfl (lv_at hl 3 rfl) ?_
      exact hR _ _ _ _ _ _ dX7_matched_45 h S
    · replace h := h.2 c3
      refine lv_iload_n C.1 C.2.1 dX7_matched_11 rfl (lv_at hl 2 rfl) ?_
      refine lv_iload_n C.1 C.2.1 dX7_matched_12 rfl (lv_at hl 3 rfl) ?_
      refine lv_iadd C.1 C.2.1 dX7_matched_13 ?_
      refine lv_aload_n C.1 C.2.1 dX7_matched_14 rfl (lv_at hl 0 rfl) ?_
      refine g_X7_6 C fl_X7_64 kd_117 S dX7_matched_15 ?_
      refine lv_icmp_ge (tgt := 44) C.1 C.2.1 dX7_matched_18 (by decide) (fun c4 => ?_) (fun c4 => ?_)
      · replace h := h.1 c4
        refine lv_iload_n C.1 C.2.1 dX7_matched_44 rfl (lv_at hl 3 rfl) ?_
        exact hR _ _ _ _ _ _ dX7_matched_45 h S
      · replace h := h.2 c4
        refine lv_aload_n C.1 C.2.1 dX7_matched_21 rfl (lv_at hl 0 rfl) ?_
        refine g_X7_5 C fl_X7_19 kd_117 S fn_117_5 dX7_matched_22 ?_
        refine lv_iload_n C.1 C.2.1 dX7_matched_25 rfl (lv_at hl 2 rfl) ?_
        refine lv_iload_n C.1 C.2.1 dX7_matched_26 rfl (lv_at hl 3 rfl) ?_
        refine lv_iadd C.1 C.2.1 dX7_matched_27 ?_
        refine a_ild C kd_121 S ln_121 h.1 dX7_matched_28 ?_
        replace h := h.2
        refine lv_aload_n C.1 C.2.1 dX7_matched_29 rfl (lv_at hl 0 rfl) ?_
        refine lv_iload_n C.1 C.2.1 dX7_matched_30 rfl (lv_at hl 1 rfl) ?_
        refine lv_iload_n C.1 C.2.1 dX7_matched_31 rfl (lv_at hl 3 rfl) ?_
        refine k_i (r_V (As := [.int x1, .int x3]) (rest := [.int (σ1.1 121 ((x2 + x3)).toNatClampNeg)]) C hml (c_X7_letter l G x1 x3 σ1 _ h) kM_X7_letter im_X7_letter se_X7_letter ml_X7_67 ⟨rfl, rfl⟩ ⟨Nat.le_of_ble_eq_true rfl, Nat.le_of_ble_eq_true rfl⟩ hcs S kd_117 (by decide) (T := TX7) (N := 17) rfl rfl hl.1 rfl (Nat.le_of_ble_eq_true rfl) dX7_matched_32) S (fun r6 σ5 H locs h S => ?_)
        refine lv_icmp_ne (tgt := 44) C.1 C.2.1 dX7_matched_35 (by decide) (fun c7 => ?_) (fun c7 => ?_)
        · replace h := h.1 c7
          refine lv_iload_n C.1 C.2.1 dX7_matched_44 rfl (lv_at hl 3 rfl) ?_
          exact hR _ _ _ _ _ _ dX7_matched_45 h S
        · replace h := h.2 c7
          refine lv_iinc (v := (x3 + 1)) (lv' := [(3, .int (x3 + 1)), (0, .ref (G.2.2 + 117)), (1, .int x1), (2, .int x2)]) C.1 C.2.1 dX7_matched_38 hl (k := 3) rfl rfl (by decide) rfl (fun ls hl => ?_)
          refine lv_goto (tgt := 2) C.1 C.2.1 dX7_matched_41 (by decide) ?_
          exact ih ((x3 + 1)) _ _ _ _ S (lv_sub hl [1, 2, 3, 0] rfl) h
theorem kM_X7_matched : s_M yX7_matched cX7_matched 4 (some .int) 2 := ⟨co_X7_matched, in_X7, by decide, by decide, by decide +kernel⟩
set_option maxHeartbeats 4000000 in
set_option maxRecDepth 100000 in
theorem c_X7_matched (l : Launch) (G : s_G) (x1 : Int32) (x2 : Int32) (σ : Sg) (post : Int32 → Sg → Prop) (h : wpX7_matched x1 x2 σ post) : Met l yX7_matched (wsU yX7_matched cX7_matched 4 (some .int)) rm_X7_matched (va_Pc [.ref (G.2.2 + 117), .int x1, .int x2] (s_Pre G σ)) (va_Qi post (s_B G) (s_A G.2.2)) 0 0 (s_A G.2.2) := by
  refine Met.ofW (cc := cX7_matched) (maxL := 4) (ret := (some .int)) (by decide) rfl ?_
  intro p e s m args below meth c s₁ B hml hv
  obtain ⟨rfl, hP, hrok, hK, hN⟩ := hv
  have C : s_C G p s (([.ref (G.2.2 + 117), .int x1, .int x2] : List Value).toArray) m c RX7 cX7_matched := ⟨B.exec, B.bytes, findClass_of_methodNamed B.named, fun w hw => atoms_spec (ws := wsU yX7_matched cX7_matched 4 (some .int)) B.pre w (List.mem_cons_of_mem _ hw), hK, hN⟩
  have hr := B.returns
  have hlocks := B.notSynchronized
  have S : s_St G σ s.heap s.heap [] := ⟨hP, va_S.rf, hrok⟩
  have hcs : 0 ≤ (rm_X7_matched).cells ∧ 0 ≤ (rm_X7_matched).slots := ⟨Nat.le_refl 0, Nat.le_refl 0⟩
  have hR : ∀ (r : Int32) (σ1 : Sg) (H : Heap) (locs : List Loc) (pc : Nat) (ls : Array Slot), decode cX7_matched pc = .ok (.ireturn, 1) → post r σ1 → s_St G σ1 s.heap H locs → W p l e rm_X7_matched s m ([.ref (G.2.2 + 117), .int x1, .int x2] : List Value).toArray below meth c H locs 0 0 (MQ below (va_Qi post (s_B G) (s_A G.2.2)) ([.ref (G.2.2 + 117), .int x1, .int x2] : List Value).toArray s 0 0 (s_A G.2.2)) (F0 m pc ls [.int r]) := fun _ _ _ _ _ _ hd hp S => ret_i C hr hlocks hd hp S
  have hl := lv_entry ([.ref (G.2.2 + 117), .int x1, .int x2]) (n := 4) (Nat.le_of_ble_eq_true rfl)
  rw [lg_entry_eq]
  generalize (lg_sl ([.ref (G.2.2 + 117), .int x1, .int x2]) ++ List.replicate (4 - (lg_sl ([.ref (G.2.2 + 117), .int x1, .int x2])).length) Slot.unset).toArray = ls at hl ⊢
  have hl : lv_has ls 4 [(0, .ref (G.2.2 + 117)), (1, .int x1), (2, .int x2)] := hl
  unfold wpX7_matched at h
  refine lv_iconst (v := (0 : Int32)) C.1 C.2.1 dX7_matched_0 (by decide) ?_
  refine lv_istore_n (lv' := [(3, .int (0 : Int32)), (0, .ref (G.2.2 + 117)), (1, .int x1), (2, .int x2)]) C.1 C.2.1 dX7_matched_1 rfl hl (by decide) rfl (fun ls hl => ?_)
  obtain ⟨nf, h⟩ := h
  exact TX7_matched_2 C hml hcs hR nf ((0 : Int32)) S (lv_sub hl [1, 2, 3, 0] rfl) h
/-! X7_endOf -/
abbrev rm_X7_endOf : Room := { frames := 3, cells := 0, slots := 0, locals := 67 }
def BX7_endOf_65 (x1 : Int32) (x2 : Int32) (post : Int32 → Sg → Prop) : Nat → Int32 → Int32 → Sg → Prop
  | 0, _, _, _ => False
  | n + 1, x3, x4, σ => ((((x3 + (3 : Int32)) ≤ x4) → (((¬ x4 = x3) → post x4 σ) ∧ ((x4 = x3) → post ((-9 : Int32)) σ))) ∧ ((¬ (x3 + (3 : Int32)) ≤ x4) → wpX7_isDigitAt x4 σ (fun r4 σ3 => (((r4 = 0) → (((¬ x4 = x3) → post x4 σ3) ∧ ((x4 = x3) → post ((-9 : Int32)) σ3))) ∧ ((¬ r4 = 0) → BX7_endOf_65 x1 x2 post n x3 ((x4 + 1)) σ3)))))
def wpX7_endOf (x1 : Int32) (x2 : Int32) (σ : Sg) (post : Int32 → Sg → Prop) : Prop := wpX7_wordLength x1 σ (fun r8 σ7 => wpX7_matched x1 x2 σ7 (fun r10 σ9 => wpX7_wordLength x1 σ9 (fun r12 σ11 => (((r12 ≤ r10) → (vp_in (((20 : Int32) + x1)) 50 ∧ (((¬ (σ11.1 118 (((20 : Int32) + x1)).toNatClampNeg) = 0 ∧ ¬ (σ11.1 118 (((20 : Int32) + x1)).toNatClampNeg) = 1) → ((((σ11.1 117 6) ≤ (x2 + r8)) → post ((-9 : Int32)) σ11) ∧ ((¬ (σ11.1 117 6) ≤ (x2 + r8)) → (vp_in ((x2 + r8)) 60 ∧ wpX7_isIn ((σ11.1 121 ((x2 + r8)).toNatClampNeg)) ((65 : Int32)) ((90 : Int32)) σ11 (fun r17 σ16 => (((r17 = 0) → post ((-9 : Int32)) σ16) ∧ ((¬ r17 = 0) → post (((x2 + r8) + (1 : Int32))) σ16))))))) ∧ (((σ11.1 118 (((20 : Int32) + x1)).toNatClampNeg) = 0) → post ((x2 + r8)) σ11) ∧ (((σ11.1 118 (((20 : Int32) + x1)).toNatClampNeg) = 1) → ∃ nf, BX7_endOf_65 x1 x2 post nf ((x2 + r8)) ((x2 + r8)) σ11)))) ∧ ((¬ r12 ≤ r10) → post ((-9 : Int32)) σ11)))))
set_option maxHeartbeats 4000000 in
set_option maxRecDepth 100000 in
theorem TX7_endOf_65 (C : s_C G p s args m c RX7 cX7_endOf) (hml : c.maxLocals = 5) (hcs : cells ≤ (rm_X7_endOf).cells ∧ slots ≤ (rm_X7_endOf).slots) {x1 : Int32} {x2 : Int32} {post : Int32 → Sg → Prop} (hR : ∀ (r : Int32) (σ1 : Sg) (H : Heap) (locs : List Loc) (pc : Nat) (ls : Array Slot), decode cX7_endOf pc = .ok (.ireturn, 1) → post r σ1 → s_St G σ1 H0 H locs → W p l e rm_X7_endOf s m args below meth c H locs cells slots Q (F0 m pc ls [.int r])) : ∀ (n : Nat) (x3 : Int32) (x4 : Int32), ∀ {σ : Sg} {H : Heap} {locs : List Loc} {ls : Array Slot}, s_St G σ H0 H locs → lv_has ls 5 [(0, .ref (G.2.2 + 117)), (3, .int x3), (4, .int x4)] → BX7_endOf_65 x1 x2 post n x3 x4 σ → W p l e rm_X7_endOf s m args below meth c H locs cells slots Q (F0 m 65 ls []) := by
  intro n
  induction n with
  | zero =>
    intro x3 x4  σ H locs ls S hl h
    exact absurd h (fun h => h)
  | succ n ih0 =>
    have ih : ∀ (x3 : Int32) (x4 : Int32), ∀ (σ : Sg) (H : Heap) (locs : List Loc) (ls : Array Slot), s_St G σ H0 H locs → lv_has ls 5 [(0, .ref (G.2.2 + 117)), (3, .int x3), (4, .int x4)] → BX7_endOf_65 x1 x2 post n x3 x4 σ → W p l e rm_X7_endOf s m args below meth c H locs cells slots Q (F0 m 65 ls []) := fun x3 x4  _ _ _ _ => ih0 x3 x4 
    intro x3 x4  σ H locs ls S hl h
    refine lv_iload C.1 C.2.1 dX7_endOf_65 (lv_at hl 2 rfl) ?_
    refine lv_iload_n C.1 C.2.1 dX7_endOf_67 rfl (lv_at hl 1 rfl) ?_
    refine lv_iconst (v := (3 : Int32)) C.1 C.2.1 dX7_endOf_68 (by decide) ?_
    refine lv_iadd C.1 C.2.1 dX7_endOf_69 ?_
    refine lv_icmp_ge (tgt := 88) C.1 C.2.1 dX7_endOf_70 (by decide) (fun c1 => ?_) (fun c1 => ?_)
    · replace h := h.1 c1
      refine lv_iload C.1 C.2.1 dX7_endOf_88 (lv_at hl 2 rfl) ?_
      refine lv_iload_n C.1 C.2.1 dX7_endOf_90 rfl (lv_at hl 1 rfl) ?_
      refine lv_icmp_ne (tgt := 99) C.1 C.2.1 dX7_endOf_91 (by decide) (fun c2 => ?_) (fun c2 => ?_)
      · replace h := h.1 c2
        refine lv_iload C.1 C.2.1 dX7_endOf_99 (lv_at hl 2 rfl) ?_
        exact hR _ _ _ _ _ _ dX7_endOf_101 h S
      · replace h := h.2 c2
        refine lv_bipush (v := (-9 : Int32)) C.1 C.2.1 dX7_endOf_94 (by decide) ?_
        refine lv_goto (tgt := 101) C.1 C.2.1 dX7_endOf_96 (by decide) ?_
        exact hR _ _ _ _ _ _ dX7_endOf_101 h S
    · replace h := h.2 c1
      refine lv_aload_n C.1 C.2.1 dX7_endOf_73 rfl (lv_at hl 0 rfl) ?_
      refine lv_iload C.1 C.2.1 dX7_endOf_74 (lv_at hl 2 rfl) ?_
      refine k_i (r_V (As := [.int x4]) (rest := []) C hml (c_X7_isDigitAt l G x4 σ _ h) kM_X7_isDigitAt im_X7_isDigitAt se_X7_isDigitAt ml_X7_134 ⟨rfl, rfl⟩ ⟨Nat.le_of_ble_eq_true rfl, Nat.le_of_ble_eq_true rfl⟩ hcs S kd_117 (by decide) (T := TX7) (N := 17) rfl rfl hl.1 rfl (Nat.le_of_ble_eq_true rfl) dX7_endOf_76) S (fun r4 σ3 H locs h S => ?_)
      refine lv_if_eq (tgt := 88) C.1 C.2.1 dX7_endOf_79 (by decide) (fun c5 => ?_) (fun c5 => ?_)
      · replace h := h.1 c5
        refine lv_iload C.1 C.2.1 dX7_endOf_88 (lv_at hl 2 rfl) ?_
        refine lv_iload_n C.1 C.2.1 dX7_endOf_90 rfl (lv_at hl 1 rfl) ?_
        refine lv_icmp_ne (tgt := 99) C.1 C.2.1 dX7_endOf_91 (by decide) (fun c6 => ?_) (fun c6 => ?_)
        · replace h := h.1 c6
          refine lv_iload C.1 C.2.1 dX7_endOf_99 (lv_at hl 2 rfl) ?_
          exact hR _ _ _ _ _ _ dX7_endOf_101 h S
        · replace h := h.2 c6
          refine lv_bipush (v := (-9 : Int32)) C.1 C.2.1 dX7_endOf_94 (by decide) ?_
          refine lv_goto (tgt := 101) C.1 C.2.1 dX7_endOf_96 (by decide) ?_
          exact hR _ _ _ _ _ _ dX7_endOf_101 h S
      · replace h := h.2 c5
        refine lv_iinc (v := (x4 + 1)) (lv' := [(4, .int (x4 + 1)), (0, .ref (G.2.2 + 117)), (3, .int x3)]) C.1 C.2.1 dX7_endOf_82 hl (k := 2) rfl rfl (by decide) rfl (fun ls hl => ?_)
        refine lv_goto (tgt := 65) C.1 C.2.1 dX7_endOf_85 (by decide) ?_
        exact ih x3 ((x4 + 1)) _ _ _ _ S (lv_sub hl [1, 2, 0] rfl) h
theorem kM_X7_endOf : s_M yX7_endOf cX7_endOf 5 (some .int) 2 := ⟨co_X7_endOf, in_X7, by decide, by decide, by decide +kernel⟩
set_option maxHeartbeats 4000000 in
set_option maxRecDepth 100000 in
theorem c_X7_endOf (l : Launch) (G : s_G) (x1 : Int32) (x2 : Int32) (σ : Sg) (post : Int32 → Sg → Prop) (h : wpX7_endOf x1 x2 σ post) : Met l yX7_endOf (wsU yX7_endOf cX7_endOf 5 (some .int)) rm_X7_endOf (va_Pc [.ref (G.2.2 + 117), .int x1, .int x2] (s_Pre G σ)) (va_Qi post (s_B G) (s_A G.2.2)) 0 0 (s_A G.2.2) := by
  refine Met.ofW (cc := cX7_endOf) (maxL := 5) (ret := (some .int)) (by decide) rfl ?_
  intro p e s m args below meth c s₁ B hml hv
  obtain ⟨rfl, hP, hrok, hK, hN⟩ := hv
  have C : s_C G p s (([.ref (G.2.2 + 117), .int x1, .int x2] : List Value).toArray) m c RX7 cX7_endOf := ⟨B.exec, B.bytes, findClass_of_methodNamed B.named, fun w hw => atoms_spec (ws := wsU yX7_endOf cX7_endOf 5 (some .int)) B.pre w (List.mem_cons_of_mem _ hw), hK, hN⟩
  have hr := B.returns
  have hlocks := B.notSynchronized
  have S : s_St G σ s.heap s.heap [] := ⟨hP, va_S.rf, hrok⟩
  have hcs : 0 ≤ (rm_X7_endOf).cells ∧ 0 ≤ (rm_X7_endOf).slots := ⟨Nat.le_refl 0, Nat.le_refl 0⟩
  have hR : ∀ (r : Int32) (σ1 : Sg) (H : Heap) (locs : List Loc) (pc : Nat) (ls : Array Slot), decode cX7_endOf pc = .ok (.ireturn, 1) → post r σ1 → s_St G σ1 s.heap H locs → W p l e rm_X7_endOf s m ([.ref (G.2.2 + 117), .int x1, .int x2] : List Value).toArray below meth c H locs 0 0 (MQ below (va_Qi post (s_B G) (s_A G.2.2)) ([.ref (G.2.2 + 117), .int x1, .int x2] : List Value).toArray s 0 0 (s_A G.2.2)) (F0 m pc ls [.int r]) := fun _ _ _ _ _ _ hd hp S => ret_i C hr hlocks hd hp S
  have hl := lv_entry ([.ref (G.2.2 + 117), .int x1, .int x2]) (n := 5) (Nat.le_of_ble_eq_true rfl)
  rw [lg_entry_eq]
  generalize (lg_sl ([.ref (G.2.2 + 117), .int x1, .int x2]) ++ List.replicate (5 - (lg_sl ([.ref (G.2.2 + 117), .int x1, .int x2])).length) Slot.unset).toArray = ls at hl ⊢
  have hl : lv_has ls 5 [(0, .ref (G.2.2 + 117)), (1, .int x1), (2, .int x2)] := hl
  unfold wpX7_endOf at h
  refine lv_iload_n C.1 C.2.1 dX7_endOf_0 rfl (lv_at hl 2 rfl) ?_
  refine lv_aload_n C.1 C.2.1 dX7_endOf_1 rfl (lv_at hl 0 rfl) ?_
  refine lv_iload_n C.1 C.2.1 dX7_endOf_2 rfl (lv_at hl 1 rfl) ?_
  refine k_i (r_V (As := [.int x1]) (rest := [.int x2]) C hml (c_X7_wordLength l G x1 σ _ h) kM_X7_wordLength im_X7_wordLength se_X7_wordLength ml_X7_71 ⟨rfl, rfl⟩ ⟨Nat.le_of_ble_eq_true rfl, Nat.le_of_ble_eq_true rfl⟩ hcs S kd_117 (by decide) (T := TX7) (N := 17) rfl rfl hl.1 rfl (Nat.le_of_ble_eq_true rfl) dX7_endOf_3) S (fun r8 σ7 H locs h S => ?_)
  refine lv_iadd C.1 C.2.1 dX7_endOf_6 ?_
  refine lv_istore_n (lv' := [(3, .int (x2 + r8)), (0, .ref (G.2.2 + 117)), (1, .int x1), (2, .int x2)]) C.1 C.2.1 dX7_endOf_7 rfl hl (by decide) rfl (fun ls hl => ?_)
  refine lv_aload_n C.1 C.2.1 dX7_endOf_8 rfl (lv_at hl 1 rfl) ?_
  refine lv_iload_n C.1 C.2.1 dX7_endOf_9 rfl (lv_at hl 2 rfl) ?_
  refine lv_iload_n C.1 C.2.1 dX7_endOf_10 rfl (lv_at hl 3 rfl) ?_
  refine k_i (r_V (As := [.int x1, .int x2]) (rest := []) C hml (c_X7_matched l G x1 x2 σ7 _ h) kM_X7_matched im_X7_matched se_X7_matched ml_X7_131 ⟨rfl, rfl⟩ ⟨Nat.le_of_ble_eq_true rfl, Nat.le_of_ble_eq_true rfl⟩ hcs S kd_117 (by decide) (T := TX7) (N := 17) rfl rfl hl.1 rfl (Nat.le_of_ble_eq_true rfl) dX7_endOf_11) S (fun r10 σ9 H locs h S => ?_)
  refine lv_aload_n C.1 C.2.1 dX7_endOf_14 rfl (lv_at hl 1 rfl) ?_
  refine lv_iload_n C.1 C.2.1 dX7_endOf_15 rfl (lv_at hl 2 rfl) ?_
  refine k_i (r_V (As := [.int x1]) (rest := [.int r10]) C hml (c_X7_wordLength l G x1 σ9 _ h) kM_X7_wordLength im_X7_wordLength se_X7_wordLength ml_X7_71 ⟨rfl, rfl⟩ ⟨Nat.le_of_ble_eq_true rfl, Nat.le_of_ble_eq_true rfl⟩ hcs S kd_117 (by decide) (T := TX7) (N := 17) rfl rfl hl.1 rfl (Nat.le_of_ble_eq_true rfl) dX7_endOf_16) S (fun r12 σ11 H locs h S => ?_)
  refine lv_icmp_ge (tgt := 25) C.1 C.2.1 dX7_endOf_19 (by decide) (fun c13 => ?_) (fun c13 => ?_)
  · replace h := h.1 c13
    refine lv_aload_n C.1 C.2.1 dX7_endOf_25 rfl (lv_at hl 1 rfl) ?_
    refine g_X7_0 C fl_X7_7 kd_117 S fn_117_0 dX7_endOf_26 ?_
    refine lv_bipush (v := (20 : Int32)) C.1 C.2.1 dX7_endOf_29 (by decide) ?_
    refine lv_iload_n C.1 C.2.1 dX7_endOf_31 rfl (lv_at hl 2 rfl) ?_
    refine lv_iadd C.1 C.2.1 dX7_endOf_32 ?_
    refine a_ild C kd_118 S ln_118 h.1 dX7_endOf_33 ?_
    replace h := h.2
    rcases (lk_0_1 ((σ11.1 118 (((20 : Int32) + x1)).toNatClampNeg))) with c14 | c14 | c14
    · replace h := h.1 c14
      refine lv_lookup (tgt := 102) (off := 68) C.1 C.2.1 dX7_endOf_34 (by decide) (lkd_0_1 c14) (by decide) ?_
      refine lv_iload_n C.1 C.2.1 dX7_endOf_102 rfl (lv_at hl 0 rfl) ?_
      refine lv_aload_n C.1 C.2.1 dX7_endOf_103 rfl (lv_at hl 1 rfl) ?_
      refine g_X7_6 C fl_X7_64 kd_117 S dX7_endOf_104 ?_
      refine lv_icmp_ge (tgt := 132) C.1 C.2.1 dX7_endOf_107 (by decide) (fun c15 => ?_) (fun c15 => ?_)
      · replace h := h.1 c15
        refine lv_bipush (v := (-9 : Int32)) C.1 C.2.1 dX7_endOf_132 (by decide) ?_
        exact hR _ _ _ _ _ _ dX7_endOf_134 h S
      · replace h := h.2 c15
        refine lv_aload_n C.1 C.2.1 dX7_endOf_110 rfl (lv_at hl 1 rfl) ?_
        refine g_X7_5 C fl_X7_19 kd_117 S fn_117_5 dX7_endOf_111 ?_
        refine lv_iload_n C.1 C.2.1 dX7_endOf_114 rfl (lv_at hl 0 rfl) ?_
        refine a_ild C kd_121 S ln_121 h.1 dX7_endOf_115 ?_
        replace h := h.2
        refine lv_bipush (v := (65 : Int32)) C.1 C.2.1 dX7_endOf_116 (by decide) ?_
        refine lv_bipush (v := (90 : Int32)) C.1 C.2.1 dX7_endOf_118 (by decide) ?_
        refine k_i (r_S (As := [.int (σ11.1 121 ((x2 + r8)).toNatClampNeg), .int (65 : Int32), .int (90 : Int32)]) (rest := []) C hml (c_X7_isIn l G ((σ11.1 121 ((x2 + r8)).toNatClampNeg)) ((65 : Int32)) ((90 : Int32)) σ11 _ h) kM_X7_isIn st_X7_isIn ml_X7_60 ⟨rfl, rfl⟩ ⟨Nat.le_of_ble_eq_true rfl, Nat.le_of_ble_eq_true rfl⟩ hcs S rfl hl.1 rfl (Nat.le_of_ble_eq_true rfl) dX7_endOf_120) S (fun r17 σ16 H locs h S => ?_)
        refine lv_if_eq (tgt := 132) C.1 C.2.1 dX7_endOf_123 (by decide) (fun c18 => ?_) (fun c18 => ?_)
        · replace h := h.1 c18
          refine lv_bipush (v := (-9 : Int32)) C.1 C.2.1 dX7_endOf_132 (by decide) ?_
          exact hR _ _ _ _ _ _ dX7_endOf_134 h S
        · replace h := h.2 c18
          refine lv_iload_n C.1 C.2.1 dX7_endOf_126 rfl (lv_at hl 0 rfl) ?_
          refine lv_iconst (v := (1 : Int32)) C.1 C.2.1 dX7_endOf_127 (by decide) ?_
          refine lv_iadd C.1 C.2.1 dX7_endOf_128 ?_
          refine lv_goto (tgt := 134) C.1 C.2.1 dX7_endOf_129 (by decide) ?_
          exact hR _ _ _ _ _ _ dX7_endOf_134 h S
    · replace h := h.2.1 c14
      refine lv_lookup (tgt := 60) (off := 26) C.1 C.2.1 dX7_endOf_34 (by decide) (by rw [c14]; decide) (by decide) ?_
      refine lv_iload_n C.1 C.2.1 dX7_endOf_60 rfl (lv_at hl 0 rfl) ?_
      exact hR _ _ _ _ _ _ dX7_endOf_61 h S
    · replace h := h.2.2 c14
      refine lv_lookup (tgt := 62) (off := 28) C.1 C.2.1 dX7_endOf_34 (by decide) (by rw [c14]; decide) (by decide) ?_
      refine lv_iload_n C.1 C.2.1 dX7_endOf_62 rfl (lv_at hl 0 rfl) ?_
      refine lv_istore (lv' := [(4, .int (x2 + r8)), (3, .int (x2 + r8)), (0, .ref (G.2.2 + 117)), (1, .int x1), (2, .int x2)]) C.1 C.2.1 dX7_endOf_63 hl (by decide) rfl (fun ls hl => ?_)
      obtain ⟨nf, h⟩ := h
      exact TX7_endOf_65 C hml hcs hR nf ((x2 + r8)) ((x2 + r8)) S (lv_sub hl [2, 1, 0] rfl) h
  · replace h := h.2 c13
    refine lv_bipush (v := (-9 : Int32)) C.1 C.2.1 dX7_endOf_22 (by decide) ?_
    exact hR _ _ _ _ _ _ dX7_endOf_24 h S
/-! X7_may -/
abbrev rm_X7_may : Room := { frames := 1, cells := 0, slots := 0, locals := 21 }
def BX7_may_21 (x1 : Int32) (x2 : Int32) (post : Int32 → Sg → Prop) : Nat → Int32 → Sg → Prop
  | 0, _, _ => False
  | n + 1, x3, σ => (vp_in ((0 : Int32)) 50 ∧ ((((σ.1 118 ((0 : Int32)).toNatClampNeg) ≤ x3) → post (1 : Int32) σ) ∧ ((¬ (σ.1 118 ((0 : Int32)).toNatClampNeg) ≤ x3) → (vp_in (((44 : Int32) + x2)) 50 ∧ wpX7_has ((σ.1 118 (((44 : Int32) + x2)).toNatClampNeg)) x3 σ (fun r3 σ2 => (((r3 = 0) → BX7_may_21 x1 x2 post n ((x3 + 1)) σ2) ∧ ((¬ r3 = 0) → wpX7_countIn x1 x3 σ2 (fun r6 σ5 => (((r6 ≤ 0) → BX7_may_21 x1 x2 post n ((x3 + 1)) σ5) ∧ ((¬ r6 ≤ 0) → post (0 : Int32) σ5))))))))))
def wpX7_may (x1 : Int32) (x2 : Int32) (σ : Sg) (post : Int32 → Sg → Prop) : Prop := wpX7_countIn x1 x2 σ (fun r9 σ8 => (vp_in (((32 : Int32) + x2)) 50 ∧ (((r9 < (σ8.1 118 (((32 : Int32) + x2)).toNatClampNeg)) → ∃ nf, BX7_may_21 x1 x2 post nf ((0 : Int32)) σ8) ∧ ((¬ r9 < (σ8.1 118 (((32 : Int32) + x2)).toNatClampNeg)) → post (0 : Int32) σ8))))
set_option maxHeartbeats 4000000 in
set_option maxRecDepth 100000 in
theorem TX7_may_21 (C : s_C G p s args m c RX7 cX7_may) (hml : c.maxLocals = 4) (hcs : cells ≤ (rm_X7_may).cells ∧ slots ≤ (rm_X7_may).slots) {x1 : Int32} {x2 : Int32} {post : Int32 → Sg → Prop} (hR : ∀ (r : Int32) (σ1 : Sg) (H : Heap) (locs : List Loc) (pc : Nat) (ls : Array Slot), decode cX7_may pc = .ok (.ireturn, 1) → narrow .boolean (.int r) = .int r → post r σ1 → s_St G σ1 H0 H locs → W p l e rm_X7_may s m args below meth c H locs cells slots Q (F0 m pc ls [.int r])) : ∀ (n : Nat) (x3 : Int32), ∀ {σ : Sg} {H : Heap} {locs : List Loc} {ls : Array Slot}, s_St G σ H0 H locs → lv_has ls 4 [(0, .ref (G.2.2 + 117)), (1, .int x1), (2, .int x2), (3, .int x3)] → BX7_may_21 x1 x2 post n x3 σ → W p l e rm_X7_may s m args below meth c H locs cells slots Q (F0 m 21 ls []) := by
  intro n
  induction n with
  | zero =>
    intro x3  σ H locs ls S hl h
    exact absurd h (fun h => h)
  | succ n ih0 =>
    have ih : ∀ (x3 : Int32), ∀ (σ : Sg) (H : Heap) (locs : List Loc) (ls : Array Slot), s_St G σ H0 H locs → lv_has ls 4 [(0, .ref (G.2.2 + 117)), (1, .int x1), (2, .int x2), (3, .int x3)] → BX7_may_21 x1 x2 post n x3 σ → W p l e rm_X7_may s m args below meth c H locs cells slots Q (F0 m 21 ls []) := fun x3  _ _ _ _ => ih0 x3 
    intro x3  σ H locs ls S hl h
    refine lv_iload_n C.1 C.2.1 dX7_may_21 rfl (lv_at hl 3 rfl) ?_
    refine lv_aload_n C.1 C.2.1 dX7_may_22 rfl (lv_at hl 0 rfl) ?_
    refine g_X7_0 C fl_X7_7 kd_117 S fn_117_0 dX7_may_23 ?_
    refine lv_iconst (v := (0 : Int32)) C.1 C.2.1 dX7_may_26 (by decide) ?_
    refine a_ild C kd_118 S ln_118 h.1 dX7_may_27 ?_
    replace h := h.2
    refine lv_icmp_ge (tgt := 63) C.1 C.2.1 dX7_may_28 (by decide) (fun c1 => ?_) (fun c1 => ?_)
    · replace h := h.1 c1
      refine lv_iconst (v := (1 : Int32)) C.1 C.2.1 dX7_may_63 (by decide) ?_
      exact hR _ _ _ _ _ _ dX7_may_64 rfl h S
    · replace h := h.2 c1
      refine lv_aload_n C.1 C.2.1 dX7_may_31 rfl (lv_at hl 0 rfl) ?_
      refine g_X7_0 C fl_X7_7 kd_117 S fn_117_0 dX7_may_32 ?_
      refine lv_bipush (v := (44 : Int32)) C.1 C.2.1 dX7_may_35 (by decide) ?_
      refine lv_iload_n C.1 C.2.1 dX7_may_37 rfl (lv_at hl 2 rfl) ?_
      refine lv_iadd C.1 C.2.1 dX7_may_38 ?_
      refine a_ild C kd_118 S ln_118 h.1 dX7_may_39 ?_
      replace h := h.2
      refine lv_iload_n C.1 C.2.1 dX7_may_40 rfl (lv_at hl 3 rfl) ?_
      refine k_i (r_S (As := [.int (σ.1 118 (((44 : Int32) + x2)).toNatClampNeg), .int x3]) (rest := []) C hml (c_X7_has l G ((σ.1 118 (((44 : Int32) + x2)).toNatClampNeg)) x3 σ _ h) kM_X7_has st_X7_has ml_X7_89 ⟨rfl, rfl⟩ ⟨Nat.le_of_ble_eq_true rfl, Nat.le_of_ble_eq_true rfl⟩ hcs S rfl hl.1 rfl (Nat.le_of_ble_eq_true rfl) dX7_may_41) S (fun r3 σ2 H locs h S => ?_)
      refine lv_if_eq (tgt := 57) C.1 C.2.1 dX7_may_44 (by decide) (fun c4 => ?_) (fun c4 => ?_)
      · replace h := h.1 c4
        refine lv_iinc (v := (x3 + 1)) (lv' := [(3, .int (x3 + 1)), (0, .ref (G.2.2 + 117)), (1, .int x1), (2, .int x2)]) C.1 C.2.1 dX7_may_57 hl (k := 3) rfl rfl (by decide) rfl (fun ls hl => ?_)
        refine lv_goto (tgt := 21) C.1 C.2.1 dX7_may_60 (by decide) ?_
        exact ih ((x3 + 1)) _ _ _ _ S (lv_sub hl [1, 2, 3, 0] rfl) h
      · replace h := h.2 c4
        refine lv_iload_n C.1 C.2.1 dX7_may_47 rfl (lv_at hl 1 rfl) ?_
        refine lv_iload_n C.1 C.2.1 dX7_may_48 rfl (lv_at hl 3 rfl) ?_
        refine k_i (r_S (As := [.int x1, .int x3]) (rest := []) C hml (c_X7_countIn l G x1 x3 σ2 _ h) kM_X7_countIn st_X7_countIn ml_X7_125 ⟨rfl, rfl⟩ ⟨Nat.le_of_ble_eq_true rfl, Nat.le_of_ble_eq_true rfl⟩ hcs S rfl hl.1 rfl (Nat.le_of_ble_eq_true rfl) dX7_may_49) S (fun r6 σ5 H locs h S => ?_)
        refine lv_if_le (tgt := 57) C.1 C.2.1 dX7_may_52 (by decide) (fun c7 => ?_) (fun c7 => ?_)
        · replace h := h.1 c7
          refine lv_iinc (v := (x3 + 1)) (lv' := [(3, .int (x3 + 1)), (0, .ref (G.2.2 + 117)), (1, .int x1), (2, .int x2)]) C.1 C.2.1 dX7_may_57 hl (k := 3) rfl rfl (by decide) rfl (fun ls hl => ?_)
          refine lv_goto (tgt := 21) C.1 C.2.1 dX7_may_60 (by decide) ?_
          exact ih ((x3 + 1)) _ _ _ _ S (lv_sub hl [1, 2, 3, 0] rfl) h
        · replace h := h.2 c7
          refine lv_iconst (v := (0 : Int32)) C.1 C.2.1 dX7_may_55 (by decide) ?_
          exact hR _ _ _ _ _ _ dX7_may_56 rfl h S
theorem kM_X7_may : s_M yX7_may cX7_may 4 (some .boolean) 2 := ⟨co_X7_may, in_X7, by decide, by decide, by decide +kernel⟩
set_option maxHeartbeats 4000000 in
set_option maxRecDepth 100000 in
theorem c_X7_may (l : Launch) (G : s_G) (x1 : Int32) (x2 : Int32) (σ : Sg) (post : Int32 → Sg → Prop) (h : wpX7_may x1 x2 σ post) : Met l yX7_may (wsU yX7_may cX7_may 4 (some .boolean)) rm_X7_may (va_Pc [.ref (G.2.2 + 117), .int x1, .int x2] (s_Pre G σ)) (va_Qi post (s_B G) (s_A G.2.2)) 0 0 (s_A G.2.2) := by
  refine Met.ofW (cc := cX7_may) (maxL := 4) (ret := (some .boolean)) (by decide) rfl ?_
  intro p e s m args below meth c s₁ B hml hv
  obtain ⟨rfl, hP, hrok, hK, hN⟩ := hv
  have C : s_C G p s (([.ref (G.2.2 + 117), .int x1, .int x2] : List Value).toArray) m c RX7 cX7_may := ⟨B.exec, B.bytes, findClass_of_methodNamed B.named, fun w hw => atoms_spec (ws := wsU yX7_may cX7_may 4 (some .boolean)) B.pre w (List.mem_cons_of_mem _ hw), hK, hN⟩
  have hr := B.returns
  have hlocks := B.notSynchronized
  have S : s_St G σ s.heap s.heap [] := ⟨hP, va_S.rf, hrok⟩
  have hcs : 0 ≤ (rm_X7_may).cells ∧ 0 ≤ (rm_X7_may).slots := ⟨Nat.le_refl 0, Nat.le_refl 0⟩
  have hR : ∀ (r : Int32) (σ1 : Sg) (H : Heap) (locs : List Loc) (pc : Nat) (ls : Array Slot), decode cX7_may pc = .ok (.ireturn, 1) → narrow .boolean (.int r) = .int r → post r σ1 → s_St G σ1 s.heap H locs → W p l e rm_X7_may s m ([.ref (G.2.2 + 117), .int x1, .int x2] : List Value).toArray below meth c H locs 0 0 (MQ below (va_Qi post (s_B G) (s_A G.2.2)) ([.ref (G.2.2 + 117), .int x1, .int x2] : List Value).toArray s 0 0 (s_A G.2.2)) (F0 m pc ls [.int r]) := fun _ _ _ _ _ _ hd hn hp S => ret_z C hr hlocks hd hn hp S
  have hl := lv_entry ([.ref (G.2.2 + 117), .int x1, .int x2]) (n := 4) (Nat.le_of_ble_eq_true rfl)
  rw [lg_entry_eq]
  generalize (lg_sl ([.ref (G.2.2 + 117), .int x1, .int x2]) ++ List.replicate (4 - (lg_sl ([.ref (G.2.2 + 117), .int x1, .int x2])).length) Slot.unset).toArray = ls at hl ⊢
  have hl : lv_has ls 4 [(0, .ref (G.2.2 + 117)), (1, .int x1), (2, .int x2)] := hl
  unfold wpX7_may at h
  refine lv_iload_n C.1 C.2.1 dX7_may_0 rfl (lv_at hl 1 rfl) ?_
  refine lv_iload_n C.1 C.2.1 dX7_may_1 rfl (lv_at hl 2 rfl) ?_
  refine k_i (r_S (As := [.int x1, .int x2]) (rest := []) C hml (c_X7_countIn l G x1 x2 σ _ h) kM_X7_countIn st_X7_countIn ml_X7_125 ⟨rfl, rfl⟩ ⟨Nat.le_of_ble_eq_true rfl, Nat.le_of_ble_eq_true rfl⟩ hcs S rfl hl.1 rfl (Nat.le_of_ble_eq_true rfl) dX7_may_2) S (fun r9 σ8 H locs h S => ?_)
  refine lv_aload_n C.1 C.2.1 dX7_may_5 rfl (lv_at hl 0 rfl) ?_
  refine g_X7_0 C fl_X7_7 kd_117 S fn_117_0 dX7_may_6 ?_
  refine lv_bipush (v := (32 : Int32)) C.1 C.2.1 dX7_may_9 (by decide) ?_
  refine lv_iload_n C.1 C.2.1 dX7_may_11 rfl (lv_at hl 2 rfl) ?_
  refine lv_iadd C.1 C.2.1 dX7_may_12 ?_
  refine a_ild C kd_118 S ln_118 h.1 dX7_may_13 ?_
  replace h := h.2
  refine lv_icmp_lt (tgt := 19) C.1 C.2.1 dX7_may_14 (by decide) (fun c10 => ?_) (fun c10 => ?_)
  · replace h := h.1 c10
    refine lv_iconst (v := (0 : Int32)) C.1 C.2.1 dX7_may_19 (by decide) ?_
    refine lv_istore_n (lv' := [(3, .int (0 : Int32)), (0, .ref (G.2.2 + 117)), (1, .int x1), (2, .int x2)]) C.1 C.2.1 dX7_may_20 rfl hl (by decide) rfl (fun ls hl => ?_)
    obtain ⟨nf, h⟩ := h
    exact TX7_may_21 C hml hcs hR nf ((0 : Int32)) S (lv_sub hl [1, 2, 3, 0] rfl) h
  · replace h := h.2 c10
    refine lv_iconst (v := (0 : Int32)) C.1 C.2.1 dX7_may_17 (by decide) ?_
    exact hR _ _ _ _ _ _ dX7_may_18 rfl h S
/-! X7_startOf -/
abbrev rm_X7_startOf : Room := { frames := 0, cells := 0, slots := 0, locals := 0 }
def wpX7_startOf (x1 : Int32) (x2 : Int32) (σ : Sg) (post : Int32 → Sg → Prop) : Prop := (((x2 = 0) → post x1 σ) ∧ ((¬ x2 = 0) → (vp_in ((1 : Int32)) 50 ∧ (((¬ (σ.1 118 ((1 : Int32)).toNatClampNeg) = 0) → ((((σ.1 117 6) ≤ x1) → post ((-9 : Int32)) σ) ∧ ((¬ (σ.1 117 6) ≤ x1) → (vp_in x1 60 ∧ (vp_in ((1 : Int32)) 50 ∧ (((¬ (σ.1 121 (x1).toNatClampNeg) = (σ.1 118 ((1 : Int32)).toNatClampNeg)) → post ((-9 : Int32)) σ) ∧ (((σ.1 121 (x1).toNatClampNeg) = (σ.1 118 ((1 : Int32)).toNatClampNeg)) → post ((x1 + (1 : Int32))) σ))))))) ∧ (((σ.1 118 ((1 : Int32)).toNatClampNeg) = 0) → post x1 σ)))))
theorem kM_X7_startOf : s_M yX7_startOf cX7_startOf 3 (some .int) 2 := ⟨co_X7_startOf, in_X7, by decide, by decide, by decide +kernel⟩
set_option maxHeartbeats 4000000 in
set_option maxRecDepth 100000 in
theorem c_X7_startOf (l : Launch) (G : s_G) (x1 : Int32) (x2 : Int32) (σ : Sg) (post : Int32 → Sg → Prop) (h : wpX7_startOf x1 x2 σ post) : Met l yX7_startOf (wsU yX7_startOf cX7_startOf 3 (some .int)) rm_X7_startOf (va_Pc [.ref (G.2.2 + 117), .int x1, .int x2] (s_Pre G σ)) (va_Qi post (s_B G) (s_A G.2.2)) 0 0 (s_A G.2.2) := by
  refine Met.ofW (cc := cX7_startOf) (maxL := 3) (ret := (some .int)) (by decide) rfl ?_
  intro p e s m args below meth c s₁ B hml hv
  obtain ⟨rfl, hP, hrok, hK, hN⟩ := hv
  have C : s_C G p s (([.ref (G.2.2 + 117), .int x1, .int x2] : List Value).toArray) m c RX7 cX7_startOf := ⟨B.exec, B.bytes, findClass_of_methodNamed B.named, fun w hw => atoms_spec (ws := wsU yX7_startOf cX7_startOf 3 (some .int)) B.pre w (List.mem_cons_of_mem _ hw), hK, hN⟩
  have hr := B.returns
  have hlocks := B.notSynchronized
  have S : s_St G σ s.heap s.heap [] := ⟨hP, va_S.rf, hrok⟩
  have hcs : 0 ≤ (rm_X7_startOf).cells ∧ 0 ≤ (rm_X7_startOf).slots := ⟨Nat.le_refl 0, Nat.le_refl 0⟩
  have hR : ∀ (r : Int32) (σ1 : Sg) (H : Heap) (locs : List Loc) (pc : Nat) (ls : Array Slot), decode cX7_startOf pc = .ok (.ireturn, 1) → post r σ1 → s_St G σ1 s.heap H locs → W p l e rm_X7_startOf s m ([.ref (G.2.2 + 117), .int x1, .int x2] : List Value).toArray below meth c H locs 0 0 (MQ below (va_Qi post (s_B G) (s_A G.2.2)) ([.ref (G.2.2 + 117), .int x1, .int x2] : List Value).toArray s 0 0 (s_A G.2.2)) (F0 m pc ls [.int r]) := fun _ _ _ _ _ _ hd hp S => ret_i C hr hlocks hd hp S
  have hl := lv_entry ([.ref (G.2.2 + 117), .int x1, .int x2]) (n := 3) (Nat.le_of_ble_eq_true rfl)
  rw [lg_entry_eq]
  generalize (lg_sl ([.ref (G.2.2 + 117), .int x1, .int x2]) ++ List.replicate (3 - (lg_sl ([.ref (G.2.2 + 117), .int x1, .int x2])).length) Slot.unset).toArray = ls at hl ⊢
  have hl : lv_has ls 3 [(0, .ref (G.2.2 + 117)), (1, .int x1), (2, .int x2)] := hl
  unfold wpX7_startOf at h
  refine lv_iload_n C.1 C.2.1 dX7_startOf_0 rfl (lv_at hl 2 rfl) ?_
  refine lv_if_eq (tgt := 13) C.1 C.2.1 dX7_startOf_1 (by decide) (fun c1 => ?_) (fun c1 => ?_)
  · replace h := h.1 c1
    refine lv_iload_n C.1 C.2.1 dX7_startOf_13 rfl (lv_at hl 1 rfl) ?_
    exact hR _ _ _ _ _ _ dX7_startOf_14 h S
  · replace h := h.2 c1
    refine lv_aload_n C.1 C.2.1 dX7_startOf_4 rfl (lv_at hl 0 rfl) ?_
    refine g_X7_0 C fl_X7_7 kd_117 S fn_117_0 dX7_startOf_5 ?_
    refine lv_iconst (v := (1 : Int32)) C.1 C.2.1 dX7_startOf_8 (by decide) ?_
    refine a_ild C kd_118 S ln_118 h.1 dX7_startOf_9 ?_
    replace h := h.2
    refine lv_if_ne (tgt := 15) C.1 C.2.1 dX7_startOf_10 (by decide) (fun c2 => ?_) (fun c2 => ?_)
    · replace h := h.1 c2
      refine lv_iload_n C.1 C.2.1 dX7_startOf_15 rfl (lv_at hl 1 rfl) ?_
      refine lv_aload_n C.1 C.2.1 dX7_startOf_16 rfl (lv_at hl 0 rfl) ?_
      refine g_X7_6 C fl_X7_64 kd_117 S dX7_startOf_17 ?_
      refine lv_icmp_ge (tgt := 44) C.1 C.2.1 dX7_startOf_20 (by decide) (fun c3 => ?_) (fun c3 => ?_)
      · replace h := h.1 c3
        refine lv_bipush (v := (-9 : Int32)) C.1 C.2.1 dX7_startOf_44 (by decide) ?_
        exact hR _ _ _ _ _ _ dX7_startOf_46 h S
      · replace h := h.2 c3
        refine lv_aload_n C.1 C.2.1 dX7_startOf_23 rfl (lv_at hl 0 rfl) ?_
        refine g_X7_5 C fl_X7_19 kd_117 S fn_117_5 dX7_startOf_24 ?_
        refine lv_iload_n C.1 C.2.1 dX7_startOf_27 rfl (lv_at hl 1 rfl) ?_
        refine a_ild C kd_121 S ln_121 h.1 dX7_startOf_28 ?_
        replace h := h.2
        refine lv_aload_n C.1 C.2.1 dX7_startOf_29 rfl (lv_at hl 0 rfl) ?_
        refine g_X7_0 C fl_X7_7 kd_117 S fn_117_0 dX7_startOf_30 ?_
        refine lv_iconst (v := (1 : Int32)) C.1 C.2.1 dX7_startOf_33 (by decide) ?_
        refine a_ild C kd_118 S ln_118 h.1 dX7_startOf_34 ?_
        replace h := h.2
        refine lv_icmp_ne (tgt := 44) C.1 C.2.1 dX7_startOf_35 (by decide) (fun c4 => ?_) (fun c4 => ?_)
        · replace h := h.1 c4
          refine lv_bipush (v := (-9 : Int32)) C.1 C.2.1 dX7_startOf_44 (by decide) ?_
          exact hR _ _ _ _ _ _ dX7_startOf_46 h S
        · replace h := h.2 c4
          refine lv_iload_n C.1 C.2.1 dX7_startOf_38 rfl (lv_at hl 1 rfl) ?_
          refine lv_iconst (v := (1 : Int32)) C.1 C.2.1 dX7_startOf_39 (by decide) ?_
          refine lv_iadd C.1 C.2.1 dX7_startOf_40 ?_
          refine lv_goto (tgt := 46) C.1 C.2.1 dX7_startOf_41 (by decide) ?_
          exact hR _ _ _ _ _ _ dX7_startOf_46 h S
    · replace h := h.2 c2
      refine lv_iload_n C.1 C.2.1 dX7_startOf_13 rfl (lv_at hl 1 rfl) ?_
      exact hR _ _ _ _ _ _ dX7_startOf_14 h S
/-! X7_furthest -/
abbrev rm_X7_furthest : Room := { frames := 3, cells := 0, slots := 0, locals := 67 }
def BX7_furthest_22 (x1 : Int32) (x2 : Int32) (post : Int32 → Sg → Prop) : Nat → Int32 → Int32 → Int32 → Sg → Prop
  | 0, _, _, _, _ => False
  | n + 1, x3, x4, x5, σ => (vp_in ((0 : Int32)) 50 ∧ ((((σ.1 118 ((0 : Int32)).toNatClampNeg) ≤ x5) → post x4 σ) ∧ ((¬ (σ.1 118 ((0 : Int32)).toNatClampNeg) ≤ x5) → wpX7_may x2 x5 σ (fun r3 σ2 => (((r3 = 0) → BX7_furthest_22 x1 x2 post n x3 x4 ((x5 + 1)) σ2) ∧ ((¬ r3 = 0) → wpX7_matched x5 x3 σ2 (fun r6 σ5 => ((((x3 + r6) ≤ x4) → BX7_furthest_22 x1 x2 post n x3 x4 ((x5 + 1)) σ5) ∧ ((¬ (x3 + r6) ≤ x4) → BX7_furthest_22 x1 x2 post n x3 ((x3 + r6)) ((x5 + 1)) σ5)))))))))
def wpX7_furthest (x1 : Int32) (x2 : Int32) (σ : Sg) (post : Int32 → Sg → Prop) : Prop := wpX7_startOf x1 x2 σ (fun r9 σ8 => (((¬ r9 = (-9 : Int32)) → ∃ nf, BX7_furthest_22 x1 x2 post nf r9 x1 ((0 : Int32)) σ8) ∧ ((r9 = (-9 : Int32)) → post x1 σ8)))
set_option maxHeartbeats 4000000 in
set_option maxRecDepth 100000 in
theorem TX7_furthest_22 (C : s_C G p s args m c RX7 cX7_furthest) (hml : c.maxLocals = 7) (hcs : cells ≤ (rm_X7_furthest).cells ∧ slots ≤ (rm_X7_furthest).slots) {x1 : Int32} {x2 : Int32} {post : Int32 → Sg → Prop} (hR : ∀ (r : Int32) (σ1 : Sg) (H : Heap) (locs : List Loc) (pc : Nat) (ls : Array Slot), decode cX7_furthest pc = .ok (.ireturn, 1) → post r σ1 → s_St G σ1 H0 H locs → W p l e rm_X7_furthest s m args below meth c H locs cells slots Q (F0 m pc ls [.int r])) : ∀ (n : Nat) (x3 : Int32) (x4 : Int32) (x5 : Int32), ∀ {σ : Sg} {H : Heap} {locs : List Loc} {ls : Array Slot}, s_St G σ H0 H locs → lv_has ls 7 [(0, .ref (G.2.2 + 117)), (2, .int x2), (3, .int x3), (4, .int x4), (5, .int x5)] → BX7_furthest_22 x1 x2 post n x3 x4 x5 σ → W p l e rm_X7_furthest s m args below meth c H locs cells slots Q (F0 m 22 ls []) := by
  intro n
  induction n with
  | zero =>
    intro x3 x4 x5  σ H locs ls S hl h
    exact absurd h (fun h => h)
  | succ n ih0 =>
    have ih : ∀ (x3 : Int32) (x4 : Int32) (x5 : Int32), ∀ (σ : Sg) (H : Heap) (locs : List Loc) (ls : Array Slot), s_St G σ H0 H locs → lv_has ls 7 [(0, .ref (G.2.2 + 117)), (2, .int x2), (3, .int x3), (4, .int x4), (5, .int x5)] → BX7_furthest_22 x1 x2 post n x3 x4 x5 σ → W p l e rm_X7_furthest s m args below meth c H locs cells slots Q (F0 m 22 ls []) := fun x3 x4 x5  _ _ _ _ => ih0 x3 x4 x5 
    intro x3 x4 x5  σ H locs ls S hl h
    refine lv_iload C.1 C.2.1 dX7_furthest_22 (lv_at hl 4 rfl) ?_
    refine lv_aload_n C.1 C.2.1 dX7_furthest_24 rfl (lv_at hl 0 rfl) ?_
    refine g_X7_0 C fl_X7_7 kd_117 S fn_117_0 dX7_furthest_25 ?_
    refine lv_iconst (v := (0 : Int32)) C.1 C.2.1 dX7_furthest_28 (by decide) ?_
    refine a_ild C kd_118 S ln_118 h.1 dX7_furthest_29 ?_
    replace h := h.2
    refine lv_icmp_ge (tgt := 76) C.1 C.2.1 dX7_furthest_30 (by decide) (fun c1 => ?_) (fun c1 => ?_)
    · replace h := h.1 c1
      refine lv_iload C.1 C.2.1 dX7_furthest_76 (lv_at hl 3 rfl) ?_
      exact hR _ _ _ _ _ _ dX7_furthest_78 h S
    · replace h := h.2 c1
      refine lv_aload_n C.1 C.2.1 dX7_furthest_33 rfl (lv_at hl 0 rfl) ?_
      refine lv_iload_n C.1 C.2.1 dX7_furthest_34 rfl (lv_at hl 1 rfl) ?_
      refine lv_iload C.1 C.2.1 dX7_furthest_35 (lv_at hl 4 rfl) ?_
      refine k_i (r_V (As := [.int x2, .int x5]) (rest := []) C hml (c_X7_may l G x2 x5 σ _ h) kM_X7_may im_X7_may se_X7_may ml_X7_128 ⟨rfl, rfl⟩ ⟨Nat.le_of_ble_eq_true rfl, Nat.le_of_ble_eq_true rfl⟩ hcs S kd_117 (by decide) (T := TX7) (N := 17) rfl rfl hl.1 rfl (Nat.le_of_ble_eq_true rfl) dX7_furthest_37) S (fun r3 σ2 H locs h S => ?_)
      refine lv_if_eq (tgt := 70) C.1 C.2.1 dX7_furthest_40 (by decide) (fun c4 => ?_) (fun c4 => ?_)
      · replace h := h.1 c4
        refine lv_iinc (v := (x5 + 1)) (lv' := [(5, .int (x5 + 1)), (0, .ref (G.2.2 + 117)), (2, .int x2), (3, .int x3), (4, .int x4)]) C.1 C.2.1 dX7_furthest_70 hl (k := 4) rfl rfl (by decide) rfl (fun ls hl => ?_)
        refine lv_goto (tgt := 22) C.1 C.2.1 dX7_furthest_73 (by decide) ?_
        exact ih x3 x4 ((x5 + 1)) _ _ _ _ S (lv_sub hl [1, 2, 3, 4, 0] rfl) h
      · replace h := h.2 c4
        refine lv_iload_n C.1 C.2.1 dX7_furthest_43 rfl (lv_at hl 2 rfl) ?_
        refine lv_aload_n C.1 C.2.1 dX7_furthest_44 rfl (lv_at hl 0 rfl) ?_
        refine lv_iload C.1 C.2.1 dX7_furthest_45 (lv_at hl 4 rfl) ?_
        refine lv_iload_n C.1 C.2.1 dX7_furthest_47 rfl (lv_at hl 2 rfl) ?_
        refine k_i (r_V (As := [.int x5, .int x3]) (rest := [.int x3]) C hml (c_X7_matched l G x5 x3 σ2 _ h) kM_X7_matched im_X7_matched se_X7_matched ml_X7_131 ⟨rfl, rfl⟩ ⟨Nat.le_of_ble_eq_true rfl, Nat.le_of_ble_eq_true rfl⟩ hcs S kd_117 (by decide) (T := TX7) (N := 17) rfl rfl hl.1 rfl (Nat.le_of_ble_eq_true rfl) dX7_furthest_48) S (fun r6 σ5 H locs h S => ?_)
        refine lv_iadd C.1 C.2.1 dX7_furthest_51 ?_
        refine lv_istore (lv' := [(6, .int (x3 + r6)), (0, .ref (G.2.2 + 117)), (2, .int x2), (3, .int x3), (4, .int x4), (5, .int x5)]) C.1 C.2.1 dX7_furthest_52 hl (by decide) rfl (fun ls hl => ?_)
        refine lv_iload C.1 C.2.1 dX7_furthest_54 (lv_at hl 0 rfl) ?_
        refine lv_iload C.1 C.2.1 dX7_furthest_56 (lv_at hl 4 rfl) ?_
        refine lv_icmp_le (tgt := 66) C.1 C.2.1 dX7_furthest_58 (by decide) (fun c7 => ?_) (fun c7 => ?_)
        · replace h := h.1 c7
          refine lv_iload C.1 C.2.1 dX7_furthest_66 (lv_at hl 4 rfl) ?_
          refine lv_istore (lv' := [(4, .int x4), (6, .int (x3 + r6)), (0, .ref (G.2.2 + 117)), (2, .int x2), (3, .int x3), (5, .int x5)]) C.1 C.2.1 dX7_furthest_68 hl (by decide) rfl (fun ls hl => ?_)
          refine lv_iinc (v := (x5 + 1)) (lv' := [(5, .int (x5 + 1)), (4, .int x4), (6, .int (x3 + r6)), (0, .ref (G.2.2 + 117)), (2, .int x2), (3, .int x3)]) C.1 C.2.1 dX7_furthest_70 hl (k := 5) rfl rfl (by decide) rfl (fun ls hl => ?_)
          refine lv_goto (tgt := 22) C.1 C.2.1 dX7_furthest_73 (by decide) ?_
          exact ih x3 x4 ((x5 + 1)) _ _ _ _ S (lv_sub hl [3, 4, 5, 1, 0] rfl) h
        · replace h := h.2 c7
          refine lv_iload C.1 C.2.1 dX7_furthest_61 (lv_at hl 0 rfl) ?_
          refine lv_goto (tgt := 68) C.1 C.2.1 dX7_furthest_63 (by decide) ?_
          refine lv_istore (lv' := [(4, .int (x3 + r6)), (6, .int (x3 + r6)), (0, .ref (G.2.2 + 117)), (2, .int x2), (3, .int x3), (5, .int x5)]) C.1 C.2.1 dX7_furthest_68 hl (by decide) rfl (fun ls hl => ?_)
          refine lv_iinc (v := (x5 + 1)) (lv' := [(5, .int (x5 + 1)), (4, .int (x3 + r6)), (6, .int (x3 + r6)), (0, .ref (G.2.2 + 117)), (2, .int x2), (3, .int x3)]) C.1 C.2.1 dX7_furthest_70 hl (k := 5) rfl rfl (by decide) rfl (fun ls hl => ?_)
          refine lv_goto (tgt := 22) C.1 C.2.1 dX7_furthest_73 (by decide) ?_
          exact ih x3 ((x3 + r6)) ((x5 + 1)) _ _ _ _ S (lv_sub hl [3, 4, 5, 1, 0] rfl) h
theorem kM_X7_furthest : s_M yX7_furthest cX7_furthest 7 (some .int) 2 := ⟨co_X7_furthest, in_X7, by decide, by decide, by decide +kernel⟩
set_option maxHeartbeats 4000000 in
set_option maxRecDepth 100000 in
theorem c_X7_furthest (l : Launch) (G : s_G) (x1 : Int32) (x2 : Int32) (σ : Sg) (post : Int32 → Sg → Prop) (h : wpX7_furthest x1 x2 σ post) : Met l yX7_furthest (wsU yX7_furthest cX7_furthest 7 (some .int)) rm_X7_furthest (va_Pc [.ref (G.2.2 + 117), .int x1, .int x2] (s_Pre G σ)) (va_Qi post (s_B G) (s_A G.2.2)) 0 0 (s_A G.2.2) := by
  refine Met.ofW (cc := cX7_furthest) (maxL := 7) (ret := (some .int)) (by decide) rfl ?_
  intro p e s m args below meth c s₁ B hml hv
  obtain ⟨rfl, hP, hrok, hK, hN⟩ := hv
  have C : s_C G p s (([.ref (G.2.2 + 117), .int x1, .int x2] : List Value).toArray) m c RX7 cX7_furthest := ⟨B.exec, B.bytes, findClass_of_methodNamed B.named, fun w hw => atoms_spec (ws := wsU yX7_furthest cX7_furthest 7 (some .int)) B.pre w (List.mem_cons_of_mem _ hw), hK, hN⟩
  have hr := B.returns
  have hlocks := B.notSynchronized
  have S : s_St G σ s.heap s.heap [] := ⟨hP, va_S.rf, hrok⟩
  have hcs : 0 ≤ (rm_X7_furthest).cells ∧ 0 ≤ (rm_X7_furthest).slots := ⟨Nat.le_refl 0, Nat.le_refl 0⟩
  have hR : ∀ (r : Int32) (σ1 : Sg) (H : Heap) (locs : List Loc) (pc : Nat) (ls : Array Slot), decode cX7_furthest pc = .ok (.ireturn, 1) → post r σ1 → s_St G σ1 s.heap H locs → W p l e rm_X7_furthest s m ([.ref (G.2.2 + 117), .int x1, .int x2] : List Value).toArray below meth c H locs 0 0 (MQ below (va_Qi post (s_B G) (s_A G.2.2)) ([.ref (G.2.2 + 117), .int x1, .int x2] : List Value).toArray s 0 0 (s_A G.2.2)) (F0 m pc ls [.int r]) := fun _ _ _ _ _ _ hd hp S => ret_i C hr hlocks hd hp S
  have hl := lv_entry ([.ref (G.2.2 + 117), .int x1, .int x2]) (n := 7) (Nat.le_of_ble_eq_true rfl)
  rw [lg_entry_eq]
  generalize (lg_sl ([.ref (G.2.2 + 117), .int x1, .int x2]) ++ List.replicate (7 - (lg_sl ([.ref (G.2.2 + 117), .int x1, .int x2])).length) Slot.unset).toArray = ls at hl ⊢
  have hl : lv_has ls 7 [(0, .ref (G.2.2 + 117)), (1, .int x1), (2, .int x2)] := hl
  unfold wpX7_furthest at h
  refine lv_aload_n C.1 C.2.1 dX7_furthest_0 rfl (lv_at hl 0 rfl) ?_
  refine lv_iload_n C.1 C.2.1 dX7_furthest_1 rfl (lv_at hl 1 rfl) ?_
  refine lv_iload_n C.1 C.2.1 dX7_furthest_2 rfl (lv_at hl 2 rfl) ?_
  refine k_i (r_V (As := [.int x1, .int x2]) (rest := []) C hml (c_X7_startOf l G x1 x2 σ _ h) kM_X7_startOf im_X7_startOf se_X7_startOf ml_X7_137 ⟨rfl, rfl⟩ ⟨Nat.le_of_ble_eq_true rfl, Nat.le_of_ble_eq_true rfl⟩ hcs S kd_117 (by decide) (T := TX7) (N := 17) rfl rfl hl.1 rfl (Nat.le_of_ble_eq_true rfl) dX7_furthest_3) S (fun r9 σ8 H locs h S => ?_)
  refine lv_istore_n (lv' := [(3, .int r9), (0, .ref (G.2.2 + 117)), (1, .int x1), (2, .int x2)]) C.1 C.2.1 dX7_furthest_6 rfl hl (by decide) rfl (fun ls hl => ?_)
  refine lv_iload_n C.1 C.2.1 dX7_furthest_7 rfl (lv_at hl 2 rfl) ?_
  refine lv_istore (lv' := [(4, .int x1), (3, .int r9), (0, .ref (G.2.2 + 117)), (1, .int x1), (2, .int x2)]) C.1 C.2.1 dX7_furthest_8 hl (by decide) rfl (fun ls hl => ?_)
  refine lv_iload_n C.1 C.2.1 dX7_furthest_10 rfl (lv_at hl 1 rfl) ?_
  refine lv_bipush (v := (-9 : Int32)) C.1 C.2.1 dX7_furthest_11 (by decide) ?_
  refine lv_icmp_ne (tgt := 19) C.1 C.2.1 dX7_furthest_13 (by decide) (fun c10 => ?_) (fun c10 => ?_)
  · replace h := h.1 c10
    refine lv_iconst (v := (0 : Int32)) C.1 C.2.1 dX7_furthest_19 (by decide) ?_
    refine lv_istore (lv' := [(5, .int (0 : Int32)), (4, .int x1), (3, .int r9), (0, .ref (G.2.2 + 117)), (1, .int x1), (2, .int x2)]) C.1 C.2.1 dX7_furthest_20 hl (by decide) rfl (fun ls hl => ?_)
    obtain ⟨nf, h⟩ := h
    exact TX7_furthest_22 C hml hcs hR nf r9 x1 ((0 : Int32)) S (lv_sub hl [3, 5, 2, 1, 0] rfl) h
  · replace h := h.2 c10
    refine lv_iload C.1 C.2.1 dX7_furthest_16 (lv_at hl 0 rfl) ?_
    exact hR _ _ _ _ _ _ dX7_furthest_18 h S
/-! X7_with -/
abbrev rm_X7_with : Room := { frames := 0, cells := 0, slots := 0, locals := 0 }
def wpX7_with (x0 : Int32) (x1 : Int32) (σ : Sg) (post : Int32 → Sg → Prop) : Prop := post ((x0 + ((1 : Int32) <<< (((2 : Int32) * x1) &&& 31)))) σ
theorem kM_X7_with : s_M yX7_with cX7_with 2 (some .int) 2 := ⟨co_X7_with, in_X7, by decide, by decide, by decide +kernel⟩
set_option maxHeartbeats 4000000 in
set_option maxRecDepth 100000 in
theorem c_X7_with (l : Launch) (G : s_G) (x0 : Int32) (x1 : Int32) (σ : Sg) (post : Int32 → Sg → Prop) (h : wpX7_with x0 x1 σ post) : Met l yX7_with (wsU yX7_with cX7_with 2 (some .int)) rm_X7_with (va_Pc [.int x0, .int x1] (s_Pre G σ)) (va_Qi post (s_B G) (s_A G.2.2)) 0 0 (s_A G.2.2) := by
  refine Met.ofW (cc := cX7_with) (maxL := 2) (ret := (some .int)) (by decide) rfl ?_
  intro p e s m args below meth c s₁ B hml hv
  obtain ⟨rfl, hP, hrok, hK, hN⟩ := hv
  have C : s_C G p s (([.int x0, .int x1] : List Value).toArray) m c RX7 cX7_with := ⟨B.exec, B.bytes, findClass_of_methodNamed B.named, fun w hw => atoms_spec (ws := wsU yX7_with cX7_with 2 (some .int)) B.pre w (List.mem_cons_of_mem _ hw), hK, hN⟩
  have hr := B.returns
  have hlocks := B.notSynchronized
  have S : s_St G σ s.heap s.heap [] := ⟨hP, va_S.rf, hrok⟩
  have hcs : 0 ≤ (rm_X7_with).cells ∧ 0 ≤ (rm_X7_with).slots := ⟨Nat.le_refl 0, Nat.le_refl 0⟩
  have hR : ∀ (r : Int32) (σ1 : Sg) (H : Heap) (locs : List Loc) (pc : Nat) (ls : Array Slot), decode cX7_with pc = .ok (.ireturn, 1) → post r σ1 → s_St G σ1 s.heap H locs → W p l e rm_X7_with s m ([.int x0, .int x1] : List Value).toArray below meth c H locs 0 0 (MQ below (va_Qi post (s_B G) (s_A G.2.2)) ([.int x0, .int x1] : List Value).toArray s 0 0 (s_A G.2.2)) (F0 m pc ls [.int r]) := fun _ _ _ _ _ _ hd hp S => ret_i C hr hlocks hd hp S
  have hl := lv_entry ([.int x0, .int x1]) (n := 2) (Nat.le_of_ble_eq_true rfl)
  rw [lg_entry_eq]
  generalize (lg_sl ([.int x0, .int x1]) ++ List.replicate (2 - (lg_sl ([.int x0, .int x1])).length) Slot.unset).toArray = ls at hl ⊢
  have hl : lv_has ls 2 [(0, .int x0), (1, .int x1)] := hl
  unfold wpX7_with at h
  refine lv_iload_n C.1 C.2.1 dX7_with_0 rfl (lv_at hl 0 rfl) ?_
  refine lv_iconst (v := (1 : Int32)) C.1 C.2.1 dX7_with_1 (by decide) ?_
  refine lv_iconst (v := (2 : Int32)) C.1 C.2.1 dX7_with_2 (by decide) ?_
  refine lv_iload_n C.1 C.2.1 dX7_with_3 rfl (lv_at hl 1 rfl) ?_
  refine lv_imul C.1 C.2.1 dX7_with_4 ?_
  refine lv_ishl C.1 C.2.1 dX7_with_5 ?_
  refine lv_iadd C.1 C.2.1 dX7_with_6 ?_
  exact hR _ _ _ _ _ _ dX7_with_7 h S
/-! X7_layBeginnings -/
abbrev rm_X7_layBeginnings : Room := { frames := 4, cells := 0, slots := 0, locals := 91 }
def BX7_layBeginnings_119  (K80 : Int32 → Int32 → Int32 → Int32 → Sg → Prop) (post : Sg → Prop) (x1 : Int32) (x2 : Int32) (x3 : Int32) (x4 : Int32) (y0 : Int32) (σ : Sg) : Prop := (((y0 = (-9 : Int32)) → K80 x1 x2 x3 ((x4 + 1)) σ) ∧ ((¬ y0 = (-9 : Int32)) → wpX7_with x2 x4 σ (fun r3 σ2 => (vp_in ((((4096 : Int32) * y0) + r3)) 249856 ∧ (∀ σ4 : Sg, σ4 = setI σ2 123 ((((4096 : Int32) * y0) + r3)).toNatClampNeg (vp_nar .boolean ((1 : Int32))) → K80 x1 x2 x3 ((x4 + 1)) σ4)))))
def BX7_layBeginnings_80  (K48 : Int32 → Int32 → Sg → Prop) (post : Sg → Prop) : Nat → Int32 → Int32 → Int32 → Int32 → Sg → Prop
  | 0, _, _, _, _, _ => False
  | n + 1, x1, x2, x3, x4, σ => (vp_in ((0 : Int32)) 50 ∧ ((((σ.1 118 ((0 : Int32)).toNatClampNeg) ≤ x4) → K48 x1 ((x2 + 1)) σ) ∧ ((¬ (σ.1 118 ((0 : Int32)).toNatClampNeg) ≤ x4) → (((x3 = (-9 : Int32)) → K48 x1 ((x2 + 1)) σ) ∧ ((¬ x3 = (-9 : Int32)) → wpX7_may x2 x4 σ (fun r9 σ8 => (((r9 = 0) → BX7_layBeginnings_119 (BX7_layBeginnings_80 K48 post n) post x1 x2 x3 x4 ((-9 : Int32)) σ8) ∧ ((¬ r9 = 0) → wpX7_endOf x4 x3 σ8 (fun r12 σ11 => BX7_layBeginnings_119 (BX7_layBeginnings_80 K48 post n) post x1 x2 x3 x4 r12 σ11)))))))))
def BX7_layBeginnings_48  (K38 : Int32 → Sg → Prop) (post : Sg → Prop) : Nat → Int32 → Int32 → Sg → Prop
  | 0, _, _, _ => False
  | n + 1, x1, x2, σ => ((((4096 : Int32) ≤ x2) → K38 ((x1 + 1)) σ) ∧ ((¬ (4096 : Int32) ≤ x2) → (vp_in ((((4096 : Int32) * x1) + x2)) 249856 ∧ ((((σ.1 123 ((((4096 : Int32) * x1) + x2)).toNatClampNeg) = 0) → BX7_layBeginnings_48 K38 post n x1 ((x2 + 1)) σ) ∧ ((¬ (σ.1 123 ((((4096 : Int32) * x1) + x2)).toNatClampNeg) = 0) → wpX7_startOf x1 x2 σ (fun r16 σ15 => ∃ nf, BX7_layBeginnings_80 (BX7_layBeginnings_48 K38 post n) post nf x1 x2 r16 ((0 : Int32)) σ15))))))
def BX7_layBeginnings_38  (post : Sg → Prop) : Nat → Int32 → Sg → Prop
  | 0, _, _ => False
  | n + 1, x1, σ => ((((σ.1 117 6) ≤ x1) → post σ) ∧ ((¬ (σ.1 117 6) ≤ x1) → ∃ nf, BX7_layBeginnings_48 (BX7_layBeginnings_38 post n) post nf x1 ((0 : Int32)) σ))
def BX7_layBeginnings_2  (post : Sg → Prop) : Nat → Int32 → Sg → Prop
  | 0, _, _ => False
  | n + 1, x1, σ => ((((249856 : Int32) ≤ x1) → ∃ nf, BX7_layBeginnings_38 post nf ((0 : Int32)) σ) ∧ ((¬ (249856 : Int32) ≤ x1) → (((¬ x1 = 0) → (vp_in x1 249856 ∧ (∀ σ20 : Sg, σ20 = setI σ 123 (x1).toNatClampNeg (vp_nar .boolean ((0 : Int32))) → (vp_in x1 249856 ∧ (∀ σ22 : Sg, σ22 = setI σ20 124 (x1).toNatClampNeg ((0 : Int32)) → BX7_layBeginnings_2 post n ((x1 + 1)) σ22))))) ∧ ((x1 = 0) → (vp_in x1 249856 ∧ (∀ σ24 : Sg, σ24 = setI σ 123 (x1).toNatClampNeg (vp_nar .boolean ((1 : Int32))) → (vp_in x1 249856 ∧ (∀ σ26 : Sg, σ26 = setI σ24 124 (x1).toNatClampNeg ((0 : Int32)) → BX7_layBeginnings_2 post n ((x1 + 1)) σ26))))))))
def wpX7_layBeginnings  (σ : Sg) (post : Sg → Prop) : Prop := ∃ nf, BX7_layBeginnings_2 post nf ((0 : Int32)) σ
set_option maxHeartbeats 4000000 in
set_option maxRecDepth 100000 in
theorem TX7_layBeginnings_119 (C : s_C G p s args m c RX7 cX7_layBeginnings) (hml : c.maxLocals = 6) (hcs : cells ≤ (rm_X7_layBeginnings).cells ∧ slots ≤ (rm_X7_layBeginnings).slots)  {K80 : Int32 → Int32 → Int32 → Int32 → Sg → Prop} {post : Sg → Prop} (hR : ∀ (σ1 : Sg) (H : Heap) (locs : List Loc) (pc : Nat) (ls : Array Slot), decode cX7_layBeginnings pc = .ok (.return_, 1) → post σ1 → s_St G σ1 H0 H locs → W p l e rm_X7_layBeginnings s m args below meth c H locs cells slots Q (F0 m pc ls [])) (hK80 : ∀ (x1 : Int32) (x2 : Int32) (x3 : Int32) (x4 : Int32), ∀ (σ : Sg) (H : Heap) (locs : List Loc) (ls : Array Slot), s_St G σ H0 H locs → lv_has ls 6 [(0, .ref (G.2.2 + 117)), (1, .int x1), (2, .int x2), (3, .int x3), (4, .int x4)] → K80 x1 x2 x3 x4 σ → W p l e rm_X7_layBeginnings s m args below meth c H locs cells slots Q (F0 m 80 ls [])) : ∀ (x1 : Int32) (x2 : Int32) (x3 : Int32) (x4 : Int32) (y0 : Int32), ∀ {σ : Sg} {H : Heap} {locs : List Loc} {ls : Array Slot}, s_St G σ H0 H locs → lv_has ls 6 [(0, .ref (G.2.2 + 117)), (1, .int x1), (2, .int x2), (3, .int x3), (4, .int x4)] → BX7_layBeginnings_119 K80 post x1 x2 x3 x4 y0 σ → W p l e rm_X7_layBeginnings s m args below meth c H locs cells slots Q (F0 m 119 ls [.int y0]) := by
  intro x1 x2 x3 x4 y0  σ H locs ls S hl h
  unfold BX7_layBeginnings_119 at h
  refine lv_istore (lv' := [(5, .int y0), (0, .ref (G.2.2 + 117)), (1, .int x1), (2, .int x2), (3, .int x3), (4, .int x4)]) C.1 C.2.1 dX7_layBeginnings_119 hl (by decide) rfl (fun ls hl => ?_)
  refine lv_iload C.1 C.2.1 dX7_layBeginnings_121 (lv_at hl 0 rfl) ?_
  refine lv_bipush (v := (-9 : Int32)) C.1 C.2.1 dX7_layBeginnings_123 (by decide) ?_
  refine lv_icmp_eq (tgt := 147) C.1 C.2.1 dX7_layBeginnings_125 (by decide) (fun c1 => ?_) (fun c1 => ?_)
  · replace h := h.1 c1
    refine lv_iinc (v := (x4 + 1)) (lv' := [(4, .int (x4 + 1)), (5, .int y0), (0, .ref (G.2.2 + 117)), (1, .int x1), (2, .int x2), (3, .int x3)]) C.1 C.2.1 dX7_layBeginnings_147 hl (k := 5) rfl rfl (by decide) rfl (fun ls hl => ?_)
    refine lv_goto (tgt := 80) C.1 C.2.1 dX7_layBeginnings_150 (by decide) ?_
    exact hK80 x1 x2 x3 ((x4 + 1)) _ _ _ _ S (lv_sub hl [2, 3, 4, 5, 0] rfl) h
  · replace h := h.2 c1
    refine lv_aload_n C.1 C.2.1 dX7_layBeginnings_128 rfl (lv_at hl 1 rfl) ?_
    refine g_X7_8 C fl_X7_26 kd_117 S fn_117_8 dX7_layBeginnings_129 ?_
    refine lv_sipush (v := (4096 : Int32)) C.1 C.2.1 dX7_layBeginnings_132 (by decide) ?_
    refine lv_iload C.1 C.2.1 dX7_layBeginnings_135 (lv_at hl 0 rfl) ?_
    refine lv_imul C.1 C.2.1 dX7_layBeginnings_137 ?_
    refine lv_iload_n C.1 C.2.1 dX7_layBeginnings_138 rfl (lv_at hl 3 rfl) ?_
    refine lv_iload C.1 C.2.1 dX7_layBeginnings_139 (lv_at hl 5 rfl) ?_
    refine k_i (r_S (As := [.int x2, .int x4]) (rest := [.int ((4096 : Int32) * y0), .ref (G.2.2 + 123)]) C hml (c_X7_with l G x2 x4 σ _ h) kM_X7_with st_X7_with ml_X7_143 ⟨rfl, rfl⟩ ⟨Nat.le_of_ble_eq_true rfl, Nat.le_of_ble_eq_true rfl⟩ hcs S rfl hl.1 rfl (Nat.le_of_ble_eq_true rfl) dX7_layBeginnings_141) S (fun r3 σ2 H locs h S => ?_)
    refine lv_iadd C.1 C.2.1 dX7_layBeginnings_144 ?_
    refine lv_iconst (v := (1 : Int32)) C.1 C.2.1 dX7_layBeginnings_145 (by decide) ?_
    refine a_zst C kd_123 S ln_123 h.1 dX7_layBeginnings_146 (fun σ4 H locs e5 S => ?_)
    replace h := h.2 σ4 e5
    refine lv_iinc (v := (x4 + 1)) (lv' := [(4, .int (x4 + 1)), (5, .int y0), (0, .ref (G.2.2 + 117)), (1, .int x1), (2, .int x2), (3, .int x3)]) C.1 C.2.1 dX7_layBeginnings_147 hl (k := 5) rfl rfl (by decide) rfl (fun ls hl => ?_)
    refine lv_goto (tgt := 80) C.1 C.2.1 dX7_layBeginnings_150 (by decide) ?_
    exact hK80 x1 x2 x3 ((x4 + 1)) _ _ _ _ S (lv_sub hl [2, 3, 4, 5, 0] rfl) h
set_option maxHeartbeats 4000000 in
set_option maxRecDepth 100000 in
theorem TX7_layBeginnings_80 (C : s_C G p s args m c RX7 cX7_layBeginnings) (hml : c.maxLocals = 6) (hcs : cells ≤ (rm_X7_layBeginnings).cells ∧ slots ≤ (rm_X7_layBeginnings).slots)  {K48 : Int32 → Int32 → Sg → Prop} {post : Sg → Prop} (hR : ∀ (σ1 : Sg) (H : Heap) (locs : List Loc) (pc : Nat) (ls : Array Slot), decode cX7_layBeginnings pc = .ok (.return_, 1) → post σ1 → s_St G σ1 H0 H locs → W p l e rm_X7_layBeginnings s m args below meth c H locs cells slots Q (F0 m pc ls [])) (hK48 : ∀ (x1 : Int32) (x2 : Int32), ∀ (σ : Sg) (H : Heap) (locs : List Loc) (ls : Array Slot), s_St G σ H0 H locs → lv_has ls 6 [(0, .ref (G.2.2 + 117)), (1, .int x1), (2, .int x2)] → K48 x1 x2 σ → W p l e rm_X7_layBeginnings s m args below meth c H locs cells slots Q (F0 m 48 ls [])) : ∀ (n : Nat) (x1 : Int32) (x2 : Int32) (x3 : Int32) (x4 : Int32), ∀ {σ : Sg} {H : Heap} {locs : List Loc} {ls : Array Slot}, s_St G σ H0 H locs → lv_has ls 6 [(0, .ref (G.2.2 + 117)), (1, .int x1), (2, .int x2), (3, .int x3), (4, .int x4)] → BX7_layBeginnings_80 K48 post n x1 x2 x3 x4 σ → W p l e rm_X7_layBeginnings s m args below meth c H locs cells slots Q (F0 m 80 ls []) := by
  intro n
  induction n with
  | zero =>
    intro x1 x2 x3 x4  σ H locs ls S hl h
    exact absurd h (fun h => h)
  | succ n ih0 =>
    have ih : ∀ (x1 : Int32) (x2 : Int32) (x3 : Int32) (x4 : Int32), ∀ (σ : Sg) (H : Heap) (locs : List Loc) (ls : Array Slot), s_St G σ H0 H locs → lv_has ls 6 [(0, .ref (G.2.2 + 117)), (1, .int x1), (2, .int x2), (3, .int x3), (4, .int x4)] → BX7_layBeginnings_80 K48 post n x1 x2 x3 x4 σ → W p l e rm_X7_layBeginnings s m args below meth c H locs cells slots Q (F0 m 80 ls []) := fun x1 x2 x3 x4  _ _ _ _ => ih0 x1 x2 x3 x4 
    intro x1 x2 x3 x4  σ H locs ls S hl h
    refine lv_iload C.1 C.2.1 dX7_layBeginnings_80 (lv_at hl 4 rfl) ?_
    refine lv_aload_n C.1 C.2.1 dX7_layBeginnings_82 rfl (lv_at hl 0 rfl) ?_
    refine g_X7_0 C fl_X7_7 kd_117 S fn_117_0 dX7_layBeginnings_83 ?_
    refine lv_iconst (v := (0 : Int32)) C.1 C.2.1 dX7_layBeginnings_86 (by decide) ?_
    refine a_ild C kd_118 S ln_118 h.1 dX7_layBeginnings_87 ?_
    replace h := h.2
    refine lv_icmp_ge (tgt := 153) C.1 C.2.1 dX7_layBeginnings_88 (by decide) (fun c6 => ?_) (fun c6 => ?_)
    · replace h := h.1 c6
      refine lv_iinc (v := (x2 + 1)) (lv' := [(2, .int (x2 + 1)), (0, .ref (G.2.2 + 117)), (1, .int x1), (3, .int x3), (4, .int x4)]) C.1 C.2.1 dX7_layBeginnings_153 hl (k := 2) rfl rfl (by decide) rfl (fun ls hl => ?_)
      refine lv_goto (tgt := 48) C.1 C.2.1 dX7_layBeginnings_156 (by decide) ?_
      exact hK48 x1 ((x2 + 1)) _ _ _ _ S (lv_sub hl [1, 2, 0] rfl) h
    · replace h := h.2 c6
      refine lv_iload_n C.1 C.2.1 dX7_layBeginnings_91 rfl (lv_at hl 3 rfl) ?_
      refine lv_bipush (v := (-9 : Int32)) C.1 C.2.1 dX7_layBeginnings_92 (by decide) ?_
      refine lv_icmp_eq (tgt := 153) C.1 C.2.1 dX7_layBeginnings_94 (by decide) (fun c7 => ?_) (fun c7 => ?_)
      · replace h := h.1 c7
        refine lv_iinc (v := (x2 + 1)) (lv' := [(2, .int (x2 + 1)), (0, .ref (G.2.2 + 117)), (1, .int x1), (3, .int x3), (4, .int x4)]) C.1 C.2.1 dX7_layBeginnings_153 hl (k := 2) rfl rfl (by decide) rfl (fun ls hl => ?_)
        refine lv_goto (tgt := 48) C.1 C.2.1 dX7_layBeginnings_156 (by decide) ?_
        exact hK48 x1 ((x2 + 1)) _ _ _ _ S (lv_sub hl [1, 2, 0] rfl) h
      · replace h := h.2 c7
        refine lv_aload_n C.1 C.2.1 dX7_layBeginnings_97 rfl (lv_at hl 0 rfl) ?_
        refine lv_iload_n C.1 C.2.1 dX7_layBeginnings_98 rfl (lv_at hl 2 rfl) ?_
        refine lv_iload C.1 C.2.1 dX7_layBeginnings_99 (lv_at hl 4 rfl) ?_
        refine k_i (r_V (As := [.int x2, .int x4]) (rest := []) C hml (c_X7_may l G x2 x4 σ _ h) kM_X7_may im_X7_may se_X7_may ml_X7_128 ⟨rfl, rfl⟩ ⟨Nat.le_of_ble_eq_true rfl, Nat.le_of_ble_eq_true rfl⟩ hcs S kd_117 (by decide) (T := TX7) (N := 17) rfl rfl hl.1 rfl (Nat.le_of_ble_eq_true rfl) dX7_layBeginnings_101) S (fun r9 σ8 H locs h S => ?_)
        refine lv_if_eq (tgt := 117) C.1 C.2.1 dX7_layBeginnings_104 (by decide) (fun c10 => ?_) (fun c10 => ?_)
        · replace h := h.1 c10
          refine lv_bipush (v := (-9 : Int32)) C.1 C.2.1 dX7_layBeginnings_117 (by decide) ?_
          exact TX7_layBeginnings_119 C hml hcs hR ih x1 x2 x3 x4 ((-9 : Int32)) S (lv_sub hl [0, 1, 2, 3, 4] rfl) h
        · replace h := h.2 c10
          refine lv_aload_n C.1 C.2.1 dX7_layBeginnings_107 rfl (lv_at hl 0 rfl) ?_
          refine lv_iload C.1 C.2.1 dX7_layBeginnings_108 (lv_at hl 4 rfl) ?_
          refine lv_iload_n C.1 C.2.1 dX7_layBeginnings_110 rfl (lv_at hl 3 rfl) ?_
          refine k_i (r_V (As := [.int x4, .int x3]) (rest := []) C hml (c_X7_endOf l G x4 x3 σ8 _ h) kM_X7_endOf im_X7_endOf se_X7_endOf ml_X7_140 ⟨rfl, rfl⟩ ⟨Nat.le_of_ble_eq_true rfl, Nat.le_of_ble_eq_true rfl⟩ hcs S kd_117 (by decide) (T := TX7) (N := 17) rfl rfl hl.1 rfl (Nat.le_of_ble_eq_true rfl) dX7_layBeginnings_111) S (fun r12 σ11 H locs h S => ?_)
          refine lv_goto (tgt := 119) C.1 C.2.1 dX7_layBeginnings_114 (by decide) ?_
          exact TX7_layBeginnings_119 C hml hcs hR ih x1 x2 x3 x4 r12 S (lv_sub hl [0, 1, 2, 3, 4] rfl) h
set_option maxHeartbeats 4000000 in
set_option maxRecDepth 100000 in
theorem TX7_layBeginnings_48 (C : s_C G p s args m c RX7 cX7_layBeginnings) (hml : c.maxLocals = 6) (hcs : cells ≤ (rm_X7_layBeginnings).cells ∧ slots ≤ (rm_X7_layBeginnings).slots)  {K38 : Int32 → Sg → Prop} {post : Sg → Prop} (hR : ∀ (σ1 : Sg) (H : Heap) (locs : List Loc) (pc : Nat) (ls : Array Slot), decode cX7_layBeginnings pc = .ok (.return_, 1) → post σ1 → s_St G σ1 H0 H locs → W p l e rm_X7_layBeginnings s m args below meth c H locs cells slots Q (F0 m pc ls [])) (hK38 : ∀ (x1 : Int32), ∀ (σ : Sg) (H : Heap) (locs : List Loc) (ls : Array Slot), s_St G σ H0 H locs → lv_has ls 6 [(0, .ref (G.2.2 + 117)), (1, .int x1)] → K38 x1 σ → W p l e rm_X7_layBeginnings s m args below meth c H locs cells slots Q (F0 m 38 ls [])) : ∀ (n : Nat) (x1 : Int32) (x2 : Int32), ∀ {σ : Sg} {H : Heap} {locs : List Loc} {ls : Array Slot}, s_St G σ H0 H locs → lv_has ls 6 [(0, .ref (G.2.2 + 117)), (1, .int x1), (2, .int x2)] → BX7_layBeginnings_48 K38 post n x1 x2 σ → W p l e rm_X7_layBeginnings s m args below meth c H locs cells slots Q (F0 m 48 ls []) := by
  intro n
  induction n with
  | zero =>
    intro x1 x2  σ H locs ls S hl h
    exact absurd h (fun h => h)
  | succ n ih0 =>
    have ih : ∀ (x1 : Int32) (x2 : Int32), ∀ (σ : Sg) (H : Heap) (locs : List Loc) (ls : Array Slot), s_St G σ H0 H locs → lv_has ls 6 [(0, .ref (G.2.2 + 117)), (1, .int x1), (2, .int x2)] → BX7_layBeginnings_48 K38 post n x1 x2 σ → W p l e rm_X7_layBeginnings s m args below meth c H locs cells slots Q (F0 m 48 ls []) := fun x1 x2  _ _ _ _ => ih0 x1 x2 
    intro x1 x2  σ H locs ls S hl h
    refine lv_iload_n C.1 C.2.1 dX7_layBeginnings_48 rfl (lv_at hl 2 rfl) ?_
    refine lv_sipush (v := (4096 : Int32)) C.1 C.2.1 dX7_layBeginnings_49 (by decide) ?_
    refine lv_icmp_ge (tgt := 159) C.1 C.2.1 dX7_layBeginnings_52 (by decide) (fun c13 => ?_) (fun c13 => ?_)
    · replace h := h.1 c13
      refine lv_iinc (v := (x1 + 1)) (lv' := [(1, .int (x1 + 1)), (0, .ref (G.2.2 + 117)), (2, .int x2)]) C.1 C.2.1 dX7_layBeginnings_159 hl (k := 1) rfl rfl (by decide) rfl (fun ls hl => ?_)
      refine lv_goto (tgt := 38) C.1 C.2.1 dX7_layBeginnings_162 (by decide) ?_
      exact hK38 ((x1 + 1)) _ _ _ _ S (lv_sub hl [1, 0] rfl) h
    · replace h := h.2 c13
      refine lv_aload_n C.1 C.2.1 dX7_layBeginnings_55 rfl (lv_at hl 0 rfl) ?_
      refine g_X7_8 C fl_X7_26 kd_117 S fn_117_8 dX7_layBeginnings_56 ?_
      refine lv_sipush (v := (4096 : Int32)) C.1 C.2.1 dX7_layBeginnings_59 (by decide) ?_
      refine lv_iload_n C.1 C.2.1 dX7_layBeginnings_62 rfl (lv_at hl 1 rfl) ?_
      refine lv_imul C.1 C.2.1 dX7_layBeginnings_63 ?_
      refine lv_iload_n C.1 C.2.1 dX7_layBeginnings_64 rfl (lv_at hl 2 rfl) ?_
      refine lv_iadd C.1 C.2.1 dX7_layBeginnings_65 ?_
      refine a_zld C kd_123 S ln_123 h.1 dX7_layBeginnings_66 ?_
      replace h := h.2
      refine lv_if_eq (tgt := 153) C.1 C.2.1 dX7_layBeginnings_67 (by decide) (fun c14 => ?_) (fun c14 => ?_)
      · replace h := h.1 c14
        refine lv_iinc (v := (x2 + 1)) (lv' := [(2, .int (x2 + 1)), (0, .ref (G.2.2 + 117)), (1, .int x1)]) C.1 C.2.1 dX7_layBeginnings_153 hl (k := 2) rfl rfl (by decide) rfl (fun ls hl => ?_)
        refine lv_goto (tgt := 48) C.1 C.2.1 dX7_layBeginnings_156 (by decide) ?_
        exact ih x1 ((x2 + 1)) _ _ _ _ S (lv_sub hl [1, 2, 0] rfl) h
      · replace h := h.2 c14
        refine lv_aload_n C.1 C.2.1 dX7_layBeginnings_70 rfl (lv_at hl 0 rfl) ?_
        refine lv_iload_n C.1 C.2.1 dX7_layBeginnings_71 rfl (lv_at hl 1 rfl) ?_
        refine lv_iload_n C.1 C.2.1 dX7_layBeginnings_72 rfl (lv_at hl 2 rfl) ?_
        refine k_i (r_V (As := [.int x1, .int x2]) (rest := []) C hml (c_X7_startOf l G x1 x2 σ _ h) kM_X7_startOf im_X7_startOf se_X7_startOf ml_X7_137 ⟨rfl, rfl⟩ ⟨Nat.le_of_ble_eq_true rfl, Nat.le_of_ble_eq_true rfl⟩ hcs S kd_117 (by decide) (T := TX7) (N := 17) rfl rfl hl.1 rfl (Nat.le_of_ble_eq_true rfl) dX7_layBeginnings_73) S (fun r16 σ15 H locs h S => ?_)
        refine lv_istore_n (lv' := [(3, .int r16), (0, .ref (G.2.2 + 117)), (1, .int x1), (2, .int x2)]) C.1 C.2.1 dX7_layBeginnings_76 rfl hl (by decide) rfl (fun ls hl => ?_)
        refine lv_iconst (v := (0 : Int32)) C.1 C.2.1 dX7_layBeginnings_77 (by decide) ?_
        refine lv_istore (lv' := [(4, .int (0 : Int32)), (3, .int r16), (0, .ref (G.2.2 + 117)), (1, .int x1), (2, .int x2)]) C.1 C.2.1 dX7_layBeginnings_78 hl (by decide) rfl (fun ls hl => ?_)
        obtain ⟨nf, h⟩ := h
        exact TX7_layBeginnings_80 C hml hcs hR ih nf x1 x2 r16 ((0 : Int32)) S (lv_sub hl [2, 3, 4, 1, 0] rfl) h
set_option maxHeartbeats 4000000 in
set_option maxRecDepth 100000 in
theorem TX7_layBeginnings_38 (C : s_C G p s args m c RX7 cX7_layBeginnings) (hml : c.maxLocals = 6) (hcs : cells ≤ (rm_X7_layBeginnings).cells ∧ slots ≤ (rm_X7_layBeginnings).slots)  {post : Sg → Prop} (hR : ∀ (σ1 : Sg) (H : Heap) (locs : List Loc) (pc : Nat) (ls : Array Slot), decode cX7_layBeginnings pc = .ok (.return_, 1) → post σ1 → s_St G σ1 H0 H locs → W p l e rm_X7_layBeginnings s m args below meth c H locs cells slots Q (F0 m pc ls [])) : ∀ (n : Nat) (x1 : Int32), ∀ {σ : Sg} {H : Heap} {locs : List Loc} {ls : Array Slot}, s_St G σ H0 H locs → lv_has ls 6 [(0, .ref (G.2.2 + 117)), (1, .int x1)] → BX7_layBeginnings_38 post n x1 σ → W p l e rm_X7_layBeginnings s m args below meth c H locs cells slots Q (F0 m 38 ls []) := by
  intro n
  induction n with
  | zero =>
    intro x1  σ H locs ls S hl h
    exact absurd h (fun h => h)
  | succ n ih0 =>
    have ih : ∀ (x1 : Int32), ∀ (σ : Sg) (H : Heap) (locs : List Loc) (ls : Array Slot), s_St G σ H0 H locs → lv_has ls 6 [(0, .ref (G.2.2 + 117)), (1, .int x1)] → BX7_layBeginnings_38 post n x1 σ → W p l e rm_X7_layBeginnings s m args below meth c H locs cells slots Q (F0 m 38 ls []) := fun x1  _ _ _ _ => ih0 x1 
    intro x1  σ H locs ls S hl h
    refine lv_iload_n C.1 C.2.1 dX7_layBeginnings_38 rfl (lv_at hl 1 rfl) ?_
    refine lv_aload_n C.1 C.2.1 dX7_layBeginnings_39 rfl (lv_at hl 0 rfl) ?_
    refine g_X7_6 C fl_X7_64 kd_117 S dX7_layBeginnings_40 ?_
    refine lv_icmp_ge (tgt := 165) C.1 C.2.1 dX7_layBeginnings_43 (by decide) (fun c17 => ?_) (fun c17 => ?_)
    · replace h := h.1 c17
      exact hR _ _ _ _ _ dX7_layBeginnings_165 h S
    · replace h := h.2 c17
      refine lv_iconst (v := (0 : Int32)) C.1 C.2.1 dX7_layBeginnings_46 (by decide) ?_
      refine lv_istore_n (lv' := [(2, .int (0 : Int32)), (0, .ref (G.2.2 + 117)), (1, .int x1)]) C.1 C.2.1 dX7_layBeginnings_47 rfl hl (by decide) rfl (fun ls hl => ?_)
      obtain ⟨nf, h⟩ := h
      exact TX7_layBeginnings_48 C hml hcs hR ih nf x1 ((0 : Int32)) S (lv_sub hl [1, 2, 0] rfl) h
set_option maxHeartbeats 4000000 in
set_option maxRecDepth 100000 in
theorem TX7_layBeginnings_2 (C : s_C G p s args m c RX7 cX7_layBeginnings) (hml : c.maxLocals = 6) (hcs : cells ≤ (rm_X7_layBeginnings).cells ∧ slots ≤ (rm_X7_layBeginnings).slots)  {post : Sg → Prop} (hR : ∀ (σ1 : Sg) (H : Heap) (locs : List Loc) (pc : Nat) (ls : Array Slot), decode cX7_layBeginnings pc = .ok (.return_, 1) → post σ1 → s_St G σ1 H0 H locs → W p l e rm_X7_layBeginnings s m args below meth c H locs cells slots Q (F0 m pc ls [])) : ∀ (n : Nat) (x1 : Int32), ∀ {σ : Sg} {H : Heap} {locs : List Loc} {ls : Array Slot}, s_St G σ H0 H locs → lv_has ls 6 [(0, .ref (G.2.2 + 117)), (1, .int x1)] → BX7_layBeginnings_2 post n x1 σ → W p l e rm_X7_layBeginnings s m args below meth c H locs cells slots Q (F0 m 2 ls []) := by
  intro n
  induction n with
  | zero =>
    intro x1  σ H locs ls S hl h
    exact absurd h (fun h => h)
  | succ n ih0 =>
    have ih : ∀ (x1 : Int32), ∀ (σ : Sg) (H : Heap) (locs : List Loc) (ls : Array Slot), s_St G σ H0 H locs → lv_has ls 6 [(0, .ref (G.2.2 + 117)), (1, .int x1)] → BX7_layBeginnings_2 post n x1 σ → W p l e rm_X7_layBeginnings s m args below meth c H locs cells slots Q (F0 m 2 ls []) := fun x1  _ _ _ _ => ih0 x1 
    intro x1  σ H locs ls S hl h
    refine lv_iload_n C.1 C.2.1 dX7_layBeginnings_2 rfl (lv_at hl 1 rfl) ?_
    refine lv_ldc (v := (249856 : Int32)) C.1 C.2.1 C.2.2.1 (C.2.2.2.1 _ ct_X7_25) dX7_layBeginnings_3 ?_
    refine lv_icmp_ge (tgt := 36) C.1 C.2.1 dX7_layBeginnings_5 (by decide) (fun c18 => ?_) (fun c18 => ?_)
    · replace h := h.1 c18
      refine lv_iconst (v := (0 : Int32)) C.1 C.2.1 dX7_layBeginnings_36 (by decide) ?_
      refine lv_istore_n (lv' := [(1, .int (0 : Int32)), (0, .ref (G.2.2 + 117))]) C.1 C.2.1 dX7_layBeginnings_37 rfl hl (by decide) rfl (fun ls hl => ?_)
      obtain ⟨nf, h⟩ := h
      exact TX7_layBeginnings_38 C hml hcs hR nf ((0 : Int32)) S (lv_sub hl [1, 0] rfl) h
    · replace h := h.2 c18
      refine lv_aload_n C.1 C.2.1 dX7_layBeginnings_8 rfl (lv_at hl 0 rfl) ?_
      refine g_X7_8 C fl_X7_26 kd_117 S fn_117_8 dX7_layBeginnings_9 ?_
      refine lv_iload_n C.1 C.2.1 dX7_layBeginnings_12 rfl (lv_at hl 1 rfl) ?_
      refine lv_iload_n C.1 C.2.1 dX7_layBeginnings_13 rfl (lv_at hl 1 rfl) ?_
      refine lv_if_ne (tgt := 21) C.1 C.2.1 dX7_layBeginnings_14 (by decide) (fun c19 => ?_) (fun c19 => ?_)
      · replace h := h.1 c19
        refine lv_iconst (v := (0 : Int32)) C.1 C.2.1 dX7_layBeginnings_21 (by decide) ?_
        refine a_zst C kd_123 S ln_123 h.1 dX7_layBeginnings_22 (fun σ20 H locs e21 S => ?_)
        replace h := h.2 σ20 e21
        refine lv_aload_n C.1 C.2.1 dX7_layBeginnings_23 rfl (lv_at hl 0 rfl) ?_
        refine g_X7_9 C fl_X7_30 kd_117 S fn_117_9 dX7_layBeginnings_24 ?_
        refine lv_iload_n C.1 C.2.1 dX7_layBeginnings_27 rfl (lv_at hl 1 rfl) ?_
        refine lv_iconst (v := (0 : Int32)) C.1 C.2.1 dX7_layBeginnings_28 (by decide) ?_
        refine a_ist C kd_124 S ln_124 h.1 dX7_layBeginnings_29 (fun σ22 H locs e23 S => ?_)
        replace h := h.2 σ22 e23
        refine lv_iinc (v := (x1 + 1)) (lv' := [(1, .int (x1 + 1)), (0, .ref (G.2.2 + 117))]) C.1 C.2.1 dX7_layBeginnings_30 hl (k := 1) rfl rfl (by decide) rfl (fun ls hl => ?_)
        refine lv_goto (tgt := 2) C.1 C.2.1 dX7_layBeginnings_33 (by decide) ?_
        exact ih ((x1 + 1)) _ _ _ _ S (lv_sub hl [1, 0] rfl) h
      · replace h := h.2 c19
        refine lv_iconst (v := (1 : Int32)) C.1 C.2.1 dX7_layBeginnings_17 (by decide) ?_
        refine lv_goto (tgt := 22) C.1 C.2.1 dX7_layBeginnings_18 (by decide) ?_
        refine a_zst C kd_123 S ln_123 h.1 dX7_layBeginnings_22 (fun σ24 H locs e25 S => ?_)
        replace h := h.2 σ24 e25
        refine lv_aload_n C.1 C.2.1 dX7_layBeginnings_23 rfl (lv_at hl 0 rfl) ?_
        refine g_X7_9 C fl_X7_30 kd_117 S fn_117_9 dX7_layBeginnings_24 ?_
        refine lv_iload_n C.1 C.2.1 dX7_layBeginnings_27 rfl (lv_at hl 1 rfl) ?_
        refine lv_iconst (v := (0 : Int32)) C.1 C.2.1 dX7_layBeginnings_28 (by decide) ?_
        refine a_ist C kd_124 S ln_124 h.1 dX7_layBeginnings_29 (fun σ26 H locs e27 S => ?_)
        replace h := h.2 σ26 e27
        refine lv_iinc (v := (x1 + 1)) (lv' := [(1, .int (x1 + 1)), (0, .ref (G.2.2 + 117))]) C.1 C.2.1 dX7_layBeginnings_30 hl (k := 1) rfl rfl (by decide) rfl (fun ls hl => ?_)
        refine lv_goto (tgt := 2) C.1 C.2.1 dX7_layBeginnings_33 (by decide) ?_
        exact ih ((x1 + 1)) _ _ _ _ S (lv_sub hl [1, 0] rfl) h
theorem kM_X7_layBeginnings : s_M yX7_layBeginnings cX7_layBeginnings 6 none 0 := ⟨co_X7_layBeginnings, in_X7, by decide, by decide, by decide +kernel⟩
set_option maxHeartbeats 4000000 in
set_option maxRecDepth 100000 in
theorem c_X7_layBeginnings (l : Launch) (G : s_G)  (σ : Sg) (post : Sg → Prop) (h : wpX7_layBeginnings σ post) : Met l yX7_layBeginnings (wsU yX7_layBeginnings cX7_layBeginnings 6 none) rm_X7_layBeginnings (va_Pc [.ref (G.2.2 + 117)] (s_Pre G σ)) (va_Qv post (s_B G) (s_A G.2.2)) 0 0 (s_A G.2.2) := by
  refine Met.ofW (cc := cX7_layBeginnings) (maxL := 6) (ret := none) (by decide) rfl ?_
  intro p e s m args below meth c s₁ B hml hv
  obtain ⟨rfl, hP, hrok, hK, hN⟩ := hv
  have C : s_C G p s (([.ref (G.2.2 + 117)] : List Value).toArray) m c RX7 cX7_layBeginnings := ⟨B.exec, B.bytes, findClass_of_methodNamed B.named, fun w hw => atoms_spec (ws := wsU yX7_layBeginnings cX7_layBeginnings 6 none) B.pre w (List.mem_cons_of_mem _ hw), hK, hN⟩
  have hr := B.returns
  have hlocks := B.notSynchronized
  have S : s_St G σ s.heap s.heap [] := ⟨hP, va_S.rf, hrok⟩
  have hcs : 0 ≤ (rm_X7_layBeginnings).cells ∧ 0 ≤ (rm_X7_layBeginnings).slots := ⟨Nat.le_refl 0, Nat.le_refl 0⟩
  have hR : ∀ (σ1 : Sg) (H : Heap) (locs : List Loc) (pc : Nat) (ls : Array Slot), decode cX7_layBeginnings pc = .ok (.return_, 1) → post σ1 → s_St G σ1 s.heap H locs → W p l e rm_X7_layBeginnings s m ([.ref (G.2.2 + 117)] : List Value).toArray below meth c H locs 0 0 (MQ below (va_Qv post (s_B G) (s_A G.2.2)) ([.ref (G.2.2 + 117)] : List Value).toArray s 0 0 (s_A G.2.2)) (F0 m pc ls []) := fun _ _ _ _ _ hd hp S => ret_v C hr hlocks hd hp S
  have hl := lv_entry ([.ref (G.2.2 + 117)]) (n := 6) (Nat.le_of_ble_eq_true rfl)
  rw [lg_entry_eq]
  generalize (lg_sl ([.ref (G.2.2 + 117)]) ++ List.replicate (6 - (lg_sl ([.ref (G.2.2 + 117)])).length) Slot.unset).toArray = ls at hl ⊢
  have hl : lv_has ls 6 [(0, .ref (G.2.2 + 117))] := hl
  unfold wpX7_layBeginnings at h
  refine lv_iconst (v := (0 : Int32)) C.1 C.2.1 dX7_layBeginnings_0 (by decide) ?_
  refine lv_istore_n (lv' := [(1, .int (0 : Int32)), (0, .ref (G.2.2 + 117))]) C.1 C.2.1 dX7_layBeginnings_1 rfl hl (by decide) rfl (fun ls hl => ?_)
  obtain ⟨nf, h⟩ := h
  exact TX7_layBeginnings_2 C hml hcs hR nf ((0 : Int32)) S (lv_sub hl [1, 0] rfl) h
end M8
