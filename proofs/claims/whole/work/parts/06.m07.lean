section M7
variable {p : Program} {l : Launch} {e : Env} {R : Room} {s : State} {m : MethodId} {args : Array Value} {below : List Frame} {meth : Method} {c : Code} {H0 : Heap} {cells slots : Nat} {Q : State → Prop} {G : s_G}
/-! X7_isIn -/
abbrev rm_X7_isIn : Room := { frames := 0, cells := 0, slots := 0, locals := 0 }
def wpX7_isIn (x0 : Int32) (x1 : Int32) (x2 : Int32) (σ : Sg) (post : Int32 → Sg → Prop) : Prop := (((x0 < x1) → post (0 : Int32) σ) ∧ ((¬ x0 < x1) → (((x2 < x0) → post (0 : Int32) σ) ∧ ((¬ x2 < x0) → post (1 : Int32) σ))))
theorem kM_X7_isIn : s_M yX7_isIn cX7_isIn 3 (some .boolean) 3 := ⟨co_X7_isIn, in_X7, by decide, by decide, by decide +kernel⟩
set_option maxHeartbeats 4000000 in
set_option maxRecDepth 100000 in
theorem c_X7_isIn (l : Launch) (G : s_G) (x0 : Int32) (x1 : Int32) (x2 : Int32) (σ : Sg) (post : Int32 → Sg → Prop) (h : wpX7_isIn x0 x1 x2 σ post) : Met l yX7_isIn (wsU yX7_isIn cX7_isIn 3 (some .boolean)) rm_X7_isIn (va_Pc [.int x0, .int x1, .int x2] (s_Pre G σ)) (va_Qi post (s_B G) (s_A G.2.2)) 0 0 (s_A G.2.2) := by
  refine Met.ofW (cc := cX7_isIn) (maxL := 3) (ret := (some .boolean)) (by decide) rfl ?_
  intro p e s m args below meth c s₁ B hml hv
  obtain ⟨rfl, hP, hrok, hK, hN⟩ := hv
  have C : s_C G p s (([.int x0, .int x1, .int x2] : List Value).toArray) m c RX7 cX7_isIn := ⟨B.exec, B.bytes, findClass_of_methodNamed B.named, fun w hw => atoms_spec (ws := wsU yX7_isIn cX7_isIn 3 (some .boolean)) B.pre w (List.mem_cons_of_mem _ hw), hK, hN⟩
  have hr := B.returns
  have hlocks := B.notSynchronized
  have S : s_St G σ s.heap s.heap [] := ⟨hP, va_S.rf, hrok⟩
  have hcs : 0 ≤ (rm_X7_isIn).cells ∧ 0 ≤ (rm_X7_isIn).slots := ⟨Nat.le_refl 0, Nat.le_refl 0⟩
  have hR : ∀ (r : Int32) (σ1 : Sg) (H : Heap) (locs : List Loc) (pc : Nat) (ls : Array Slot), decode cX7_isIn pc = .ok (.ireturn, 1) → narrow .boolean (.int r) = .int r → post r σ1 → s_St G σ1 s.heap H locs → W p l e rm_X7_isIn s m ([.int x0, .int x1, .int x2] : List Value).toArray below meth c H locs 0 0 (MQ below (va_Qi post (s_B G) (s_A G.2.2)) ([.int x0, .int x1, .int x2] : List Value).toArray s 0 0 (s_A G.2.2)) (F0 m pc ls [.int r]) := fun _ _ _ _ _ _ hd hn hp S => ret_z C hr hlocks hd hn hp S
  have hl := lv_entry ([.int x0, .int x1, .int x2]) (n := 3) (Nat.le_of_ble_eq_true rfl)
  rw [lg_entry_eq]
  generalize (lg_sl ([.int x0, .int x1, .int x2]) ++ List.replicate (3 - (lg_sl ([.int x0, .int x1, .int x2])).length) Slot.unset).toArray = ls at hl ⊢
  have hl : lv_has ls 3 [(0, .int x0), (1, .int x1), (2, .int x2)] := hl
  unfold wpX7_isIn at h
  refine lv_iload_n C.1 C.2.1 dX7_isIn_0 rfl (lv_at hl 0 rfl) ?_
  refine lv_iload_n C.1 C.2.1 dX7_isIn_1 rfl (lv_at hl 1 rfl) ?_
  refine lv_icmp_lt (tgt := 14) C.1 C.2.1 dX7_isIn_2 (by decide) (fun c1 => ?_) (fun c1 => ?_)
  · replace h := h.1 c1
    refine lv_iconst (v := (0 : Int32)) C.1 C.2.1 dX7_isIn_14 (by decide) ?_
    exact hR _ _ _ _ _ _ dX7_isIn_15 rfl h S
  · replace h := h.2 c1
    refine lv_iload_n C.1 C.2.1 dX7_isIn_5 rfl (lv_at hl 0 rfl) ?_
    refine lv_iload_n C.1 C.2.1 dX7_isIn_6 rfl (lv_at hl 2 rfl) ?_
    refine lv_icmp_gt (tgt := 14) C.1 C.2.1 dX7_isIn_7 (by decide) (fun c2 => ?_) (fun c2 => ?_)
    · replace h := h.1 c2
      refine lv_iconst (v := (0 : Int32)) C.1 C.2.1 dX7_isIn_14 (by decide) ?_
      exact hR _ _ _ _ _ _ dX7_isIn_15 rfl h S
    · replace h := h.2 c2
      refine lv_iconst (v := (1 : Int32)) C.1 C.2.1 dX7_isIn_10 (by decide) ?_
      refine lv_goto (tgt := 15) C.1 C.2.1 dX7_isIn_11 (by decide) ?_
      exact hR _ _ _ _ _ _ dX7_isIn_15 rfl h S
/-! X7_remember -/
abbrev rm_X7_remember : Room := { frames := 0, cells := 0, slots := 0, locals := 0 }
def BX7_remember_11  (K51 : Int32 → Sg → Prop) (post : Sg → Prop) : Nat → Int32 → Sg → Prop
  | 0, _, _ => False
  | n + 1, x1, σ => ((((350 : Int32) ≤ x1) → (∀ σ2 : Sg, σ2 = setI σ 117 2 (((σ.1 117 2) - (1 : Int32))) → K51 ((0 : Int32)) σ2)) ∧ ((¬ (350 : Int32) ≤ x1) → (vp_in ((x1 + (50 : Int32))) 400 ∧ (vp_in x1 400 ∧ (∀ σ4 : Sg, σ4 = setI σ 119 (x1).toNatClampNeg ((σ.1 119 ((x1 + (50 : Int32))).toNatClampNeg)) → BX7_remember_11 K51 post n ((x1 + 1)) σ4)))))
def BX7_remember_51  (post : Sg → Prop) : Nat → Int32 → Sg → Prop
  | 0, _, _ => False
  | n + 1, x1, σ => ((((50 : Int32) ≤ x1) → (∀ σ7 : Sg, σ7 = setI σ 117 2 (((σ.1 117 2) + (1 : Int32))) → (∀ σ9 : Sg, σ9 = setI σ7 117 10 ((0 : Int32)) → post σ9))) ∧ ((¬ (50 : Int32) ≤ x1) → (vp_in x1 50 ∧ (vp_in ((((50 : Int32) * (σ.1 117 2)) + x1)) 400 ∧ (∀ σ11 : Sg, σ11 = setI σ 119 ((((50 : Int32) * (σ.1 117 2)) + x1)).toNatClampNeg ((σ.1 118 (x1).toNatClampNeg)) → BX7_remember_51 post n ((x1 + 1)) σ11)))))
def wpX7_remember  (σ : Sg) (post : Sg → Prop) : Prop := (((¬ (σ.1 117 2) = (8 : Int32)) → ∃ nf, BX7_remember_51 post nf ((0 : Int32)) σ) ∧ (((σ.1 117 2) = (8 : Int32)) → ∃ nf, BX7_remember_11 (fun x1_ σ_ => ∃ nf, BX7_remember_51 post nf x1_ σ_) post nf ((0 : Int32)) σ))
set_option maxHeartbeats 4000000 in
set_option maxRecDepth 100000 in
theorem TX7_remember_11 (C : s_C G p s args m c RX7 cX7_remember) (hml : c.maxLocals = 2) (hcs : cells ≤ (rm_X7_remember).cells ∧ slots ≤ (rm_X7_remember).slots)  {K51 : Int32 → Sg → Prop} {post : Sg → Prop} (hR : ∀ (σ1 : Sg) (H : Heap) (locs : List Loc) (pc : Nat) (ls : Array Slot), decode cX7_remember pc = .ok (.return_, 1) → post σ1 → s_St G σ1 H0 H locs → W p l e rm_X7_remember s m args below meth c H locs cells slots Q (F0 m pc ls [])) (hK51 : ∀ (x1 : Int32), ∀ (σ : Sg) (H : Heap) (locs : List Loc) (ls : Array Slot), s_St G σ H0 H locs → lv_has ls 2 [(0, .ref (G.2.2 + 117)), (1, .int x1)] → K51 x1 σ → W p l e rm_X7_remember s m args below meth c H locs cells slots Q (F0 m 51 ls [])) : ∀ (n : Nat) (x1 : Int32), ∀ {σ : Sg} {H : Heap} {locs : List Loc} {ls : Array Slot}, s_St G σ H0 H locs → lv_has ls 2 [(0, .ref (G.2.2 + 117)), (1, .int x1)] → BX7_remember_11 K51 post n x1 σ → W p l e rm_X7_remember s m args below meth c H locs cells slots Q (F0 m 11 ls []) := by
  intro n
  induction n with
  | zero =>
    intro x1  σ H locs ls S hl h
    exact absurd h (fun h => h)
  | succ n ih0 =>
    have ih : ∀ (x1 : Int32), ∀ (σ : Sg) (H : Heap) (locs : List Loc) (ls : Array Slot), s_St G σ H0 H locs → lv_has ls 2 [(0, .ref (G.2.2 + 117)), (1, .int x1)] → BX7_remember_11 K51 post n x1 σ → W p l e rm_X7_remember s m args below meth c H locs cells slots Q (F0 m 11 ls []) := fun x1  _ _ _ _ => ih0 x1 
    intro x1  σ H locs ls S hl h
    refine lv_iload_n C.1 C.2.1 dX7_remember_11 rfl (lv_at hl 1 rfl) ?_
    refine lv_sipush (v := (350 : Int32)) C.1 C.2.1 dX7_remember_12 (by decide) ?_
    refine lv_icmp_ge (tgt := 39) C.1 C.2.1 dX7_remember_15 (by decide) (fun c1 => ?_) (fun c1 => ?_)
    · replace h := h.1 c1
      refine lv_aload_n C.1 C.2.1 dX7_remember_39 rfl (lv_at hl 0 rfl) ?_
      refine lv_dup C.1 C.2.1 dX7_remember_40 rfl ?_
      refine g_X7_2 C fl_X7_52 kd_117 S dX7_remember_41 ?_
      refine lv_iconst (v := (1 : Int32)) C.1 C.2.1 dX7_remember_44 (by decide) ?_
      refine lv_isub C.1 C.2.1 dX7_remember_45 ?_
      refine p_X7_2 C fl_X7_52 kd_117 S dX7_remember_46 (fun σ2 H locs e3 S => ?_)
      replace h := h σ2 e3
      refine lv_iconst (v := (0 : Int32)) C.1 C.2.1 dX7_remember_49 (by decide) ?_
      refine lv_istore_n (lv' := [(1, .int (0 : Int32)), (0, .ref (G.2.2 + 117))]) C.1 C.2.1 dX7_remember_50 rfl hl (by decide) rfl (fun ls hl => ?_)
      exact hK51 ((0 : Int32)) _ _ _ _ S (lv_sub hl [1, 0] rfl) h
    · replace h := h.2 c1
      refine lv_aload_n C.1 C.2.1 dX7_remember_18 rfl (lv_at hl 0 rfl) ?_
      refine g_X7_1 C fl_X7_13 kd_117 S fn_117_1 dX7_remember_19 ?_
      refine lv_iload_n C.1 C.2.1 dX7_remember_22 rfl (lv_at hl 1 rfl) ?_
      refine lv_aload_n C.1 C.2.1 dX7_remember_23 rfl (lv_at hl 0 rfl) ?_
      refine g_X7_1 C fl_X7_13 kd_117 S fn_117_1 dX7_remember_24 ?_
      refine lv_iload_n C.1 C.2.1 dX7_remember_27 rfl (lv_at hl 1 rfl) ?_
      refine lv_bipush (v := (50 : Int32)) C.1 C.2.1 dX7_remember_28 (by decide) ?_
      refine lv_iadd C.1 C.2.1 dX7_remember_30 ?_
      refine a_ild C kd_119 S ln_119 h.1 dX7_remember_31 ?_
      replace h := h.2
      refine a_ist C kd_119 S ln_119 h.1 dX7_remember_32 (fun σ4 H locs e5 S => ?_)
      replace h := h.2 σ4 e5
      refine lv_iinc (v := (x1 + 1)) (lv' := [(1, .int (x1 + 1)), (0, .ref (G.2.2 + 117))]) C.1 C.2.1 dX7_remember_33 hl (k := 1) rfl rfl (by decide) rfl (fun ls hl => ?_)
      refine lv_goto (tgt := 11) C.1 C.2.1 dX7_remember_36 (by decide) ?_
      exact ih ((x1 + 1)) _ _ _ _ S (lv_sub hl [1, 0] rfl) h
set_option maxHeartbeats 4000000 in
set_option maxRecDepth 100000 in
theorem TX7_remember_51 (C : s_C G p s args m c RX7 cX7_remember) (hml : c.maxLocals = 2) (hcs : cells ≤ (rm_X7_remember).cells ∧ slots ≤ (rm_X7_remember).slots)  {post : Sg → Prop} (hR : ∀ (σ1 : Sg) (H : Heap) (locs : List Loc) (pc : Nat) (ls : Array Slot), decode cX7_remember pc = .ok (.return_, 1) → post σ1 → s_St G σ1 H0 H locs → W p l e rm_X7_remember s m args below meth c H locs cells slots Q (F0 m pc ls [])) : ∀ (n : Nat) (x1 : Int32), ∀ {σ : Sg} {H : Heap} {locs : List Loc} {ls : Array Slot}, s_St G σ H0 H locs → lv_has ls 2 [(0, .ref (G.2.2 + 117)), (1, .int x1)] → BX7_remember_51 post n x1 σ → W p l e rm_X7_remember s m args below meth c H locs cells slots Q (F0 m 51 ls []) := by
  intro n
  induction n with
  | zero =>
    intro x1  σ H locs ls S hl h
    exact absurd h (fun h => h)
  | succ n ih0 =>
    have ih : ∀ (x1 : Int32), ∀ (σ : Sg) (H : Heap) (locs : List Loc) (ls : Array Slot), s_St G σ H0 H locs → lv_has ls 2 [(0, .ref (G.2.2 + 117)), (1, .int x1)] → BX7_remember_51 post n x1 σ → W p l e rm_X7_remember s m args below meth c H locs cells slots Q (F0 m 51 ls []) := fun x1  _ _ _ _ => ih0 x1 
    intro x1  σ H locs ls S hl h
    refine lv_iload_n C.1 C.2.1 dX7_remember_51 rfl (lv_at hl 1 rfl) ?_
    refine lv_bipush (v := (50 : Int32)) C.1 C.2.1 dX7_remember_52 (by decide) ?_
    refine lv_icmp_ge (tgt := 83) C.1 C.2.1 dX7_remember_54 (by decide) (fun c6 => ?_) (fun c6 => ?_)
    · replace h := h.1 c6
      refine lv_aload_n C.1 C.2.1 dX7_remember_83 rfl (lv_at hl 0 rfl) ?_
      refine lv_dup C.1 C.2.1 dX7_remember_84 rfl ?_
      refine g_X7_2 C fl_X7_52 kd_117 S dX7_remember_85 ?_
      refine lv_iconst (v := (1 : Int32)) C.1 C.2.1 dX7_remember_88 (by decide) ?_
      refine lv_iadd C.1 C.2.1 dX7_remember_89 ?_
      refine p_X7_2 C fl_X7_52 kd_117 S dX7_remember_90 (fun σ7 H locs e8 S => ?_)
      replace h := h σ7 e8
      refine lv_aload_n C.1 C.2.1 dX7_remember_93 rfl (lv_at hl 0 rfl) ?_
      refine lv_iconst (v := (0 : Int32)) C.1 C.2.1 dX7_remember_94 (by decide) ?_
      refine p_X7_10 C fl_X7_56 kd_117 S rfl rfl dX7_remember_95 (fun σ9 H locs e10 S => ?_)
      replace h := h σ9 e10
      exact hR _ _ _ _ _ dX7_remember_98 h S
    · replace h := h.2 c6
      refine lv_aload_n C.1 C.2.1 dX7_remember_57 rfl (lv_at hl 0 rfl) ?_
      refine g_X7_1 C fl_X7_13 kd_117 S fn_117_1 dX7_remember_58 ?_
      refine lv_bipush (v := (50 : Int32)) C.1 C.2.1 dX7_remember_61 (by decide) ?_
      refine lv_aload_n C.1 C.2.1 dX7_remember_63 rfl (lv_at hl 0 rfl) ?_
      refine g_X7_2 C fl_X7_52 kd_117 S dX7_remember_64 ?_
      refine lv_imul C.1 C.2.1 dX7_remember_67 ?_
      refine lv_iload_n C.1 C.2.1 dX7_remember_68 rfl (lv_at hl 1 rfl) ?_
      refine lv_iadd C.1 C.2.1 dX7_remember_69 ?_
      refine lv_aload_n C.1 C.2.1 dX7_remember_70 rfl (lv_at hl 0 rfl) ?_
      refine g_X7_0 C fl_X7_7 kd_117 S fn_117_0 dX7_remember_71 ?_
      refine lv_iload_n C.1 C.2.1 dX7_remember_74 rfl (lv_at hl 1 rfl) ?_
      refine a_ild C kd_118 S ln_118 h.1 dX7_remember_75 ?_
      replace h := h.2
      refine a_ist C kd_119 S ln_119 h.1 dX7_remember_76 (fun σ11 H locs e12 S => ?_)
      replace h := h.2 σ11 e12
      refine lv_iinc (v := (x1 + 1)) (lv' := [(1, .int (x1 + 1)), (0, .ref (G.2.2 + 117))]) C.1 C.2.1 dX7_remember_77 hl (k := 1) rfl rfl (by decide) rfl (fun ls hl => ?_)
      refine lv_goto (tgt := 51) C.1 C.2.1 dX7_remember_80 (by decide) ?_
      exact ih ((x1 + 1)) _ _ _ _ S (lv_sub hl [1, 0] rfl) h
theorem kM_X7_remember : s_M yX7_remember cX7_remember 2 none 0 := ⟨co_X7_remember, in_X7, by decide, by decide, by decide +kernel⟩
set_option maxHeartbeats 4000000 in
set_option maxRecDepth 100000 in
theorem c_X7_remember (l : Launch) (G : s_G)  (σ : Sg) (post : Sg → Prop) (h : wpX7_remember σ post) : Met l yX7_remember (wsU yX7_remember cX7_remember 2 none) rm_X7_remember (va_Pc [.ref (G.2.2 + 117)] (s_Pre G σ)) (va_Qv post (s_B G) (s_A G.2.2)) 0 0 (s_A G.2.2) := by
  refine Met.ofW (cc := cX7_remember) (maxL := 2) (ret := none) (by decide) rfl ?_
  intro p e s m args below meth c s₁ B hml hv
  obtain ⟨rfl, hP, hrok, hK, hN⟩ := hv
  have C : s_C G p s (([.ref (G.2.2 + 117)] : List Value).toArray) m c RX7 cX7_remember := ⟨B.exec, B.bytes, findClass_of_methodNamed B.named, fun w hw => atoms_spec (ws := wsU yX7_remember cX7_remember 2 none) B.pre w (List.mem_cons_of_mem _ hw), hK, hN⟩
  have hr := B.returns
  have hlocks := B.notSynchronized
  have S : s_St G σ s.heap s.heap [] := ⟨hP, va_S.rf, hrok⟩
  have hcs : 0 ≤ (rm_X7_remember).cells ∧ 0 ≤ (rm_X7_remember).slots := ⟨Nat.le_refl 0, Nat.le_refl 0⟩
  have hR : ∀ (σ1 : Sg) (H : Heap) (locs : List Loc) (pc : Nat) (ls : Array Slot), decode cX7_remember pc = .ok (.return_, 1) → post σ1 → s_St G σ1 s.heap H locs → W p l e rm_X7_remember s m ([.ref (G.2.2 + 117)] : List Value).toArray below meth c H locs 0 0 (MQ below (va_Qv post (s_B G) (s_A G.2.2)) ([.ref (G.2.2 + 117)] : List Value).toArray s 0 0 (s_A G.2.2)) (F0 m pc ls []) := fun _ _ _ _ _ hd hp S => ret_v C hr hlocks hd hp S
  have hl := lv_entry ([.ref (G.2.2 + 117)]) (n := 2) (Nat.le_of_ble_eq_true rfl)
  rw [lg_entry_eq]
  generalize (lg_sl ([.ref (G.2.2 + 117)]) ++ List.replicate (2 - (lg_sl ([.ref (G.2.2 + 117)])).length) Slot.unset).toArray = ls at hl ⊢
  have hl : lv_has ls 2 [(0, .ref (G.2.2 + 117))] := hl
  unfold wpX7_remember at h
  refine lv_aload_n C.1 C.2.1 dX7_remember_0 rfl (lv_at hl 0 rfl) ?_
  refine g_X7_2 C fl_X7_52 kd_117 S dX7_remember_1 ?_
  refine lv_bipush (v := (8 : Int32)) C.1 C.2.1 dX7_remember_4 (by decide) ?_
  refine lv_icmp_ne (tgt := 49) C.1 C.2.1 dX7_remember_6 (by decide) (fun c13 => ?_) (fun c13 => ?_)
  · replace h := h.1 c13
    refine lv_iconst (v := (0 : Int32)) C.1 C.2.1 dX7_remember_49 (by decide) ?_
    refine lv_istore_n (lv' := [(1, .int (0 : Int32)), (0, .ref (G.2.2 + 117))]) C.1 C.2.1 dX7_remember_50 rfl hl (by decide) rfl (fun ls hl => ?_)
    obtain ⟨nf, h⟩ := h
    exact TX7_remember_51 C hml hcs hR nf ((0 : Int32)) S (lv_sub hl [1, 0] rfl) h
  · replace h := h.2 c13
    refine lv_iconst (v := (0 : Int32)) C.1 C.2.1 dX7_remember_9 (by decide) ?_
    refine lv_istore_n (lv' := [(1, .int (0 : Int32)), (0, .ref (G.2.2 + 117))]) C.1 C.2.1 dX7_remember_10 rfl hl (by decide) rfl (fun ls hl => ?_)
    obtain ⟨nf, h⟩ := h
    exact TX7_remember_11 C hml hcs hR (fun x1  _ _ _ _ S hl h => Exists.elim h (fun nf h => TX7_remember_51 C hml hcs hR nf x1  S hl h)) nf ((0 : Int32)) S (lv_sub hl [1, 0] rfl) h
/-! X7_back -/
abbrev rm_X7_back : Room := { frames := 1, cells := 0, slots := 0, locals := 22 }
def BX7_back_31 (x1 : Int32) (post : Int32 → Sg → Prop) : Nat → Int32 → Sg → Prop
  | 0, _, _ => False
  | n + 1, x2, σ => ((((50 : Int32) ≤ x2) → (vp_in ((0 : Int32)) 50 ∧ post ((σ.1 118 ((0 : Int32)).toNatClampNeg)) σ)) ∧ ((¬ (50 : Int32) ≤ x2) → (vp_in ((((50 : Int32) * x1) + x2)) 100 ∧ (vp_in x2 50 ∧ (∀ σ2 : Sg, σ2 = setI σ 118 (x2).toNatClampNeg ((σ.1 120 ((((50 : Int32) * x1) + x2)).toNatClampNeg)) → BX7_back_31 x1 post n ((x2 + 1)) σ2)))))
def wpX7_back (x1 : Int32) (σ : Sg) (post : Int32 → Sg → Prop) : Prop := wpX7_isIn x1 ((0 : Int32)) ((1 : Int32)) σ (fun r5 σ4 => (((¬ r5 = 0) → wpX7_has ((σ4.1 117 4)) x1 σ4 (fun r8 σ7 => (((¬ r8 = 0) → wpX7_remember σ7 (fun σ10 => ∃ nf, BX7_back_31 x1 post nf ((0 : Int32)) σ10)) ∧ ((r8 = 0) → post ((-2 : Int32)) σ7)))) ∧ ((r5 = 0) → post ((-1 : Int32)) σ4)))
set_option maxHeartbeats 4000000 in
set_option maxRecDepth 100000 in
theorem TX7_back_31 (C : s_C G p s args m c RX7 cX7_back) (hml : c.maxLocals = 3) (hcs : cells ≤ (rm_X7_back).cells ∧ slots ≤ (rm_X7_back).slots) {x1 : Int32} {post : Int32 → Sg → Prop} (hR : ∀ (r : Int32) (σ1 : Sg) (H : Heap) (locs : List Loc) (pc : Nat) (ls : Array Slot), decode cX7_back pc = .ok (.ireturn, 1) → post r σ1 → s_St G σ1 H0 H locs → W p l e rm_X7_back s m args below meth c H locs cells slots Q (F0 m pc ls [.int r])) : ∀ (n : Nat) (x2 : Int32), ∀ {σ : Sg} {H : Heap} {locs : List Loc} {ls : Array Slot}, s_St G σ H0 H locs → lv_has ls 3 [(0, .ref (G.2.2 + 117)), (1, .int x1), (2, .int x2)] → BX7_back_31 x1 post n x2 σ → W p l e rm_X7_back s m args below meth c H locs cells slots Q (F0 m 31 ls []) := by
  intro n
  induction n with
  | zero =>
    intro x2  σ H locs ls S hl h
    exact absurd h (fun h => h)
  | succ n ih0 =>
    have ih : ∀ (x2 : Int32), ∀ (σ : Sg) (H : Heap) (locs : List Loc) (ls : Array Slot), s_St G σ H0 H locs → lv_has ls 3 [(0, .ref (G.2.2 + 117)), (1, .int x1), (2, .int x2)] → BX7_back_31 x1 post n x2 σ → W p l e rm_X7_back s m args below meth c H locs cells slots Q (F0 m 31 ls []) := fun x2  _ _ _ _ => ih0 x2 
    intro x2  σ H locs ls S hl h
    refine lv_iload_n C.1 C.2.1 dX7_back_31 rfl (lv_at hl 2 rfl) ?_
    refine lv_bipush (v := (50 : Int32)) C.1 C.2.1 dX7_back_32 (by decide) ?_
    refine lv_icmp_ge (tgt := 60) C.1 C.2.1 dX7_back_34 (by decide) (fun c1 => ?_) (fun c1 => ?_)
    · replace h := h.1 c1
      refine lv_aload_n C.1 C.2.1 dX7_back_60 rfl (lv_at hl 0 rfl) ?_
      refine g_X7_0 C fl_X7_7 kd_117 S fn_117_0 dX7_back_61 ?_
      refine lv_iconst (v := (0 : Int32)) C.1 C.2.1 dX7_back_64 (by decide) ?_
      refine a_ild C kd_118 S ln_118 h.1 dX7_back_65 ?_
      replace h := h.2
      exact hR _ _ _ _ _ _ dX7_back_66 h S
    · replace h := h.2 c1
      refine lv_aload_n C.1 C.2.1 dX7_back_37 rfl (lv_at hl 0 rfl) ?_
      refine g_X7_0 C fl_X7_7 kd_117 S fn_117_0 dX7_back_38 ?_
      refine lv_iload_n C.1 C.2.1 dX7_back_41 rfl (lv_at hl 2 rfl) ?_
      refine lv_aload_n C.1 C.2.1 dX7_back_42 rfl (lv_at hl 0 rfl) ?_
      refine g_X7_3 C fl_X7_16 kd_117 S fn_117_3 dX7_back_43 ?_
      refine lv_bipush (v := (50 : Int32)) C.1 C.2.1 dX7_back_46 (by decide) ?_
      refine lv_iload_n C.1 C.2.1 dX7_back_48 rfl (lv_at hl 1 rfl) ?_
      refine lv_imul C.1 C.2.1 dX7_back_49 ?_
      refine lv_iload_n C.1 C.2.1 dX7_back_50 rfl (lv_at hl 2 rfl) ?_
      refine lv_iadd C.1 C.2.1 dX7_back_51 ?_
      refine a_ild C kd_120 S ln_120 h.1 dX7_back_52 ?_
      replace h := h.2
      refine a_ist C kd_118 S ln_118 h.1 dX7_back_53 (fun σ2 H locs e3 S => ?_)
      replace h := h.2 σ2 e3
      refine lv_iinc (v := (x2 + 1)) (lv' := [(2, .int (x2 + 1)), (0, .ref (G.2.2 + 117)), (1, .int x1)]) C.1 C.2.1 dX7_back_54 hl (k := 2) rfl rfl (by decide) rfl (fun ls hl => ?_)
      refine lv_goto (tgt := 31) C.1 C.2.1 dX7_back_57 (by decide) ?_
      exact ih ((x2 + 1)) _ _ _ _ S (lv_sub hl [1, 2, 0] rfl) h
theorem kM_X7_back : s_M yX7_back cX7_back 3 (some .int) 1 := ⟨co_X7_back, in_X7, by decide, by decide, by decide +kernel⟩
set_option maxHeartbeats 4000000 in
set_option maxRecDepth 100000 in
theorem c_X7_back (l : Launch) (G : s_G) (x1 : Int32) (σ : Sg) (post : Int32 → Sg → Prop) (h : wpX7_back x1 σ post) : Met l yX7_back (wsU yX7_back cX7_back 3 (some .int)) rm_X7_back (va_Pc [.ref (G.2.2 + 117), .int x1] (s_Pre G σ)) (va_Qi post (s_B G) (s_A G.2.2)) 0 0 (s_A G.2.2) := by
  refine Met.ofW (cc := cX7_back) (maxL := 3) (ret := (some .int)) (by decide) rfl ?_
  intro p e s m args below meth c s₁ B hml hv
  obtain ⟨rfl, hP, hrok, hK, hN⟩ := hv
  have C : s_C G p s (([.ref (G.2.2 + 117), .int x1] : List Value).toArray) m c RX7 cX7_back := ⟨B.exec, B.bytes, findClass_of_methodNamed B.named, fun w hw => atoms_spec (ws := wsU yX7_back cX7_back 3 (some .int)) B.pre w (List.mem_cons_of_mem _ hw), hK, hN⟩
  have hr := B.returns
  have hlocks := B.notSynchronized
  have S : s_St G σ s.heap s.heap [] := ⟨hP, va_S.rf, hrok⟩
  have hcs : 0 ≤ (rm_X7_back).cells ∧ 0 ≤ (rm_X7_back).slots := ⟨Nat.le_refl 0, Nat.le_refl 0⟩
  have hR : ∀ (r : Int32) (σ1 : Sg) (H : Heap) (locs : List Loc) (pc : Nat) (ls : Array Slot), decode cX7_back pc = .ok (.ireturn, 1) → post r σ1 → s_St G σ1 s.heap H locs → W p l e rm_X7_back s m ([.ref (G.2.2 + 117), .int x1] : List Value).toArray below meth c H locs 0 0 (MQ below (va_Qi post (s_B G) (s_A G.2.2)) ([.ref (G.2.2 + 117), .int x1] : List Value).toArray s 0 0 (s_A G.2.2)) (F0 m pc ls [.int r]) := fun _ _ _ _ _ _ hd hp S => ret_i C hr hlocks hd hp S
  have hl := lv_entry ([.ref (G.2.2 + 117), .int x1]) (n := 3) (Nat.le_of_ble_eq_true rfl)
  rw [lg_entry_eq]
  generalize (lg_sl ([.ref (G.2.2 + 117), .int x1]) ++ List.replicate (3 - (lg_sl ([.ref (G.2.2 + 117), .int x1])).length) Slot.unset).toArray = ls at hl ⊢
  have hl : lv_has ls 3 [(0, .ref (G.2.2 + 117)), (1, .int x1)] := hl
  unfold wpX7_back at h
  refine lv_iload_n C.1 C.2.1 dX7_back_0 rfl (lv_at hl 1 rfl) ?_
  refine lv_iconst (v := (0 : Int32)) C.1 C.2.1 dX7_back_1 (by decide) ?_
  refine lv_iconst (v := (1 : Int32)) C.1 C.2.1 dX7_back_2 (by decide) ?_
  refine k_i (r_S (As := [.int x1, .int (0 : Int32), .int (1 : Int32)]) (rest := []) C hml (c_X7_isIn l G x1 ((0 : Int32)) ((1 : Int32)) σ _ h) kM_X7_isIn st_X7_isIn ml_X7_60 ⟨rfl, rfl⟩ ⟨Nat.le_of_ble_eq_true rfl, Nat.le_of_ble_eq_true rfl⟩ hcs S rfl hl.1 rfl (Nat.le_of_ble_eq_true rfl) dX7_back_3) S (fun r5 σ4 H locs h S => ?_)
  refine lv_if_ne (tgt := 11) C.1 C.2.1 dX7_back_6 (by decide) (fun c6 => ?_) (fun c6 => ?_)
  · replace h := h.1 c6
    refine lv_aload_n C.1 C.2.1 dX7_back_11 rfl (lv_at hl 0 rfl) ?_
    refine g_X7_4 C fl_X7_191 kd_117 S dX7_back_12 ?_
    refine lv_iload_n C.1 C.2.1 dX7_back_15 rfl (lv_at hl 1 rfl) ?_
    refine k_i (r_S (As := [.int (σ4.1 117 4), .int x1]) (rest := []) C hml (c_X7_has l G ((σ4.1 117 4)) x1 σ4 _ h) kM_X7_has st_X7_has ml_X7_89 ⟨rfl, rfl⟩ ⟨Nat.le_of_ble_eq_true rfl, Nat.le_of_ble_eq_true rfl⟩ hcs S rfl hl.1 rfl (Nat.le_of_ble_eq_true rfl) dX7_back_16) S (fun r8 σ7 H locs h S => ?_)
    refine lv_if_ne (tgt := 25) C.1 C.2.1 dX7_back_19 (by decide) (fun c9 => ?_) (fun c9 => ?_)
    · replace h := h.1 c9
      refine lv_aload_n C.1 C.2.1 dX7_back_25 rfl (lv_at hl 0 rfl) ?_
      refine k_v (r_V (As := []) (rest := []) C hml (c_X7_remember l G σ7 _ h) kM_X7_remember im_X7_remember se_X7_remember ml_X7_86 ⟨rfl, rfl⟩ ⟨Nat.le_of_ble_eq_true rfl, Nat.le_of_ble_eq_true rfl⟩ hcs S kd_117 (by decide) (T := TX7) (N := 17) rfl rfl hl.1 rfl (Nat.le_of_ble_eq_true rfl) dX7_back_26) S (fun σ10 H locs h S => ?_)
      refine lv_iconst (v := (0 : Int32)) C.1 C.2.1 dX7_back_29 (by decide) ?_
      refine lv_istore_n (lv' := [(2, .int (0 : Int32)), (0, .ref (G.2.2 + 117)), (1, .int x1)]) C.1 C.2.1 dX7_back_30 rfl hl (by decide) rfl (fun ls hl => ?_)
      obtain ⟨nf, h⟩ := h
      exact TX7_back_31 C hml hcs hR nf ((0 : Int32)) S (lv_sub hl [1, 2, 0] rfl) h
    · replace h := h.2 c9
      refine lv_bipush (v := (-2 : Int32)) C.1 C.2.1 dX7_back_22 (by decide) ?_
      exact hR _ _ _ _ _ _ dX7_back_24 h S
  · replace h := h.2 c6
    refine lv_iconst (v := (-1 : Int32)) C.1 C.2.1 dX7_back_9 (by decide) ?_
    exact hR _ _ _ _ _ _ dX7_back_10 h S
/-! X7_letter -/
abbrev rm_X7_letter : Room := { frames := 0, cells := 0, slots := 0, locals := 0 }
def wpX7_letter (x1 : Int32) (x2 : Int32) (σ : Sg) (post : Int32 → Sg → Prop) : Prop := (vp_in ((((2 : Int32) + ((3 : Int32) * x1)) + x2)) 50 ∧ post ((σ.1 118 ((((2 : Int32) + ((3 : Int32) * x1)) + x2)).toNatClampNeg)) σ)
theorem kM_X7_letter : s_M yX7_letter cX7_letter 3 (some .int) 2 := ⟨co_X7_letter, in_X7, by decide, by decide, by decide +kernel⟩
set_option maxHeartbeats 4000000 in
set_option maxRecDepth 100000 in
theorem c_X7_letter (l : Launch) (G : s_G) (x1 : Int32) (x2 : Int32) (σ : Sg) (post : Int32 → Sg → Prop) (h : wpX7_letter x1 x2 σ post) : Met l yX7_letter (wsU yX7_letter cX7_letter 3 (some .int)) rm_X7_letter (va_Pc [.ref (G.2.2 + 117), .int x1, .int x2] (s_Pre G σ)) (va_Qi post (s_B G) (s_A G.2.2)) 0 0 (s_A G.2.2) := by
  refine Met.ofW (cc := cX7_letter) (maxL := 3) (ret := (some .int)) (by decide) rfl ?_
  intro p e s m args below meth c s₁ B hml hv
  obtain ⟨rfl, hP, hrok, hK, hN⟩ := hv
  have C : s_C G p s (([.ref (G.2.2 + 117), .int x1, .int x2] : List Value).toArray) m c RX7 cX7_letter := ⟨B.exec, B.bytes, findClass_of_methodNamed B.named, fun w hw => atoms_spec (ws := wsU yX7_letter cX7_letter 3 (some .int)) B.pre w (List.mem_cons_of_mem _ hw), hK, hN⟩
  have hr := B.returns
  have hlocks := B.notSynchronized
  have S : s_St G σ s.heap s.heap [] := ⟨hP, va_S.rf, hrok⟩
  have hcs : 0 ≤ (rm_X7_letter).cells ∧ 0 ≤ (rm_X7_letter).slots := ⟨Nat.le_refl 0, Nat.le_refl 0⟩
  have hR : ∀ (r : Int32) (σ1 : Sg) (H : Heap) (locs : List Loc) (pc : Nat) (ls : Array Slot), decode cX7_letter pc = .ok (.ireturn, 1) → post r σ1 → s_St G σ1 s.heap H locs → W p l e rm_X7_letter s m ([.ref (G.2.2 + 117), .int x1, .int x2] : List Value).toArray below meth c H locs 0 0 (MQ below (va_Qi post (s_B G) (s_A G.2.2)) ([.ref (G.2.2 + 117), .int x1, .int x2] : List Value).toArray s 0 0 (s_A G.2.2)) (F0 m pc ls [.int r]) := fun _ _ _ _ _ _ hd hp S => ret_i C hr hlocks hd hp S
  have hl := lv_entry ([.ref (G.2.2 + 117), .int x1, .int x2]) (n := 3) (Nat.le_of_ble_eq_true rfl)
  rw [lg_entry_eq]
  generalize (lg_sl ([.ref (G.2.2 + 117), .int x1, .int x2]) ++ List.replicate (3 - (lg_sl ([.ref (G.2.2 + 117), .int x1, .int x2])).length) Slot.unset).toArray = ls at hl ⊢
  have hl : lv_has ls 3 [(0, .ref (G.2.2 + 117)), (1, .int x1), (2, .int x2)] := hl
  unfold wpX7_letter at h
  refine lv_aload_n C.1 C.2.1 dX7_letter_0 rfl (lv_at hl 0 rfl) ?_
  refine g_X7_0 C fl_X7_7 kd_117 S fn_117_0 dX7_letter_1 ?_
  refine lv_iconst (v := (2 : Int32)) C.1 C.2.1 dX7_letter_4 (by decide) ?_
  refine lv_iconst (v := (3 : Int32)) C.1 C.2.1 dX7_letter_5 (by decide) ?_
  refine lv_iload_n C.1 C.2.1 dX7_letter_6 rfl (lv_at hl 1 rfl) ?_
  refine lv_imul C.1 C.2.1 dX7_letter_7 ?_
  refine lv_iadd C.1 C.2.1 dX7_letter_8 ?_
  refine lv_iload_n C.1 C.2.1 dX7_letter_9 rfl (lv_at hl 2 rfl) ?_
  refine lv_iadd C.1 C.2.1 dX7_letter_10 ?_
  refine a_ild C kd_118 S ln_118 h.1 dX7_letter_11 ?_
  replace h := h.2
  exact hR _ _ _ _ _ _ dX7_letter_12 h S
/-! X7_wordLength -/
abbrev rm_X7_wordLength : Room := { frames := 1, cells := 0, slots := 0, locals := 22 }
def BX7_wordLength_2 (x1 : Int32) (post : Int32 → Sg → Prop) : Nat → Int32 → Sg → Prop
  | 0, _, _ => False
  | n + 1, x2, σ => ((((3 : Int32) ≤ x2) → post x2 σ) ∧ ((¬ (3 : Int32) ≤ x2) → wpX7_letter x1 x2 σ (fun r3 σ2 => (((r3 = 0) → post x2 σ2) ∧ ((¬ r3 = 0) → BX7_wordLength_2 x1 post n ((x2 + 1)) σ2)))))
def wpX7_wordLength (x1 : Int32) (σ : Sg) (post : Int32 → Sg → Prop) : Prop := ∃ nf, BX7_wordLength_2 x1 post nf ((0 : Int32)) σ
set_option maxHeartbeats 4000000 in
set_option maxRecDepth 100000 in
theorem TX7_wordLength_2 (C : s_C G p s args m c RX7 cX7_wordLength) (hml : c.maxLocals = 3) (hcs : cells ≤ (rm_X7_wordLength).cells ∧ slots ≤ (rm_X7_wordLength).slots) {x1 : Int32} {post : Int32 → Sg → Prop} (hR : ∀ (r : Int32) (σ1 : Sg) (H : Heap) (locs : List Loc) (pc : Nat) (ls : Array Slot), decode cX7_wordLength pc = .ok (.ireturn, 1) → post r σ1 → s_St G σ1 H0 H locs → W p l e rm_X7_wordLength s m args below meth c H locs cells slots Q (F0 m pc ls [.int r])) : ∀ (n : Nat) (x2 : Int32), ∀ {σ : Sg} {H : Heap} {locs : List Loc} {ls : Array Slot}, s_St G σ H0 H locs → lv_has ls 3 [(0, .ref (G.2.2 + 117)), (1, .int x1), (2, .int x2)] → BX7_wordLength_2 x1 post n x2 σ → W p l e rm_X7_wordLength s m args below meth c H locs cells slots Q (F0 m 2 ls []) := by
  intro n
  induction n with
  | zero =>
    intro x2  σ H locs ls S hl h
    exact absurd h (fun h => h)
  | succ n ih0 =>
    have ih : ∀ (x2 : Int32), ∀ (σ : Sg) (H : Heap) (locs : List Loc) (ls : Array Slot), s_St G σ H0 H locs → lv_has ls 3 [(0, .ref (G.2.2 + 117)), (1, .int x1), (2, .int x2)] → BX7_wordLength_2 x1 post n x2 σ → W p l e rm_X7_wordLength s m args below meth c H locs cells slots Q (F0 m 2 ls []) := fun x2  _ _ _ _ => ih0 x2 
    intro x2  σ H locs ls S hl h
    refine lv_iload_n C.1 C.2.1 dX7_wordLength_2 rfl (lv_at hl 2 rfl) ?_
    refine lv_iconst (v := (3 : Int32)) C.1 C.2.1 dX7_wordLength_3 (by decide) ?_
    refine lv_icmp_ge (tgt := 22) C.1 C.2.1 dX7_wordLength_4 (by decide) (fun c1 => ?_) (fun c1 => ?_)
    · replace h := h.1 c1
      refine lv_iload_n C.1 C.2.1 dX7_wordLength_22 rfl (lv_at hl 2 rfl) ?_
      exact hR _ _ _ _ _ _ dX7_wordLength_23 h S
    · replace h := h.2 c1
      refine lv_aload_n C.1 C.2.1 dX7_wordLength_7 rfl (lv_at hl 0 rfl) ?_
      refine lv_iload_n C.1 C.2.1 dX7_wordLength_8 rfl (lv_at hl 1 rfl) ?_
      refine lv_iload_n C.1 C.2.1 dX7_wordLength_9 rfl (lv_at hl 2 rfl) ?_
      refine k_i (r_V (As := [.int x1, .int x2]) (rest := []) C hml (c_X7_letter l G x1 x2 σ _ h) kM_X7_letter im_X7_letter se_X7_letter ml_X7_67 ⟨rfl, rfl⟩ ⟨Nat.le_of_ble_eq_true rfl, Nat.le_of_ble_eq_true rfl⟩ hcs S kd_117 (by decide) (T := TX7) (N := 17) rfl rfl hl.1 rfl (Nat.le_of_ble_eq_true rfl) dX7_wordLength_10) S (fun r3 σ2 H locs h S => ?_)
      refine lv_if_eq (tgt := 22) C.1 C.2.1 dX7_wordLength_13 (by decide) (fun c4 => ?_) (fun c4 => ?_)
      · replace h := h.1 c4
        refine lv_iload_n C.1 C.2.1 dX7_wordLength_22 rfl (lv_at hl 2 rfl) ?_
        exact hR _ _ _ _ _ _ dX7_wordLength_23 h S
      · replace h := h.2 c4
        refine lv_iinc (v := (x2 + 1)) (lv' := [(2, .int (x2 + 1)), (0, .ref (G.2.2 + 117)), (1, .int x1)]) C.1 C.2.1 dX7_wordLength_16 hl (k := 2) rfl rfl (by decide) rfl (fun ls hl => ?_)
        refine lv_goto (tgt := 2) C.1 C.2.1 dX7_wordLength_19 (by decide) ?_
        exact ih ((x2 + 1)) _ _ _ _ S (lv_sub hl [1, 2, 0] rfl) h
theorem kM_X7_wordLength : s_M yX7_wordLength cX7_wordLength 3 (some .int) 1 := ⟨co_X7_wordLength, in_X7, by decide, by decide, by decide +kernel⟩
set_option maxHeartbeats 4000000 in
set_option maxRecDepth 100000 in
theorem c_X7_wordLength (l : Launch) (G : s_G) (x1 : Int32) (σ : Sg) (post : Int32 → Sg → Prop) (h : wpX7_wordLength x1 σ post) : Met l yX7_wordLength (wsU yX7_wordLength cX7_wordLength 3 (some .int)) rm_X7_wordLength (va_Pc [.ref (G.2.2 + 117), .int x1] (s_Pre G σ)) (va_Qi post (s_B G) (s_A G.2.2)) 0 0 (s_A G.2.2) := by
  refine Met.ofW (cc := cX7_wordLength) (maxL := 3) (ret := (some .int)) (by decide) rfl ?_
  intro p e s m args below meth c s₁ B hml hv
  obtain ⟨rfl, hP, hrok, hK, hN⟩ := hv
  have C : s_C G p s (([.ref (G.2.2 + 117), .int x1] : List Value).toArray) m c RX7 cX7_wordLength := ⟨B.exec, B.bytes, findClass_of_methodNamed B.named, fun w hw => atoms_spec (ws := wsU yX7_wordLength cX7_wordLength 3 (some .int)) B.pre w (List.mem_cons_of_mem _ hw), hK, hN⟩
  have hr := B.returns
  have hlocks := B.notSynchronized
  have S : s_St G σ s.heap s.heap [] := ⟨hP, va_S.rf, hrok⟩
  have hcs : 0 ≤ (rm_X7_wordLength).cells ∧ 0 ≤ (rm_X7_wordLength).slots := ⟨Nat.le_refl 0, Nat.le_refl 0⟩
  have hR : ∀ (r : Int32) (σ1 : Sg) (H : Heap) (locs : List Loc) (pc : Nat) (ls : Array Slot), decode cX7_wordLength pc = .ok (.ireturn, 1) → post r σ1 → s_St G σ1 s.heap H locs → W p l e rm_X7_wordLength s m ([.ref (G.2.2 + 117), .int x1] : List Value).toArray below meth c H locs 0 0 (MQ below (va_Qi post (s_B G) (s_A G.2.2)) ([.ref (G.2.2 + 117), .int x1] : List Value).toArray s 0 0 (s_A G.2.2)) (F0 m pc ls [.int r]) := fun _ _ _ _ _ _ hd hp S => ret_i C hr hlocks hd hp S
  have hl := lv_entry ([.ref (G.2.2 + 117), .int x1]) (n := 3) (Nat.le_of_ble_eq_true rfl)
  rw [lg_entry_eq]
  generalize (lg_sl ([.ref (G.2.2 + 117), .int x1]) ++ List.replicate (3 - (lg_sl ([.ref (G.2.2 + 117), .int x1])).length) Slot.unset).toArray = ls at hl ⊢
  have hl : lv_has ls 3 [(0, .ref (G.2.2 + 117)), (1, .int x1)] := hl
  unfold wpX7_wordLength at h
  refine lv_iconst (v := (0 : Int32)) C.1 C.2.1 dX7_wordLength_0 (by decide) ?_
  refine lv_istore_n (lv' := [(2, .int (0 : Int32)), (0, .ref (G.2.2 + 117)), (1, .int x1)]) C.1 C.2.1 dX7_wordLength_1 rfl hl (by decide) rfl (fun ls hl => ?_)
  obtain ⟨nf, h⟩ := h
  exact TX7_wordLength_2 C hml hcs hR nf ((0 : Int32)) S (lv_sub hl [1, 2, 0] rfl) h
/-! X7_begins -/
abbrev rm_X7_begins : Room := { frames := 2, cells := 0, slots := 0, locals := 44 }
def BX7_begins_27 (x1 : Int32) (x2 : Int32) (post : Int32 → Sg → Prop) : Nat → Int32 → Int32 → Sg → Prop
  | 0, _, _, _ => False
  | n + 1, x3, x4, σ => wpX7_wordLength x1 σ (fun r2 σ1 => (((r2 ≤ x4) → (narrow .boolean (.int x3) = .int x3 ∧ post x3 σ1)) ∧ ((¬ r2 ≤ x4) → (((x3 = 0) → (narrow .boolean (.int x3) = .int x3 ∧ post x3 σ1)) ∧ ((¬ x3 = 0) → wpX7_letter x1 x4 σ1 (fun r6 σ5 => wpX7_letter x2 x4 σ5 (fun r8 σ7 => (((¬ r6 = r8) → BX7_begins_27 x1 x2 post n ((0 : Int32)) ((x4 + 1)) σ7) ∧ ((r6 = r8) → BX7_begins_27 x1 x2 post n ((1 : Int32)) ((x4 + 1)) σ7)))))))))
def wpX7_begins (x1 : Int32) (x2 : Int32) (σ : Sg) (post : Int32 → Sg → Prop) : Prop := (((x1 = x2) → ∃ nf, BX7_begins_27 x1 x2 post nf ((0 : Int32)) ((0 : Int32)) σ) ∧ ((¬ x1 = x2) → wpX7_wordLength x1 σ (fun r12 σ11 => wpX7_wordLength x2 σ11 (fun r14 σ13 => (((r14 < r12) → ∃ nf, BX7_begins_27 x1 x2 post nf ((0 : Int32)) ((0 : Int32)) σ13) ∧ ((¬ r14 < r12) → ∃ nf, BX7_begins_27 x1 x2 post nf ((1 : Int32)) ((0 : Int32)) σ13))))))
set_option maxHeartbeats 4000000 in
set_option maxRecDepth 100000 in
theorem TX7_begins_27 (C : s_C G p s args m c RX7 cX7_begins) (hml : c.maxLocals = 5) (hcs : cells ≤ (rm_X7_begins).cells ∧ slots ≤ (rm_X7_begins).slots) {x1 : Int32} {x2 : Int32} {post : Int32 → Sg → Prop} (hR : ∀ (r : Int32) (σ1 : Sg) (H : Heap) (locs : List Loc) (pc : Nat) (ls : Array Slot), decode cX7_begins pc = .ok (.ireturn, 1) → narrow .boolean (.int r) = .int r → post r σ1 → s_St G σ1 H0 H locs → W p l e rm_X7_begins s m args below meth c H locs cells slots Q (F0 m pc ls [.int r])) : ∀ (n : Nat) (x3 : Int32) (x4 : Int32), ∀ {σ : Sg} {H : Heap} {locs : List Loc} {ls : Array Slot}, s_St G σ H0 H locs → lv_has ls 5 [(0, .ref (G.2.2 + 117)), (1, .int x1), (2, .int x2), (3, .int x3), (4, .int x4)] → BX7_begins_27 x1 x2 post n x3 x4 σ → W p l e rm_X7_begins s m args below meth c H locs cells slots Q (F0 m 27 ls []) := by
  intro n
  induction n with
  | zero =>
    intro x3 x4  σ H locs ls S hl h
    exact absurd h (fun h => h)
  | succ n ih0 =>
    have ih : ∀ (x3 : Int32) (x4 : Int32), ∀ (σ : Sg) (H : Heap) (locs : List Loc) (ls : Array Slot), s_St G σ H0 H locs → lv_has ls 5 [(0, .ref (G.2.2 + 117)), (1, .int x1), (2, .int x2), (3, .int x3), (4, .int x4)] → BX7_begins_27 x1 x2 post n x3 x4 σ → W p l e rm_X7_begins s m args below meth c H locs cells slots Q (F0 m 27 ls []) := fun x3 x4  _ _ _ _ => ih0 x3 x4 
    intro x3 x4  σ H locs ls S hl h
    refine lv_iload C.1 C.2.1 dX7_begins_27 (lv_at hl 4 rfl) ?_
    refine lv_aload_n C.1 C.2.1 dX7_begins_29 rfl (lv_at hl 0 rfl) ?_
    refine lv_iload_n C.1 C.2.1 dX7_begins_30 rfl (lv_at hl 1 rfl) ?_
    refine k_i (r_V (As := [.int x1]) (rest := [.int x4]) C hml (c_X7_wordLength l G x1 σ _ h) kM_X7_wordLength im_X7_wordLength se_X7_wordLength ml_X7_71 ⟨rfl, rfl⟩ ⟨Nat.le_of_ble_eq_true rfl, Nat.le_of_ble_eq_true rfl⟩ hcs S kd_117 (by decide) (T := TX7) (N := 17) rfl rfl hl.1 rfl (Nat.le_of_ble_eq_true rfl) dX7_begins_31) S (fun r2 σ1 H locs h S => ?_)
    refine lv_icmp_ge (tgt := 70) C.1 C.2.1 dX7_begins_34 (by decide) (fun c3 => ?_) (fun c3 => ?_)
    · replace h := h.1 c3
      refine lv_iload_n C.1 C.2.1 dX7_begins_70 rfl (lv_at hl 3 rfl) ?_
      exact hR _ _ _ _ _ _ dX7_begins_71 h.1 h.2 S
    · replace h := h.2 c3
      refine lv_iload_n C.1 C.2.1 dX7_begins_37 rfl (lv_at hl 3 rfl) ?_
      refine lv_if_eq (tgt := 70) C.1 C.2.1 dX7_begins_38 (by decide) (fun c4 => ?_) (fun c4 => ?_)
      · replace h := h.1 c4
        refine lv_iload_n C.1 C.2.1 dX7_begins_70 rfl (lv_at hl 3 rfl) ?_
        exact hR _ _ _ _ _ _ dX7_begins_71 h.1 h.2 S
      · replace h := h.2 c4
        refine lv_aload_n C.1 C.2.1 dX7_begins_41 rfl (lv_at hl 0 rfl) ?_
        refine lv_iload_n C.1 C.2.1 dX7_begins_42 rfl (lv_at hl 1 rfl) ?_
        refine lv_iload C.1 C.2.1 dX7_begins_43 (lv_at hl 4 rfl) ?_
        refine k_i (r_V (As := [.int x1, .int x4]) (rest := []) C hml (c_X7_letter l G x1 x4 σ1 _ h) kM_X7_letter im_X7_letter se_X7_letter ml_X7_67 ⟨rfl, rfl⟩ ⟨Nat.le_of_ble_eq_true rfl, Nat.le_of_ble_eq_true rfl⟩ hcs S kd_117 (by decide) (T := TX7) (N := 17) rfl rfl hl.1 rfl (Nat.le_of_ble_eq_true rfl) dX7_begins_45) S (fun r6 σ5 H locs h S => ?_)
        refine lv_aload_n C.1 C.2.1 dX7_begins_48 rfl (lv_at hl 0 rfl) ?_
        refine lv_iload_n C.1 C.2.1 dX7_begins_49 rfl (lv_at hl 2 rfl) ?_
        refine lv_iload C.1 C.2.1 dX7_begins_50 (lv_at hl 4 rfl) ?_
        refine k_i (r_V (As := [.int x2, .int x4]) (rest := [.int r6]) C hml (c_X7_letter l G x2 x4 σ5 _ h) kM_X7_letter im_X7_letter se_X7_letter ml_X7_67 ⟨rfl, rfl⟩ ⟨Nat.le_of_ble_eq_true rfl, Nat.le_of_ble_eq_true rfl⟩ hcs S kd_117 (by decide) (T := TX7) (N := 17) rfl rfl hl.1 rfl (Nat.le_of_ble_eq_true rfl) dX7_begins_52) S (fun r8 σ7 H locs h S => ?_)
        refine lv_icmp_ne (tgt := 62) C.1 C.2.1 dX7_begins_55 (by decide) (fun c9 => ?_) (fun c9 => ?_)
        · replace h := h.1 c9
          refine lv_iconst (v := (0 : Int32)) C.1 C.2.1 dX7_begins_62 (by decide) ?_
          refine lv_istore_n (lv' := [(3, .int (0 : Int32)), (0, .ref (G.2.2 + 117)), (1, .int x1), (2, .int x2), (4, .int x4)]) C.1 C.2.1 dX7_begins_63 rfl hl (by decide) rfl (fun ls hl => ?_)
          refine lv_iinc (v := (x4 + 1)) (lv' := [(4, .int (x4 + 1)), (3, .int (0 : Int32)), (0, .ref (G.2.2 + 117)), (1, .int x1), (2, .int x2)]) C.1 C.2.1 dX7_begins_64 hl (k := 4) rfl rfl (by decide) rfl (fun ls hl => ?_)
          refine lv_goto (tgt := 27) C.1 C.2.1 dX7_begins_67 (by decide) ?_
          exact ih ((0 : Int32)) ((x4 + 1)) _ _ _ _ S (lv_sub hl [2, 3, 4, 1, 0] rfl) h
        · replace h := h.2 c9
          refine lv_iconst (v := (1 : Int32)) C.1 C.2.1 dX7_begins_58 (by decide) ?_
          refine lv_goto (tgt := 63) C.1 C.2.1 dX7_begins_59 (by decide) ?_
          refine lv_istore_n (lv' := [(3, .int (1 : Int32)), (0, .ref (G.2.2 + 117)), (1, .int x1), (2, .int x2), (4, .int x4)]) C.1 C.2.1 dX7_begins_63 rfl hl (by decide) rfl (fun ls hl => ?_)
          refine lv_iinc (v := (x4 + 1)) (lv' := [(4, .int (x4 + 1)), (3, .int (1 : Int32)), (0, .ref (G.2.2 + 117)), (1, .int x1), (2, .int x2)]) C.1 C.2.1 dX7_begins_64 hl (k := 4) rfl rfl (by decide) rfl (fun ls hl => ?_)
          refine lv_goto (tgt := 27) C.1 C.2.1 dX7_begins_67 (by decide) ?_
          exact ih ((1 : Int32)) ((x4 + 1)) _ _ _ _ S (lv_sub hl [2, 3, 4, 1, 0] rfl) h
theorem kM_X7_begins : s_M yX7_begins cX7_begins 5 (some .boolean) 2 := ⟨co_X7_begins, in_X7, by decide, by decide, by decide +kernel⟩
set_option maxHeartbeats 4000000 in
set_option maxRecDepth 100000 in
theorem c_X7_begins (l : Launch) (G : s_G) (x1 : Int32) (x2 : Int32) (σ : Sg) (post : Int32 → Sg → Prop) (h : wpX7_begins x1 x2 σ post) : Met l yX7_begins (wsU yX7_begins cX7_begins 5 (some .boolean)) rm_X7_begins (va_Pc [.ref (G.2.2 + 117), .int x1, .int x2] (s_Pre G σ)) (va_Qi post (s_B G) (s_A G.2.2)) 0 0 (s_A G.2.2) := by
  refine Met.ofW (cc := cX7_begins) (maxL := 5) (ret := (some .boolean)) (by decide) rfl ?_
  intro p e s m args below meth c s₁ B hml hv
  obtain ⟨rfl, hP, hrok, hK, hN⟩ := hv
  have C : s_C G p s (([.ref (G.2.2 + 117), .int x1, .int x2] : List Value).toArray) m c RX7 cX7_begins := ⟨B.exec, B.bytes, findClass_of_methodNamed B.named, fun w hw => atoms_spec (ws := wsU yX7_begins cX7_begins 5 (some .boolean)) B.pre w (List.mem_cons_of_mem _ hw), hK, hN⟩
  have hr := B.returns
  have hlocks := B.notSynchronized
  have S : s_St G σ s.heap s.heap [] := ⟨hP, va_S.rf, hrok⟩
  have hcs : 0 ≤ (rm_X7_begins).cells ∧ 0 ≤ (rm_X7_begins).slots := ⟨Nat.le_refl 0, Nat.le_refl 0⟩
  have hR : ∀ (r : Int32) (σ1 : Sg) (H : Heap) (locs : List Loc) (pc : Nat) (ls : Array Slot), decode cX7_begins pc = .ok (.ireturn, 1) → narrow .boolean (.int r) = .int r → post r σ1 → s_St G σ1 s.heap H locs → W p l e rm_X7_begins s m ([.ref (G.2.2 + 117), .int x1, .int x2] : List Value).toArray below meth c H locs 0 0 (MQ below (va_Qi post (s_B G) (s_A G.2.2)) ([.ref (G.2.2 + 117), .int x1, .int x2] : List Value).toArray s 0 0 (s_A G.2.2)) (F0 m pc ls [.int r]) := fun _ _ _ _ _ _ hd hn hp S => ret_z C hr hlocks hd hn hp S
  have hl := lv_entry ([.ref (G.2.2 + 117), .int x1, .int x2]) (n := 5) (Nat.le_of_ble_eq_true rfl)
  rw [lg_entry_eq]
  generalize (lg_sl ([.ref (G.2.2 + 117), .int x1, .int x2]) ++ List.replicate (5 - (lg_sl ([.ref (G.2.2 + 117), .int x1, .int x2])).length) Slot.unset).toArray = ls at hl ⊢
  have hl : lv_has ls 5 [(0, .ref (G.2.2 + 117)), (1, .int x1), (2, .int x2)] := hl
  unfold wpX7_begins at h
  refine lv_iload_n C.1 C.2.1 dX7_begins_0 rfl (lv_at hl 1 rfl) ?_
  refine lv_iload_n C.1 C.2.1 dX7_begins_1 rfl (lv_at hl 2 rfl) ?_
  refine lv_icmp_eq (tgt := 22) C.1 C.2.1 dX7_begins_2 (by decide) (fun c10 => ?_) (fun c10 => ?_)
  · replace h := h.1 c10
    refine lv_iconst (v := (0 : Int32)) C.1 C.2.1 dX7_begins_22 (by decide) ?_
    refine lv_istore_n (lv' := [(3, .int (0 : Int32)), (0, .ref (G.2.2 + 117)), (1, .int x1), (2, .int x2)]) C.1 C.2.1 dX7_begins_23 rfl hl (by decide) rfl (fun ls hl => ?_)
    refine lv_iconst (v := (0 : Int32)) C.1 C.2.1 dX7_begins_24 (by decide) ?_
    refine lv_istore (lv' := [(4, .int (0 : Int32)), (3, .int (0 : Int32)), (0, .ref (G.2.2 + 117)), (1, .int x1), (2, .int x2)]) C.1 C.2.1 dX7_begins_25 hl (by decide) rfl (fun ls hl => ?_)
    obtain ⟨nf, h⟩ := h
    exact TX7_begins_27 C hml hcs hR nf ((0 : Int32)) ((0 : Int32)) S (lv_sub hl [2, 3, 4, 1, 0] rfl) h
  · replace h := h.2 c10
    refine lv_aload_n C.1 C.2.1 dX7_begins_5 rfl (lv_at hl 0 rfl) ?_
    refine lv_iload_n C.1 C.2.1 dX7_begins_6 rfl (lv_at hl 1 rfl) ?_
    refine k_i (r_V (As := [.int x1]) (rest := []) C hml (c_X7_wordLength l G x1 σ _ h) kM_X7_wordLength im_X7_wordLength se_X7_wordLength ml_X7_71 ⟨rfl, rfl⟩ ⟨Nat.le_of_ble_eq_true rfl, Nat.le_of_ble_eq_true rfl⟩ hcs S kd_117 (by decide) (T := TX7) (N := 17) rfl rfl hl.1 rfl (Nat.le_of_ble_eq_true rfl) dX7_begins_7) S (fun r12 σ11 H locs h S => ?_)
    refine lv_aload_n C.1 C.2.1 dX7_begins_10 rfl (lv_at hl 0 rfl) ?_
    refine lv_iload_n C.1 C.2.1 dX7_begins_11 rfl (lv_at hl 2 rfl) ?_
    refine k_i (r_V (As := [.int x2]) (rest := [.int r12]) C hml (c_X7_wordLength l G x2 σ11 _ h) kM_X7_wordLength im_X7_wordLength se_X7_wordLength ml_X7_71 ⟨rfl, rfl⟩ ⟨Nat.le_of_ble_eq_true rfl, Nat.le_of_ble_eq_true rfl⟩ hcs S kd_117 (by decide) (T := TX7) (N := 17) rfl rfl hl.1 rfl (Nat.le_of_ble_eq_true rfl) dX7_begins_12) S (fun r14 σ13 H locs h S => ?_)
    refine lv_icmp_gt (tgt := 22) C.1 C.2.1 dX7_begins_15 (by decide) (fun c15 => ?_) (fun c15 => ?_)
    · replace h := h.1 c15
      refine lv_iconst (v := (0 : Int32)) C.1 C.2.1 dX7_begins_22 (by decide) ?_
      refine lv_istore_n (lv' := [(3, .int (0 : Int32)), (0, .ref (G.2.2 + 117)), (1, .int x1), (2, .int x2)]) C.1 C.2.1 dX7_begins_23 rfl hl (by decide) rfl (fun ls hl => ?_)
      refine lv_iconst (v := (0 : Int32)) C.1 C.2.1 dX7_begins_24 (by decide) ?_
      refine lv_istore (lv' := [(4, .int (0 : Int32)), (3, .int (0 : Int32)), (0, .ref (G.2.2 + 117)), (1, .int x1), (2, .int x2)]) C.1 C.2.1 dX7_begins_25 hl (by decide) rfl (fun ls hl => ?_)
      obtain ⟨nf, h⟩ := h
      exact TX7_begins_27 C hml hcs hR nf ((0 : Int32)) ((0 : Int32)) S (lv_sub hl [2, 3, 4, 1, 0] rfl) h
    · replace h := h.2 c15
      refine lv_iconst (v := (1 : Int32)) C.1 C.2.1 dX7_begins_18 (by decide) ?_
      refine lv_goto (tgt := 23) C.1 C.2.1 dX7_begins_19 (by decide) ?_
      refine lv_istore_n (lv' := [(3, .int (1 : Int32)), (0, .ref (G.2.2 + 117)), (1, .int x1), (2, .int x2)]) C.1 C.2.1 dX7_begins_23 rfl hl (by decide) rfl (fun ls hl => ?_)
      refine lv_iconst (v := (0 : Int32)) C.1 C.2.1 dX7_begins_24 (by decide) ?_
      refine lv_istore (lv' := [(4, .int (0 : Int32)), (3, .int (1 : Int32)), (0, .ref (G.2.2 + 117)), (1, .int x1), (2, .int x2)]) C.1 C.2.1 dX7_begins_25 hl (by decide) rfl (fun ls hl => ?_)
      obtain ⟨nf, h⟩ := h
      exact TX7_begins_27 C hml hcs hR nf ((1 : Int32)) ((0 : Int32)) S (lv_sub hl [2, 3, 4, 1, 0] rfl) h
/-! X7_clashing -/
abbrev rm_X7_clashing : Room := { frames := 3, cells := 0, slots := 0, locals := 68 }
def BX7_clashing_4 (x1 : Int32) (post : Int32 → Sg → Prop) : Nat → Int32 → Int32 → Sg → Prop
  | 0, _, _, _ => False
  | n + 1, x2, x3, σ => (vp_in ((0 : Int32)) 50 ∧ ((((σ.1 118 ((0 : Int32)).toNatClampNeg) ≤ x3) → post x2 σ) ∧ ((¬ (σ.1 118 ((0 : Int32)).toNatClampNeg) ≤ x3) → wpX7_begins x1 x3 σ (fun r3 σ2 => (((¬ r3 = 0) → BX7_clashing_4 x1 post n ((x2 ||| ((1 : Int32) <<< (x3 &&& 31)))) ((x3 + 1)) σ2) ∧ ((r3 = 0) → wpX7_begins x3 x1 σ2 (fun r6 σ5 => (((r6 = 0) → BX7_clashing_4 x1 post n ((x2 ||| (0 : Int32))) ((x3 + 1)) σ5) ∧ ((¬ r6 = 0) → BX7_clashing_4 x1 post n ((x2 ||| ((1 : Int32) <<< (x3 &&& 31)))) ((x3 + 1)) σ5)))))))))
def wpX7_clashing (x1 : Int32) (σ : Sg) (post : Int32 → Sg → Prop) : Prop := ∃ nf, BX7_clashing_4 x1 post nf ((0 : Int32)) ((0 : Int32)) σ
set_option maxHeartbeats 4000000 in
set_option maxRecDepth 100000 in
theorem TX7_clashing_4 (C : s_C G p s args m c RX7 cX7_clashing) (hml : c.maxLocals = 4) (hcs : cells ≤ (rm_X7_clashing).cells ∧ slots ≤ (rm_X7_clashing).slots) {x1 : Int32} {post : Int32 → Sg → Prop} (hR : ∀ (r : Int32) (σ1 : Sg) (H : Heap) (locs : List Loc) (pc : Nat) (ls : Array Slot), decode cX7_clashing pc = .ok (.ireturn, 1) → post r σ1 → s_St G σ1 H0 H locs → W p l e rm_X7_clashing s m args below meth c H locs cells slots Q (F0 m pc ls [.int r])) : ∀ (n : Nat) (x2 : Int32) (x3 : Int32), ∀ {σ : Sg} {H : Heap} {locs : List Loc} {ls : Array Slot}, s_St G σ H0 H locs → lv_has ls 4 [(0, .ref (G.2.2 + 117)), (1, .int x1), (2, .int x2), (3, .int x3)] → BX7_clashing_4 x1 post n x2 x3 σ → W p l e rm_X7_clashing s m args below meth c H locs cells slots Q (F0 m 4 ls []) := by
  intro n
  induction n with
  | zero =>
    intro x2 x3  σ H locs ls S hl h
    exact absurd h (fun h => h)
  | succ n ih0 =>
    have ih : ∀ (x2 : Int32) (x3 : Int32), ∀ (σ : Sg) (H : Heap) (locs : List Loc) (ls : Array Slot), s_St G σ H0 H locs → lv_has ls 4 [(0, .ref (G.2.2 + 117)), (1, .int x1), (2, .int x2), (3, .int x3)] → BX7_clashing_4 x1 post n x2 x3 σ → W p l e rm_X7_clashing s m args below meth c H locs cells slots Q (F0 m 4 ls []) := fun x2 x3  _ _ _ _ => ih0 x2 x3 
    intro x2 x3  σ H locs ls S hl h
    refine lv_iload_n C.1 C.2.1 dX7_clashing_4 rfl (lv_at hl 3 rfl) ?_
    refine lv_aload_n C.1 C.2.1 dX7_clashing_5 rfl (lv_at hl 0 rfl) ?_
    refine g_X7_0 C fl_X7_7 kd_117 S fn_117_0 dX7_clashing_6 ?_
    refine lv_iconst (v := (0 : Int32)) C.1 C.2.1 dX7_clashing_9 (by decide) ?_
    refine a_ild C kd_118 S ln_118 h.1 dX7_clashing_10 ?_
    replace h := h.2
    refine lv_icmp_ge (tgt := 48) C.1 C.2.1 dX7_clashing_11 (by decide) (fun c1 => ?_) (fun c1 => ?_)
    · replace h := h.1 c1
      refine lv_iload_n C.1 C.2.1 dX7_clashing_48 rfl (lv_at hl 2 rfl) ?_
      exact hR _ _ _ _ _ _ dX7_clashing_49 h S
    · replace h := h.2 c1
      refine lv_iload_n C.1 C.2.1 dX7_clashing_14 rfl (lv_at hl 2 rfl) ?_
      refine lv_aload_n C.1 C.2.1 dX7_clashing_15 rfl (lv_at hl 0 rfl) ?_
      refine lv_iload_n C.1 C.2.1 dX7_clashing_16 rfl (lv_at hl 1 rfl) ?_
      refine lv_iload_n C.1 C.2.1 dX7_clashing_17 rfl (lv_at hl 3 rfl) ?_
      refine k_i (r_V (As := [.int x1, .int x3]) (rest := [.int x2]) C hml (c_X7_begins l G x1 x3 σ _ h) kM_X7_begins im_X7_begins se_X7_begins ml_X7_106 ⟨rfl, rfl⟩ ⟨Nat.le_of_ble_eq_true rfl, Nat.le_of_ble_eq_true rfl⟩ hcs S kd_117 (by decide) (T := TX7) (N := 17) rfl rfl hl.1 rfl (Nat.le_of_ble_eq_true rfl) dX7_clashing_18) S (fun r3 σ2 H locs h S => ?_)
      refine lv_if_ne (tgt := 33) C.1 C.2.1 dX7_clashing_21 (by decide) (fun c4 => ?_) (fun c4 => ?_)
      · replace h := h.1 c4
        refine lv_iconst (v := (1 : Int32)) C.1 C.2.1 dX7_clashing_33 (by decide) ?_
        refine lv_iload_n C.1 C.2.1 dX7_clashing_34 rfl (lv_at hl 3 rfl) ?_
        refine lv_ishl C.1 C.2.1 dX7_clashing_35 ?_
        refine lv_goto (tgt := 40) C.1 C.2.1 dX7_clashing_36 (by decide) ?_
        refine lv_ior C.1 C.2.1 dX7_clashing_40 ?_
        refine lv_istore_n (lv' := [(2, .int (x2 ||| ((1 : Int32) <<< (x3 &&& 31)))), (0, .ref (G.2.2 + 117)), (1, .int x1), (3, .int x3)]) C.1 C.2.1 dX7_clashing_41 rfl hl (by decide) rfl (fun ls hl => ?_)
        refine lv_iinc (v := (x3 + 1)) (lv' := [(3, .int (x3 + 1)), (2, .int (x2 ||| ((1 : Int32) <<< (x3 &&& 31)))), (0, .ref (G.2.2 + 117)), (1, .int x1)]) C.1 C.2.1 dX7_clashing_42 hl (k := 3) rfl rfl (by decide) rfl (fun ls hl => ?_)
        refine lv_goto (tgt := 4) C.1 C.2.1 dX7_clashing_45 (by decide) ?_
        exact ih ((x2 ||| ((1 : Int32) <<< (x3 &&& 31)))) ((x3 + 1)) _ _ _ _ S (lv_sub hl [2, 3, 1, 0] rfl) h
      · replace h := h.2 c4
        refine lv_aload_n C.1 C.2.1 dX7_clashing_24 rfl (lv_at hl 0 rfl) ?_
        refine lv_iload_n C.1 C.2.1 dX7_clashing_25 rfl (lv_at hl 3 rfl) ?_
        refine lv_iload_n C.1 C.2.1 dX7_clashing_26 rfl (lv_at hl 1 rfl) ?_
        refine k_i (r_V (As := [.int x3, .int x1]) (rest := [.int x2]) C hml (c_X7_begins l G x3 x1 σ2 _ h) kM_X7_begins im_X7_begins se_X7_begins ml_X7_106 ⟨rfl, rfl⟩ ⟨Nat.le_of_ble_eq_true rfl, Nat.le_of_ble_eq_true rfl⟩ hcs S kd_117 (by decide) (T := TX7) (N := 17) rfl rfl hl.1 rfl (Nat.le_of_ble_eq_true rfl) dX7_clashing_27) S (fun r6 σ5 H locs h S => ?_)
        refine lv_if_eq (tgt := 39) C.1 C.2.1 dX7_clashing_30 (by decide) (fun c7 => ?_) (fun c7 => ?_)
        · replace h := h.1 c7
          refine lv_iconst (v := (0 : Int32)) C.1 C.2.1 dX7_clashing_39 (by decide) ?_
          refine lv_ior C.1 C.2.1 dX7_clashing_40 ?_
          refine lv_istore_n (lv' := [(2, .int (x2 ||| (0 : Int32))), (0, .ref (G.2.2 + 117)), (1, .int x1), (3, .int x3)]) C.1 C.2.1 dX7_clashing_41 rfl hl (by decide) rfl (fun ls hl => ?_)
          refine lv_iinc (v := (x3 + 1)) (lv' := [(3, .int (x3 + 1)), (2, .int (x2 ||| (0 : Int32))), (0, .ref (G.2.2 + 117)), (1, .int x1)]) C.1 C.2.1 dX7_clashing_42 hl (k := 3) rfl rfl (by decide) rfl (fun ls hl => ?_)
          refine lv_goto (tgt := 4) C.1 C.2.1 dX7_clashing_45 (by decide) ?_
          exact ih ((x2 ||| (0 : Int32))) ((x3 + 1)) _ _ _ _ S (lv_sub hl [2, 3, 1, 0] rfl) h
        · replace h := h.2 c7
          refine lv_iconst (v := (1 : Int32)) C.1 C.2.1 dX7_clashing_33 (by decide) ?_
          refine lv_iload_n C.1 C.2.1 dX7_clashing_34 rfl (lv_at hl 3 rfl) ?_
          refine lv_ishl C.1 C.2.1 dX7_clashing_35 ?_
          refine lv_goto (tgt := 40) C.1 C.2.1 dX7_clashing_36 (by decide) ?_
          refine lv_ior C.1 C.2.1 dX7_clashing_40 ?_
          refine lv_istore_n (lv' := [(2, .int (x2 ||| ((1 : Int32) <<< (x3 &&& 31)))), (0, .ref (G.2.2 + 117)), (1, .int x1), (3, .int x3)]) C.1 C.2.1 dX7_clashing_41 rfl hl (by decide) rfl (fun ls hl => ?_)
          refine lv_iinc (v := (x3 + 1)) (lv' := [(3, .int (x3 + 1)), (2, .int (x2 ||| ((1 : Int32) <<< (x3 &&& 31)))), (0, .ref (G.2.2 + 117)), (1, .int x1)]) C.1 C.2.1 dX7_clashing_42 hl (k := 3) rfl rfl (by decide) rfl (fun ls hl => ?_)
          refine lv_goto (tgt := 4) C.1 C.2.1 dX7_clashing_45 (by decide) ?_
          exact ih ((x2 ||| ((1 : Int32) <<< (x3 &&& 31)))) ((x3 + 1)) _ _ _ _ S (lv_sub hl [2, 3, 1, 0] rfl) h
theorem kM_X7_clashing : s_M yX7_clashing cX7_clashing 4 (some .int) 1 := ⟨co_X7_clashing, in_X7, by decide, by decide, by decide +kernel⟩
set_option maxHeartbeats 4000000 in
set_option maxRecDepth 100000 in
theorem c_X7_clashing (l : Launch) (G : s_G) (x1 : Int32) (σ : Sg) (post : Int32 → Sg → Prop) (h : wpX7_clashing x1 σ post) : Met l yX7_clashing (wsU yX7_clashing cX7_clashing 4 (some .int)) rm_X7_clashing (va_Pc [.ref (G.2.2 + 117), .int x1] (s_Pre G σ)) (va_Qi post (s_B G) (s_A G.2.2)) 0 0 (s_A G.2.2) := by
  refine Met.ofW (cc := cX7_clashing) (maxL := 4) (ret := (some .int)) (by decide) rfl ?_
  intro p e s m args below meth c s₁ B hml hv
  obtain ⟨rfl, hP, hrok, hK, hN⟩ := hv
  have C : s_C G p s (([.ref (G.2.2 + 117), .int x1] : List Value).toArray) m c RX7 cX7_clashing := ⟨B.exec, B.bytes, findClass_of_methodNamed B.named, fun w hw => atoms_spec (ws := wsU yX7_clashing cX7_clashing 4 (some .int)) B.pre w (List.mem_cons_of_mem _ hw), hK, hN⟩
  have hr := B.returns
  have hlocks := B.notSynchronized
  have S : s_St G σ s.heap s.heap [] := ⟨hP, va_S.rf, hrok⟩
  have hcs : 0 ≤ (rm_X7_clashing).cells ∧ 0 ≤ (rm_X7_clashing).slots := ⟨Nat.le_refl 0, Nat.le_refl 0⟩
  have hR : ∀ (r : Int32) (σ1 : Sg) (H : Heap) (locs : List Loc) (pc : Nat) (ls : Array Slot), decode cX7_clashing pc = .ok (.ireturn, 1) → post r σ1 → s_St G σ1 s.heap H locs → W p l e rm_X7_clashing s m ([.ref (G.2.2 + 117), .int x1] : List Value).toArray below meth c H locs 0 0 (MQ below (va_Qi post (s_B G) (s_A G.2.2)) ([.ref (G.2.2 + 117), .int x1] : List Value).toArray s 0 0 (s_A G.2.2)) (F0 m pc ls [.int r]) := fun _ _ _ _ _ _ hd hp S => ret_i C hr hlocks hd hp S
  have hl := lv_entry ([.ref (G.2.2 + 117), .int x1]) (n := 4) (Nat.le_of_ble_eq_true rfl)
  rw [lg_entry_eq]
  generalize (lg_sl ([.ref (G.2.2 + 117), .int x1]) ++ List.replicate (4 - (lg_sl ([.ref (G.2.2 + 117), .int x1])).length) Slot.unset).toArray = ls at hl ⊢
  have hl : lv_has ls 4 [(0, .ref (G.2.2 + 117)), (1, .int x1)] := hl
  unfold wpX7_clashing at h
  refine lv_iconst (v := (0 : Int32)) C.1 C.2.1 dX7_clashing_0 (by decide) ?_
  refine lv_istore_n (lv' := [(2, .int (0 : Int32)), (0, .ref (G.2.2 + 117)), (1, .int x1)]) C.1 C.2.1 dX7_clashing_1 rfl hl (by decide) rfl (fun ls hl => ?_)
  refine lv_iconst (v := (0 : Int32)) C.1 C.2.1 dX7_clashing_2 (by decide) ?_
  refine lv_istore_n (lv' := [(3, .int (0 : Int32)), (2, .int (0 : Int32)), (0, .ref (G.2.2 + 117)), (1, .int x1)]) C.1 C.2.1 dX7_clashing_3 rfl hl (by decide) rfl (fun ls hl => ?_)
  obtain ⟨nf, h⟩ := h
  exact TX7_clashing_4 C hml hcs hR nf ((0 : Int32)) ((0 : Int32)) S (lv_sub hl [2, 3, 1, 0] rfl) h
/-! X7_size -/
abbrev rm_X7_size : Room := { frames := 0, cells := 0, slots := 0, locals := 0 }
def BX7_size_4 (x0 : Int32) (post : Int32 → Sg → Prop) : Nat → Int32 → Int32 → Sg → Prop
  | 0, _, _, _ => False
  | n + 1, x1, x2, σ => ((((6 : Int32) ≤ x2) → post x1 σ) ∧ ((¬ (6 : Int32) ≤ x2) → BX7_size_4 x0 post n ((x1 + ((x0 >>> (x2 &&& 31)) &&& (1 : Int32)))) ((x2 + 1)) σ))
def wpX7_size (x0 : Int32) (σ : Sg) (post : Int32 → Sg → Prop) : Prop := ∃ nf, BX7_size_4 x0 post nf ((0 : Int32)) ((0 : Int32)) σ
set_option maxHeartbeats 4000000 in
set_option maxRecDepth 100000 in
theorem TX7_size_4 (C : s_C G p s args m c RX7 cX7_size) (hml : c.maxLocals = 3) (hcs : cells ≤ (rm_X7_size).cells ∧ slots ≤ (rm_X7_size).slots) {x0 : Int32} {post : Int32 → Sg → Prop} (hR : ∀ (r : Int32) (σ1 : Sg) (H : Heap) (locs : List Loc) (pc : Nat) (ls : Array Slot), decode cX7_size pc = .ok (.ireturn, 1) → post r σ1 → s_St G σ1 H0 H locs → W p l e rm_X7_size s m args below meth c H locs cells slots Q (F0 m pc ls [.int r])) : ∀ (n : Nat) (x1 : Int32) (x2 : Int32), ∀ {σ : Sg} {H : Heap} {locs : List Loc} {ls : Array Slot}, s_St G σ H0 H locs → lv_has ls 3 [(0, .int x0), (1, .int x1), (2, .int x2)] → BX7_size_4 x0 post n x1 x2 σ → W p l e rm_X7_size s m args below meth c H locs cells slots Q (F0 m 4 ls []) := by
  intro n
  induction n with
  | zero =>
    intro x1 x2  σ H locs ls S hl h
    exact absurd h (fun h => h)
  | succ n ih0 =>
    have ih : ∀ (x1 : Int32) (x2 : Int32), ∀ (σ : Sg) (H : Heap) (locs : List Loc) (ls : Array Slot), s_St G σ H0 H locs → lv_has ls 3 [(0, .int x0), (1, .int x1), (2, .int x2)] → BX7_size_4 x0 post n x1 x2 σ → W p l e rm_X7_size s m args below meth c H locs cells slots Q (F0 m 4 ls []) := fun x1 x2  _ _ _ _ => ih0 x1 x2 
    intro x1 x2  σ H locs ls S hl h
    refine lv_iload_n C.1 C.2.1 dX7_size_4 rfl (lv_at hl 2 rfl) ?_
    refine lv_bipush (v := (6 : Int32)) C.1 C.2.1 dX7_size_5 (by decide) ?_
    refine lv_icmp_ge (tgt := 24) C.1 C.2.1 dX7_size_7 (by decide) (fun c1 => ?_) (fun c1 => ?_)
    · replace h := h.1 c1
      refine lv_iload_n C.1 C.2.1 dX7_size_24 rfl (lv_at hl 1 rfl) ?_
      exact hR _ _ _ _ _ _ dX7_size_25 h S
    · replace h := h.2 c1
      refine lv_iload_n C.1 C.2.1 dX7_size_10 rfl (lv_at hl 1 rfl) ?_
      refine lv_iload_n C.1 C.2.1 dX7_size_11 rfl (lv_at hl 0 rfl) ?_
      refine lv_iload_n C.1 C.2.1 dX7_size_12 rfl (lv_at hl 2 rfl) ?_
      refine lv_ishr C.1 C.2.1 dX7_size_13 ?_
      refine lv_iconst (v := (1 : Int32)) C.1 C.2.1 dX7_size_14 (by decide) ?_
      refine lv_iand C.1 C.2.1 dX7_size_15 ?_
      refine lv_iadd C.1 C.2.1 dX7_size_16 ?_
      refine lv_istore_n (lv' := [(1, .int (x1 + ((x0 >>> (x2 &&& 31)) &&& (1 : Int32)))), (0, .int x0), (2, .int x2)]) C.1 C.2.1 dX7_size_17 rfl hl (by decide) rfl (fun ls hl => ?_)
      refine lv_iinc (v := (x2 + 1)) (lv' := [(2, .int (x2 + 1)), (1, .int (x1 + ((x0 >>> (x2 &&& 31)) &&& (1 : Int32)))), (0, .int x0)]) C.1 C.2.1 dX7_size_18 hl (k := 2) rfl rfl (by decide) rfl (fun ls hl => ?_)
      refine lv_goto (tgt := 4) C.1 C.2.1 dX7_size_21 (by decide) ?_
      exact ih ((x1 + ((x0 >>> (x2 &&& 31)) &&& (1 : Int32)))) ((x2 + 1)) _ _ _ _ S (lv_sub hl [2, 1, 0] rfl) h
theorem kM_X7_size : s_M yX7_size cX7_size 3 (some .int) 1 := ⟨co_X7_size, in_X7, by decide, by decide, by decide +kernel⟩
set_option maxHeartbeats 4000000 in
set_option maxRecDepth 100000 in
theorem c_X7_size (l : Launch) (G : s_G) (x0 : Int32) (σ : Sg) (post : Int32 → Sg → Prop) (h : wpX7_size x0 σ post) : Met l yX7_size (wsU yX7_size cX7_size 3 (some .int)) rm_X7_size (va_Pc [.int x0] (s_Pre G σ)) (va_Qi post (s_B G) (s_A G.2.2)) 0 0 (s_A G.2.2) := by
  refine Met.ofW (cc := cX7_size) (maxL := 3) (ret := (some .int)) (by decide) rfl ?_
  intro p e s m args below meth c s₁ B hml hv
  obtain ⟨rfl, hP, hrok, hK, hN⟩ := hv
  have C : s_C G p s (([.int x0] : List Value).toArray) m c RX7 cX7_size := ⟨B.exec, B.bytes, findClass_of_methodNamed B.named, fun w hw => atoms_spec (ws := wsU yX7_size cX7_size 3 (some .int)) B.pre w (List.mem_cons_of_mem _ hw), hK, hN⟩
  have hr := B.returns
  have hlocks := B.notSynchronized
  have S : s_St G σ s.heap s.heap [] := ⟨hP, va_S.rf, hrok⟩
  have hcs : 0 ≤ (rm_X7_size).cells ∧ 0 ≤ (rm_X7_size).slots := ⟨Nat.le_refl 0, Nat.le_refl 0⟩
  have hR : ∀ (r : Int32) (σ1 : Sg) (H : Heap) (locs : List Loc) (pc : Nat) (ls : Array Slot), decode cX7_size pc = .ok (.ireturn, 1) → post r σ1 → s_St G σ1 s.heap H locs → W p l e rm_X7_size s m ([.int x0] : List Value).toArray below meth c H locs 0 0 (MQ below (va_Qi post (s_B G) (s_A G.2.2)) ([.int x0] : List Value).toArray s 0 0 (s_A G.2.2)) (F0 m pc ls [.int r]) := fun _ _ _ _ _ _ hd hp S => ret_i C hr hlocks hd hp S
  have hl := lv_entry ([.int x0]) (n := 3) (Nat.le_of_ble_eq_true rfl)
  rw [lg_entry_eq]
  generalize (lg_sl ([.int x0]) ++ List.replicate (3 - (lg_sl ([.int x0])).length) Slot.unset).toArray = ls at hl ⊢
  have hl : lv_has ls 3 [(0, .int x0)] := hl
  unfold wpX7_size at h
  refine lv_iconst (v := (0 : Int32)) C.1 C.2.1 dX7_size_0 (by decide) ?_
  refine lv_istore_n (lv' := [(1, .int (0 : Int32)), (0, .int x0)]) C.1 C.2.1 dX7_size_1 rfl hl (by decide) rfl (fun ls hl => ?_)
  refine lv_iconst (v := (0 : Int32)) C.1 C.2.1 dX7_size_2 (by decide) ?_
  refine lv_istore_n (lv' := [(2, .int (0 : Int32)), (1, .int (0 : Int32)), (0, .int x0)]) C.1 C.2.1 dX7_size_3 rfl hl (by decide) rfl (fun ls hl => ?_)
  obtain ⟨nf, h⟩ := h
  exact TX7_size_4 C hml hcs hR nf ((0 : Int32)) ((0 : Int32)) S (lv_sub hl [2, 1, 0] rfl) h
/-! X7_clashes -/
abbrev rm_X7_clashes : Room := { frames := 4, cells := 0, slots := 0, locals := 91 }
def BX7_clashes_4  (post : Int32 → Sg → Prop) : Nat → Int32 → Int32 → Sg → Prop
  | 0, _, _, _ => False
  | n + 1, x1, x2, σ => (vp_in ((0 : Int32)) 50 ∧ ((((σ.1 118 ((0 : Int32)).toNatClampNeg) ≤ x2) → post ((x1 / (2 : Int32))) σ) ∧ ((¬ (σ.1 118 ((0 : Int32)).toNatClampNeg) ≤ x2) → wpX7_clashing x2 σ (fun r3 σ2 => wpX7_size r3 σ2 (fun r5 σ4 => BX7_clashes_4 post n ((x1 + r5)) ((x2 + 1)) σ4)))))
def wpX7_clashes  (σ : Sg) (post : Int32 → Sg → Prop) : Prop := ∃ nf, BX7_clashes_4 post nf ((0 : Int32)) ((0 : Int32)) σ
set_option maxHeartbeats 4000000 in
set_option maxRecDepth 100000 in
theorem TX7_clashes_4 (C : s_C G p s args m c RX7 cX7_clashes) (hml : c.maxLocals = 3) (hcs : cells ≤ (rm_X7_clashes).cells ∧ slots ≤ (rm_X7_clashes).slots)  {post : Int32 → Sg → Prop} (hR : ∀ (r : Int32) (σ1 : Sg) (H : Heap) (locs : List Loc) (pc : Nat) (ls : Array Slot), decode cX7_clashes pc = .ok (.ireturn, 1) → post r σ1 → s_St G σ1 H0 H locs → W p l e rm_X7_clashes s m args below meth c H locs cells slots Q (F0 m pc ls [.int r])) : ∀ (n : Nat) (x1 : Int32) (x2 : Int32), ∀ {σ : Sg} {H : Heap} {locs : List Loc} {ls : Array Slot}, s_St G σ H0 H locs → lv_has ls 3 [(0, .ref (G.2.2 + 117)), (1, .int x1), (2, .int x2)] → BX7_clashes_4 post n x1 x2 σ → W p l e rm_X7_clashes s m args below meth c H locs cells slots Q (F0 m 4 ls []) := by
  intro n
  induction n with
  | zero =>
    intro x1 x2  σ H locs ls S hl h
    exact absurd h (fun h => h)
  | succ n ih0 =>
    have ih : ∀ (x1 : Int32) (x2 : Int32), ∀ (σ : Sg) (H : Heap) (locs : List Loc) (ls : Array Slot), s_St G σ H0 H locs → lv_has ls 3 [(0, .ref (G.2.2 + 117)), (1, .int x1), (2, .int x2)] → BX7_clashes_4 post n x1 x2 σ → W p l e rm_X7_clashes s m args below meth c H locs cells slots Q (F0 m 4 ls []) := fun x1 x2  _ _ _ _ => ih0 x1 x2 
    intro x1 x2  σ H locs ls S hl h
    refine lv_iload_n C.1 C.2.1 dX7_clashes_4 rfl (lv_at hl 2 rfl) ?_
    refine lv_aload_n C.1 C.2.1 dX7_clashes_5 rfl (lv_at hl 0 rfl) ?_
    refine g_X7_0 C fl_X7_7 kd_117 S fn_117_0 dX7_clashes_6 ?_
    refine lv_iconst (v := (0 : Int32)) C.1 C.2.1 dX7_clashes_9 (by decide) ?_
    refine a_ild C kd_118 S ln_118 h.1 dX7_clashes_10 ?_
    replace h := h.2
    refine lv_icmp_ge (tgt := 31) C.1 C.2.1 dX7_clashes_11 (by decide) (fun c1 => ?_) (fun c1 => ?_)
    · replace h := h.1 c1
      refine lv_iload_n C.1 C.2.1 dX7_clashes_31 rfl (lv_at hl 1 rfl) ?_
      refine lv_iconst (v := (2 : Int32)) C.1 C.2.1 dX7_clashes_32 (by decide) ?_
      refine lv_idiv C.1 C.2.1 dX7_clashes_33 (by decide) ?_
      exact hR _ _ _ _ _ _ dX7_clashes_34 h S
    · replace h := h.2 c1
      refine lv_iload_n C.1 C.2.1 dX7_clashes_14 rfl (lv_at hl 1 rfl) ?_
      refine lv_aload_n C.1 C.2.1 dX7_clashes_15 rfl (lv_at hl 0 rfl) ?_
      refine lv_iload_n C.1 C.2.1 dX7_clashes_16 rfl (lv_at hl 2 rfl) ?_
      refine k_i (r_V (As := [.int x2]) (rest := [.int x1]) C hml (c_X7_clashing l G x2 σ _ h) kM_X7_clashing im_X7_clashing se_X7_clashing ml_X7_112 ⟨rfl, rfl⟩ ⟨Nat.le_of_ble_eq_true rfl, Nat.le_of_ble_eq_true rfl⟩ hcs S kd_117 (by decide) (T := TX7) (N := 17) rfl rfl hl.1 rfl (Nat.le_of_ble_eq_true rfl) dX7_clashes_17) S (fun r3 σ2 H locs h S => ?_)
      refine k_i (r_S (As := [.int r3]) (rest := [.int x1]) C hml (c_X7_size l G r3 σ2 _ h) kM_X7_size st_X7_size ml_X7_109 ⟨rfl, rfl⟩ ⟨Nat.le_of_ble_eq_true rfl, Nat.le_of_ble_eq_true rfl⟩ hcs S rfl hl.1 rfl (Nat.le_of_ble_eq_true rfl) dX7_clashes_20) S (fun r5 σ4 H locs h S => ?_)
      refine lv_iadd C.1 C.2.1 dX7_clashes_23 ?_
      refine lv_istore_n (lv' := [(1, .int (x1 + r5)), (0, .ref (G.2.2 + 117)), (2, .int x2)]) C.1 C.2.1 dX7_clashes_24 rfl hl (by decide) rfl (fun ls hl => ?_)
      refine lv_iinc (v := (x2 + 1)) (lv' := [(2, .int (x2 + 1)), (1, .int (x1 + r5)), (0, .ref (G.2.2 + 117))]) C.1 C.2.1 dX7_clashes_25 hl (k := 2) rfl rfl (by decide) rfl (fun ls hl => ?_)
      refine lv_goto (tgt := 4) C.1 C.2.1 dX7_clashes_28 (by decide) ?_
      exact ih ((x1 + r5)) ((x2 + 1)) _ _ _ _ S (lv_sub hl [2, 1, 0] rfl) h
theorem kM_X7_clashes : s_M yX7_clashes cX7_clashes 3 (some .int) 0 := ⟨co_X7_clashes, in_X7, by decide, by decide, by decide +kernel⟩
set_option maxHeartbeats 4000000 in
set_option maxRecDepth 100000 in
theorem c_X7_clashes (l : Launch) (G : s_G)  (σ : Sg) (post : Int32 → Sg → Prop) (h : wpX7_clashes σ post) : Met l yX7_clashes (wsU yX7_clashes cX7_clashes 3 (some .int)) rm_X7_clashes (va_Pc [.ref (G.2.2 + 117)] (s_Pre G σ)) (va_Qi post (s_B G) (s_A G.2.2)) 0 0 (s_A G.2.2) := by
  refine Met.ofW (cc := cX7_clashes) (maxL := 3) (ret := (some .int)) (by decide) rfl ?_
  intro p e s m args below meth c s₁ B hml hv
  obtain ⟨rfl, hP, hrok, hK, hN⟩ := hv
  have C : s_C G p s (([.ref (G.2.2 + 117)] : List Value).toArray) m c RX7 cX7_clashes := ⟨B.exec, B.bytes, findClass_of_methodNamed B.named, fun w hw => atoms_spec (ws := wsU yX7_clashes cX7_clashes 3 (some .int)) B.pre w (List.mem_cons_of_mem _ hw), hK, hN⟩
  have hr := B.returns
  have hlocks := B.notSynchronized
  have S : s_St G σ s.heap s.heap [] := ⟨hP, va_S.rf, hrok⟩
  have hcs : 0 ≤ (rm_X7_clashes).cells ∧ 0 ≤ (rm_X7_clashes).slots := ⟨Nat.le_refl 0, Nat.le_refl 0⟩
  have hR : ∀ (r : Int32) (σ1 : Sg) (H : Heap) (locs : List Loc) (pc : Nat) (ls : Array Slot), decode cX7_clashes pc = .ok (.ireturn, 1) → post r σ1 → s_St G σ1 s.heap H locs → W p l e rm_X7_clashes s m ([.ref (G.2.2 + 117)] : List Value).toArray below meth c H locs 0 0 (MQ below (va_Qi post (s_B G) (s_A G.2.2)) ([.ref (G.2.2 + 117)] : List Value).toArray s 0 0 (s_A G.2.2)) (F0 m pc ls [.int r]) := fun _ _ _ _ _ _ hd hp S => ret_i C hr hlocks hd hp S
  have hl := lv_entry ([.ref (G.2.2 + 117)]) (n := 3) (Nat.le_of_ble_eq_true rfl)
  rw [lg_entry_eq]
  generalize (lg_sl ([.ref (G.2.2 + 117)]) ++ List.replicate (3 - (lg_sl ([.ref (G.2.2 + 117)])).length) Slot.unset).toArray = ls at hl ⊢
  have hl : lv_has ls 3 [(0, .ref (G.2.2 + 117))] := hl
  unfold wpX7_clashes at h
  refine lv_iconst (v := (0 : Int32)) C.1 C.2.1 dX7_clashes_0 (by decide) ?_
  refine lv_istore_n (lv' := [(1, .int (0 : Int32)), (0, .ref (G.2.2 + 117))]) C.1 C.2.1 dX7_clashes_1 rfl hl (by decide) rfl (fun ls hl => ?_)
  refine lv_iconst (v := (0 : Int32)) C.1 C.2.1 dX7_clashes_2 (by decide) ?_
  refine lv_istore_n (lv' := [(2, .int (0 : Int32)), (1, .int (0 : Int32)), (0, .ref (G.2.2 + 117))]) C.1 C.2.1 dX7_clashes_3 rfl hl (by decide) rfl (fun ls hl => ?_)
  obtain ⟨nf, h⟩ := h
  exact TX7_clashes_4 C hml hcs hR nf ((0 : Int32)) ((0 : Int32)) S (lv_sub hl [2, 1, 0] rfl) h
/-! X7_countIn -/
abbrev rm_X7_countIn : Room := { frames := 0, cells := 0, slots := 0, locals := 0 }
def wpX7_countIn (x0 : Int32) (x1 : Int32) (σ : Sg) (post : Int32 → Sg → Prop) : Prop := post (((x0 >>> (((2 : Int32) * x1) &&& 31)) &&& (3 : Int32))) σ
theorem kM_X7_countIn : s_M yX7_countIn cX7_countIn 2 (some .int) 2 := ⟨co_X7_countIn, in_X7, by decide, by decide, by decide +kernel⟩
set_option maxHeartbeats 4000000 in
set_option maxRecDepth 100000 in
theorem c_X7_countIn (l : Launch) (G : s_G) (x0 : Int32) (x1 : Int32) (σ : Sg) (post : Int32 → Sg → Prop) (h : wpX7_countIn x0 x1 σ post) : Met l yX7_countIn (wsU yX7_countIn cX7_countIn 2 (some .int)) rm_X7_countIn (va_Pc [.int x0, .int x1] (s_Pre G σ)) (va_Qi post (s_B G) (s_A G.2.2)) 0 0 (s_A G.2.2) := by
  refine Met.ofW (cc := cX7_countIn) (maxL := 2) (ret := (some .int)) (by decide) rfl ?_
  intro p e s m args below meth c s₁ B hml hv
  obtain ⟨rfl, hP, hrok, hK, hN⟩ := hv
  have C : s_C G p s (([.int x0, .int x1] : List Value).toArray) m c RX7 cX7_countIn := ⟨B.exec, B.bytes, findClass_of_methodNamed B.named, fun w hw => atoms_spec (ws := wsU yX7_countIn cX7_countIn 2 (some .int)) B.pre w (List.mem_cons_of_mem _ hw), hK, hN⟩
  have hr := B.returns
  have hlocks := B.notSynchronized
  have S : s_St G σ s.heap s.heap [] := ⟨hP, va_S.rf, hrok⟩
  have hcs : 0 ≤ (rm_X7_countIn).cells ∧ 0 ≤ (rm_X7_countIn).slots := ⟨Nat.le_refl 0, Nat.le_refl 0⟩
  have hR : ∀ (r : Int32) (σ1 : Sg) (H : Heap) (locs : List Loc) (pc : Nat) (ls : Array Slot), decode cX7_countIn pc = .ok (.ireturn, 1) → post r σ1 → s_St G σ1 s.heap H locs → W p l e rm_X7_countIn s m ([.int x0, .int x1] : List Value).toArray below meth c H locs 0 0 (MQ below (va_Qi post (s_B G) (s_A G.2.2)) ([.int x0, .int x1] : List Value).toArray s 0 0 (s_A G.2.2)) (F0 m pc ls [.int r]) := fun _ _ _ _ _ _ hd hp S => ret_i C hr hlocks hd hp S
  have hl := lv_entry ([.int x0, .int x1]) (n := 2) (Nat.le_of_ble_eq_true rfl)
  rw [lg_entry_eq]
  generalize (lg_sl ([.int x0, .int x1]) ++ List.replicate (2 - (lg_sl ([.int x0, .int x1])).length) Slot.unset).toArray = ls at hl ⊢
  have hl : lv_has ls 2 [(0, .int x0), (1, .int x1)] := hl
  unfold wpX7_countIn at h
  refine lv_iload_n C.1 C.2.1 dX7_countIn_0 rfl (lv_at hl 0 rfl) ?_
  refine lv_iconst (v := (2 : Int32)) C.1 C.2.1 dX7_countIn_1 (by decide) ?_
  refine lv_iload_n C.1 C.2.1 dX7_countIn_2 rfl (lv_at hl 1 rfl) ?_
  refine lv_imul C.1 C.2.1 dX7_countIn_3 ?_
  refine lv_ishr C.1 C.2.1 dX7_countIn_4 ?_
  refine lv_iconst (v := (3 : Int32)) C.1 C.2.1 dX7_countIn_5 (by decide) ?_
  refine lv_iand C.1 C.2.1 dX7_countIn_6 ?_
  exact hR _ _ _ _ _ _ dX7_countIn_7 h S
/-! X7_isWord -/
abbrev rm_X7_isWord : Room := { frames := 1, cells := 0, slots := 0, locals := 22 }
def BX7_isWord_12  (post : Int32 → Sg → Prop) : Nat → Int32 → Int32 → Sg → Prop
  | 0, _, _, _ => False
  | n + 1, x1, x2, σ => ((((σ.1 117 6) ≤ x2) → (narrow .boolean (.int x1) = .int x1 ∧ post x1 σ)) ∧ ((¬ (σ.1 117 6) ≤ x2) → (((x1 = 0) → (narrow .boolean (.int x1) = .int x1 ∧ post x1 σ)) ∧ ((¬ x1 = 0) → (vp_in x2 60 ∧ wpX7_isIn ((σ.1 121 (x2).toNatClampNeg)) ((97 : Int32)) ((122 : Int32)) σ (fun r4 σ3 => BX7_isWord_12 post n r4 ((x2 + 1)) σ3))))))
def wpX7_isWord  (σ : Sg) (post : Int32 → Sg → Prop) : Prop := wpX7_isIn ((σ.1 117 6)) ((1 : Int32)) ((3 : Int32)) σ (fun r6 σ5 => ∃ nf, BX7_isWord_12 post nf r6 ((0 : Int32)) σ5)
set_option maxHeartbeats 4000000 in
set_option maxRecDepth 100000 in
theorem TX7_isWord_12 (C : s_C G p s args m c RX7 cX7_isWord) (hml : c.maxLocals = 3) (hcs : cells ≤ (rm_X7_isWord).cells ∧ slots ≤ (rm_X7_isWord).slots)  {post : Int32 → Sg → Prop} (hR : ∀ (r : Int32) (σ1 : Sg) (H : Heap) (locs : List Loc) (pc : Nat) (ls : Array Slot), decode cX7_isWord pc = .ok (.ireturn, 1) → narrow .boolean (.int r) = .int r → post r σ1 → s_St G σ1 H0 H locs → W p l e rm_X7_isWord s m args below meth c H locs cells slots Q (F0 m pc ls [.int r])) : ∀ (n : Nat) (x1 : Int32) (x2 : Int32), ∀ {σ : Sg} {H : Heap} {locs : List Loc} {ls : Array Slot}, s_St G σ H0 H locs → lv_has ls 3 [(0, .ref (G.2.2 + 117)), (1, .int x1), (2, .int x2)] → BX7_isWord_12 post n x1 x2 σ → W p l e rm_X7_isWord s m args below meth c H locs cells slots Q (F0 m 12 ls []) := by
  intro n
  induction n with
  | zero =>
    intro x1 x2  σ H locs ls S hl h
    exact absurd h (fun h => h)
  | succ n ih0 =>
    have ih : ∀ (x1 : Int32) (x2 : Int32), ∀ (σ : Sg) (H : Heap) (locs : List Loc) (ls : Array Slot), s_St G σ H0 H locs → lv_has ls 3 [(0, .ref (G.2.2 + 117)), (1, .int x1), (2, .int x2)] → BX7_isWord_12 post n x1 x2 σ → W p l e rm_X7_isWord s m args below meth c H locs cells slots Q (F0 m 12 ls []) := fun x1 x2  _ _ _ _ => ih0 x1 x2 
    intro x1 x2  σ H locs ls S hl h
    refine lv_iload_n C.1 C.2.1 dX7_isWord_12 rfl (lv_at hl 2 rfl) ?_
    refine lv_aload_n C.1 C.2.1 dX7_isWord_13 rfl (lv_at hl 0 rfl) ?_
    refine g_X7_6 C fl_X7_64 kd_117 S dX7_isWord_14 ?_
    refine lv_icmp_ge (tgt := 44) C.1 C.2.1 dX7_isWord_17 (by decide) (fun c1 => ?_) (fun c1 => ?_)
    · replace h := h.1 c1
      refine lv_iload_n C.1 C.2.1 dX7_isWord_44 rfl (lv_at hl 1 rfl) ?_
      exact hR _ _ _ _ _ _ dX7_isWord_45 h.1 h.2 S
    · replace h := h.2 c1
      refine lv_iload_n C.1 C.2.1 dX7_isWord_20 rfl (lv_at hl 1 rfl) ?_
      refine lv_if_eq (tgt := 44) C.1 C.2.1 dX7_isWord_21 (by decide) (fun c2 => ?_) (fun c2 => ?_)
      · replace h := h.1 c2
        refine lv_iload_n C.1 C.2.1 dX7_isWord_44 rfl (lv_at hl 1 rfl) ?_
        exact hR _ _ _ _ _ _ dX7_isWord_45 h.1 h.2 S
      · replace h := h.2 c2
        refine lv_aload_n C.1 C.2.1 dX7_isWord_24 rfl (lv_at hl 0 rfl) ?_
        refine g_X7_5 C fl_X7_19 kd_117 S fn_117_5 dX7_isWord_25 ?_
        refine lv_iload_n C.1 C.2.1 dX7_isWord_28 rfl (lv_at hl 2 rfl) ?_
        refine a_ild C kd_121 S ln_121 h.1 dX7_isWord_29 ?_
        replace h := h.2
        refine lv_bipush (v := (97 : Int32)) C.1 C.2.1 dX7_isWord_30 (by decide) ?_
        refine lv_bipush (v := (122 : Int32)) C.1 C.2.1 dX7_isWord_32 (by decide) ?_
        refine k_i (r_S (As := [.int (σ.1 121 (x2).toNatClampNeg), .int (97 : Int32), .int (122 : Int32)]) (rest := []) C hml (c_X7_isIn l G ((σ.1 121 (x2).toNatClampNeg)) ((97 : Int32)) ((122 : Int32)) σ _ h) kM_X7_isIn st_X7_isIn ml_X7_60 ⟨rfl, rfl⟩ ⟨Nat.le_of_ble_eq_true rfl, Nat.le_of_ble_eq_true rfl⟩ hcs S rfl hl.1 rfl (Nat.le_of_ble_eq_true rfl) dX7_isWord_34) S (fun r4 σ3 H locs h S => ?_)
        refine lv_istore_n (lv' := [(1, .int r4), (0, .ref (G.2.2 + 117)), (2, .int x2)]) C.1 C.2.1 dX7_isWord_37 rfl hl (by decide) rfl (fun ls hl => ?_)
        refine lv_iinc (v := (x2 + 1)) (lv' := [(2, .int (x2 + 1)), (1, .int r4), (0, .ref (G.2.2 + 117))]) C.1 C.2.1 dX7_isWord_38 hl (k := 2) rfl rfl (by decide) rfl (fun ls hl => ?_)
        refine lv_goto (tgt := 12) C.1 C.2.1 dX7_isWord_41 (by decide) ?_
        exact ih r4 ((x2 + 1)) _ _ _ _ S (lv_sub hl [2, 1, 0] rfl) h
theorem kM_X7_isWord : s_M yX7_isWord cX7_isWord 3 (some .boolean) 0 := ⟨co_X7_isWord, in_X7, by decide, by decide, by decide +kernel⟩
set_option maxHeartbeats 4000000 in
set_option maxRecDepth 100000 in
theorem c_X7_isWord (l : Launch) (G : s_G)  (σ : Sg) (post : Int32 → Sg → Prop) (h : wpX7_isWord σ post) : Met l yX7_isWord (wsU yX7_isWord cX7_isWord 3 (some .boolean)) rm_X7_isWord (va_Pc [.ref (G.2.2 + 117)] (s_Pre G σ)) (va_Qi post (s_B G) (s_A G.2.2)) 0 0 (s_A G.2.2) := by
  refine Met.ofW (cc := cX7_isWord) (maxL := 3) (ret := (some .boolean)) (by decide) rfl ?_
  intro p e s m args below meth c s₁ B hml hv
  obtain ⟨rfl, hP, hrok, hK, hN⟩ := hv
  have C : s_C G p s (([.ref (G.2.2 + 117)] : List Value).toArray) m c RX7 cX7_isWord := ⟨B.exec, B.bytes, findClass_of_methodNamed B.named, fun w hw => atoms_spec (ws := wsU yX7_isWord cX7_isWord 3 (some .boolean)) B.pre w (List.mem_cons_of_mem _ hw), hK, hN⟩
  have hr := B.returns
  have hlocks := B.notSynchronized
  have S : s_St G σ s.heap s.heap [] := ⟨hP, va_S.rf, hrok⟩
  have hcs : 0 ≤ (rm_X7_isWord).cells ∧ 0 ≤ (rm_X7_isWord).slots := ⟨Nat.le_refl 0, Nat.le_refl 0⟩
  have hR : ∀ (r : Int32) (σ1 : Sg) (H : Heap) (locs : List Loc) (pc : Nat) (ls : Array Slot), decode cX7_isWord pc = .ok (.ireturn, 1) → narrow .boolean (.int r) = .int r → post r σ1 → s_St G σ1 s.heap H locs → W p l e rm_X7_isWord s m ([.ref (G.2.2 + 117)] : List Value).toArray below meth c H locs 0 0 (MQ below (va_Qi post (s_B G) (s_A G.2.2)) ([.ref (G.2.2 + 117)] : List Value).toArray s 0 0 (s_A G.2.2)) (F0 m pc ls [.int r]) := fun _ _ _ _ _ _ hd hn hp S => ret_z C hr hlocks hd hn hp S
  have hl := lv_entry ([.ref (G.2.2 + 117)]) (n := 3) (Nat.le_of_ble_eq_true rfl)
  rw [lg_entry_eq]
  generalize (lg_sl ([.ref (G.2.2 + 117)]) ++ List.replicate (3 - (lg_sl ([.ref (G.2.2 + 117)])).length) Slot.unset).toArray = ls at hl ⊢
  have hl : lv_has ls 3 [(0, .ref (G.2.2 + 117))] := hl
  unfold wpX7_isWord at h
  refine lv_aload_n C.1 C.2.1 dX7_isWord_0 rfl (lv_at hl 0 rfl) ?_
  refine g_X7_6 C fl_X7_64 kd_117 S dX7_isWord_1 ?_
  refine lv_iconst (v := (1 : Int32)) C.1 C.2.1 dX7_isWord_4 (by decide) ?_
  refine lv_iconst (v := (3 : Int32)) C.1 C.2.1 dX7_isWord_5 (by decide) ?_
  refine k_i (r_S (As := [.int (σ.1 117 6), .int (1 : Int32), .int (3 : Int32)]) (rest := []) C hml (c_X7_isIn l G ((σ.1 117 6)) ((1 : Int32)) ((3 : Int32)) σ _ h) kM_X7_isIn st_X7_isIn ml_X7_60 ⟨rfl, rfl⟩ ⟨Nat.le_of_ble_eq_true rfl, Nat.le_of_ble_eq_true rfl⟩ hcs S rfl hl.1 rfl (Nat.le_of_ble_eq_true rfl) dX7_isWord_6) S (fun r6 σ5 H locs h S => ?_)
  refine lv_istore_n (lv' := [(1, .int r6), (0, .ref (G.2.2 + 117))]) C.1 C.2.1 dX7_isWord_9 rfl hl (by decide) rfl (fun ls hl => ?_)
  refine lv_iconst (v := (0 : Int32)) C.1 C.2.1 dX7_isWord_10 (by decide) ?_
  refine lv_istore_n (lv' := [(2, .int (0 : Int32)), (1, .int r6), (0, .ref (G.2.2 + 117))]) C.1 C.2.1 dX7_isWord_11 rfl hl (by decide) rfl (fun ls hl => ?_)
  obtain ⟨nf, h⟩ := h
  exact TX7_isWord_12 C hml hcs hR nf r6 ((0 : Int32)) S (lv_sub hl [2, 1, 0] rfl) h
/-! X7_isWordOf -/
abbrev rm_X7_isWordOf : Room := { frames := 2, cells := 0, slots := 0, locals := 44 }
def BX7_isWordOf_20 (x1 : Int32) (post : Int32 → Sg → Prop) : Nat → Int32 → Int32 → Sg → Prop
  | 0, _, _, _ => False
  | n + 1, x2, x3, σ => ((((σ.1 117 6) ≤ x3) → (narrow .boolean (.int x2) = .int x2 ∧ post x2 σ)) ∧ ((¬ (σ.1 117 6) ≤ x3) → (((x2 = 0) → (narrow .boolean (.int x2) = .int x2 ∧ post x2 σ)) ∧ ((¬ x2 = 0) → (vp_in x3 60 ∧ wpX7_letter x1 x3 σ (fun r4 σ3 => (((¬ (σ.1 121 (x3).toNatClampNeg) = r4) → BX7_isWordOf_20 x1 post n ((0 : Int32)) ((x3 + 1)) σ3) ∧ (((σ.1 121 (x3).toNatClampNeg) = r4) → BX7_isWordOf_20 x1 post n ((1 : Int32)) ((x3 + 1)) σ3))))))))
def wpX7_isWordOf (x1 : Int32) (σ : Sg) (post : Int32 → Sg → Prop) : Prop := wpX7_wordLength x1 σ (fun r7 σ6 => (((¬ r7 = (σ6.1 117 6)) → ∃ nf, BX7_isWordOf_20 x1 post nf ((0 : Int32)) ((0 : Int32)) σ6) ∧ ((r7 = (σ6.1 117 6)) → ∃ nf, BX7_isWordOf_20 x1 post nf ((1 : Int32)) ((0 : Int32)) σ6)))
set_option maxHeartbeats 4000000 in
set_option maxRecDepth 100000 in
theorem TX7_isWordOf_20 (C : s_C G p s args m c RX7 cX7_isWordOf) (hml : c.maxLocals = 4) (hcs : cells ≤ (rm_X7_isWordOf).cells ∧ slots ≤ (rm_X7_isWordOf).slots) {x1 : Int32} {post : Int32 → Sg → Prop} (hR : ∀ (r : Int32) (σ1 : Sg) (H : Heap) (locs : List Loc) (pc : Nat) (ls : Array Slot), decode cX7_isWordOf pc = .ok (.ireturn, 1) → narrow .boolean (.int r) = .int r → post r σ1 → s_St G σ1 H0 H locs → W p l e rm_X7_isWordOf s m args below meth c H locs cells slots Q (F0 m pc ls [.int r])) : ∀ (n : Nat) (x2 : Int32) (x3 : Int32), ∀ {σ : Sg} {H : Heap} {locs : List Loc} {ls : Array Slot}, s_St G σ H0 H locs → lv_has ls 4 [(0, .ref (G.2.2 + 117)), (1, .int x1), (2, .int x2), (3, .int x3)] → BX7_isWordOf_20 x1 post n x2 x3 σ → W p l e rm_X7_isWordOf s m args below meth c H locs cells slots Q (F0 m 20 ls []) := by
  intro n
  induction n with
  | zero =>
    intro x2 x3  σ H locs ls S hl h
    exact absurd h (fun h => h)
  | succ n ih0 =>
    have ih : ∀ (x2 : Int32) (x3 : Int32), ∀ (σ : Sg) (H : Heap) (locs : List Loc) (ls : Array Slot), s_St G σ H0 H locs → lv_has ls 4 [(0, .ref (G.2.2 + 117)), (1, .int x1), (2, .int x2), (3, .int x3)] → BX7_isWordOf_20 x1 post n x2 x3 σ → W p l e rm_X7_isWordOf s m args below meth c H locs cells slots Q (F0 m 20 ls []) := fun x2 x3  _ _ _ _ => ih0 x2 x3 
    intro x2 x3  σ H locs ls S hl h
    refine lv_iload_n C.1 C.2.1 dX7_isWordOf_20 rfl (lv_at hl 3 rfl) ?_
    refine lv_aload_n C.1 C.2.1 dX7_isWordOf_21 rfl (lv_at hl 0 rfl) ?_
    refine g_X7_6 C fl_X7_64 kd_117 S dX7_isWordOf_22 ?_
    refine lv_icmp_ge (tgt := 59) C.1 C.2.1 dX7_isWordOf_25 (by decide) (fun c1 => ?_) (fun c1 => ?_)
    · replace h := h.1 c1
      refine lv_iload_n C.1 C.2.1 dX7_isWordOf_59 rfl (lv_at hl 2 rfl) ?_
      exact hR _ _ _ _ _ _ dX7_isWordOf_60 h.1 h.2 S
    · replace h := h.2 c1
      refine lv_iload_n C.1 C.2.1 dX7_isWordOf_28 rfl (lv_at hl 2 rfl) ?_
      refine lv_if_eq (tgt := 59) C.1 C.2.1 dX7_isWordOf_29 (by decide) (fun c2 => ?_) (fun c2 => ?_)
      · replace h := h.1 c2
        refine lv_iload_n C.1 C.2.1 dX7_isWordOf_59 rfl (lv_at hl 2 rfl) ?_
        exact hR _ _ _ _ _ _ dX7_isWordOf_60 h.1 h.2 S
      · replace h := h.2 c2
        refine lv_aload_n C.1 C.2.1 dX7_isWordOf_32 rfl (lv_at hl 0 rfl) ?_
        refine g_X7_5 C fl_X7_19 kd_117 S fn_117_5 dX7_isWordOf_33 ?_
        refine lv_iload_n C.1 C.2.1 dX7_isWordOf_36 rfl (lv_at hl 3 rfl) ?_
        refine a_ild C kd_121 S ln_121 h.1 dX7_isWordOf_37 ?_
        replace h := h.2
        refine lv_aload_n C.1 C.2.1 dX7_isWordOf_38 rfl (lv_at hl 0 rfl) ?_
        refine lv_iload_n C.1 C.2.1 dX7_isWordOf_39 rfl (lv_at hl 1 rfl) ?_
        refine lv_iload_n C.1 C.2.1 dX7_isWordOf_40 rfl (lv_at hl 3 rfl) ?_
        refine k_i (r_V (As := [.int x1, .int x3]) (rest := [.int (σ.1 121 (x3).toNatClampNeg)]) C hml (c_X7_letter l G x1 x3 σ _ h) kM_X7_letter im_X7_letter se_X7_letter ml_X7_67 ⟨rfl, rfl⟩ ⟨Nat.le_of_ble_eq_true rfl, Nat.le_of_ble_eq_true rfl⟩ hcs S kd_117 (by decide) (T := TX7) (N := 17) rfl rfl hl.1 rfl (Nat.le_of_ble_eq_true rfl) dX7_isWordOf_41) S (fun r4 σ3 H locs h S => ?_)
        refine lv_icmp_ne (tgt := 51) C.1 C.2.1 dX7_isWordOf_44 (by decide) (fun c5 => ?_) (fun c5 => ?_)
        · replace h := h.1 c5
          refine lv_iconst (v := (0 : Int32)) C.1 C.2.1 dX7_isWordOf_51 (by decide) ?_
          refine lv_istore_n (lv' := [(2, .int (0 : Int32)), (0, .ref (G.2.2 + 117)), (1, .int x1), (3, .int x3)]) C.1 C.2.1 dX7_isWordOf_52 rfl hl (by decide) rfl (fun ls hl => ?_)
          refine lv_iinc (v := (x3 + 1)) (lv' := [(3, .int (x3 + 1)), (2, .int (0 : Int32)), (0, .ref (G.2.2 + 117)), (1, .int x1)]) C.1 C.2.1 dX7_isWordOf_53 hl (k := 3) rfl rfl (by decide) rfl (fun ls hl => ?_)
          refine lv_goto (tgt := 20) C.1 C.2.1 dX7_isWordOf_56 (by decide) ?_
          exact ih ((0 : Int32)) ((x3 + 1)) _ _ _ _ S (lv_sub hl [2, 3, 1, 0] rfl) h
        · replace h := h.2 c5
          refine lv_iconst (v := (1 : Int32)) C.1 C.2.1 dX7_isWordOf_47 (by decide) ?_
          refine lv_goto (tgt := 52) C.1 C.2.1 dX7_isWordOf_48 (by decide) ?_
          refine lv_istore_n (lv' := [(2, .int (1 : Int32)), (0, .ref (G.2.2 + 117)), (1, .int x1), (3, .int x3)]) C.1 C.2.1 dX7_isWordOf_52 rfl hl (by decide) rfl (fun ls hl => ?_)
          refine lv_iinc (v := (x3 + 1)) (lv' := [(3, .int (x3 + 1)), (2, .int (1 : Int32)), (0, .ref (G.2.2 + 117)), (1, .int x1)]) C.1 C.2.1 dX7_isWordOf_53 hl (k := 3) rfl rfl (by decide) rfl (fun ls hl => ?_)
          refine lv_goto (tgt := 20) C.1 C.2.1 dX7_isWordOf_56 (by decide) ?_
          exact ih ((1 : Int32)) ((x3 + 1)) _ _ _ _ S (lv_sub hl [2, 3, 1, 0] rfl) h
theorem kM_X7_isWordOf : s_M yX7_isWordOf cX7_isWordOf 4 (some .boolean) 1 := ⟨co_X7_isWordOf, in_X7, by decide, by decide, by decide +kernel⟩
set_option maxHeartbeats 4000000 in
set_option maxRecDepth 100000 in
theorem c_X7_isWordOf (l : Launch) (G : s_G) (x1 : Int32) (σ : Sg) (post : Int32 → Sg → Prop) (h : wpX7_isWordOf x1 σ post) : Met l yX7_isWordOf (wsU yX7_isWordOf cX7_isWordOf 4 (some .boolean)) rm_X7_isWordOf (va_Pc [.ref (G.2.2 + 117), .int x1] (s_Pre G σ)) (va_Qi post (s_B G) (s_A G.2.2)) 0 0 (s_A G.2.2) := by
  refine Met.ofW (cc := cX7_isWordOf) (maxL := 4) (ret := (some .boolean)) (by decide) rfl ?_
  intro p e s m args below meth c s₁ B hml hv
  obtain ⟨rfl, hP, hrok, hK, hN⟩ := hv
  have C : s_C G p s (([.ref (G.2.2 + 117), .int x1] : List Value).toArray) m c RX7 cX7_isWordOf := ⟨B.exec, B.bytes, findClass_of_methodNamed B.named, fun w hw => atoms_spec (ws := wsU yX7_isWordOf cX7_isWordOf 4 (some .boolean)) B.pre w (List.mem_cons_of_mem _ hw), hK, hN⟩
  have hr := B.returns
  have hlocks := B.notSynchronized
  have S : s_St G σ s.heap s.heap [] := ⟨hP, va_S.rf, hrok⟩
  have hcs : 0 ≤ (rm_X7_isWordOf).cells ∧ 0 ≤ (rm_X7_isWordOf).slots := ⟨Nat.le_refl 0, Nat.le_refl 0⟩
  have hR : ∀ (r : Int32) (σ1 : Sg) (H : Heap) (locs : List Loc) (pc : Nat) (ls : Array Slot), decode cX7_isWordOf pc = .ok (.ireturn, 1) → narrow .boolean (.int r) = .int r → post r σ1 → s_St G σ1 s.heap H locs → W p l e rm_X7_isWordOf s m ([.ref (G.2.2 + 117), .int x1] : List Value).toArray below meth c H locs 0 0 (MQ below (va_Qi post (s_B G) (s_A G.2.2)) ([.ref (G.2.2 + 117), .int x1] : List Value).toArray s 0 0 (s_A G.2.2)) (F0 m pc ls [.int r]) := fun _ _ _ _ _ _ hd hn hp S => ret_z C hr hlocks hd hn hp S
  have hl := lv_entry ([.ref (G.2.2 + 117), .int x1]) (n := 4) (Nat.le_of_ble_eq_true rfl)
  rw [lg_entry_eq]
  generalize (lg_sl ([.ref (G.2.2 + 117), .int x1]) ++ List.replicate (4 - (lg_sl ([.ref (G.2.2 + 117), .int x1])).length) Slot.unset).toArray = ls at hl ⊢
  have hl : lv_has ls 4 [(0, .ref (G.2.2 + 117)), (1, .int x1)] := hl
  unfold wpX7_isWordOf at h
  refine lv_aload_n C.1 C.2.1 dX7_isWordOf_0 rfl (lv_at hl 0 rfl) ?_
  refine lv_iload_n C.1 C.2.1 dX7_isWordOf_1 rfl (lv_at hl 1 rfl) ?_
  refine k_i (r_V (As := [.int x1]) (rest := []) C hml (c_X7_wordLength l G x1 σ _ h) kM_X7_wordLength im_X7_wordLength se_X7_wordLength ml_X7_71 ⟨rfl, rfl⟩ ⟨Nat.le_of_ble_eq_true rfl, Nat.le_of_ble_eq_true rfl⟩ hcs S kd_117 (by decide) (T := TX7) (N := 17) rfl rfl hl.1 rfl (Nat.le_of_ble_eq_true rfl) dX7_isWordOf_2) S (fun r7 σ6 H locs h S => ?_)
  refine lv_aload_n C.1 C.2.1 dX7_isWordOf_5 rfl (lv_at hl 0 rfl) ?_
  refine g_X7_6 C fl_X7_64 kd_117 S dX7_isWordOf_6 ?_
  refine lv_icmp_ne (tgt := 16) C.1 C.2.1 dX7_isWordOf_9 (by decide) (fun c8 => ?_) (fun c8 => ?_)
  · replace h := h.1 c8
    refine lv_iconst (v := (0 : Int32)) C.1 C.2.1 dX7_isWordOf_16 (by decide) ?_
    refine lv_istore_n (lv' := [(2, .int (0 : Int32)), (0, .ref (G.2.2 + 117)), (1, .int x1)]) C.1 C.2.1 dX7_isWordOf_17 rfl hl (by decide) rfl (fun ls hl => ?_)
    refine lv_iconst (v := (0 : Int32)) C.1 C.2.1 dX7_isWordOf_18 (by decide) ?_
    refine lv_istore_n (lv' := [(3, .int (0 : Int32)), (2, .int (0 : Int32)), (0, .ref (G.2.2 + 117)), (1, .int x1)]) C.1 C.2.1 dX7_isWordOf_19 rfl hl (by decide) rfl (fun ls hl => ?_)
    obtain ⟨nf, h⟩ := h
    exact TX7_isWordOf_20 C hml hcs hR nf ((0 : Int32)) ((0 : Int32)) S (lv_sub hl [2, 3, 1, 0] rfl) h
  · replace h := h.2 c8
    refine lv_iconst (v := (1 : Int32)) C.1 C.2.1 dX7_isWordOf_12 (by decide) ?_
    refine lv_goto (tgt := 17) C.1 C.2.1 dX7_isWordOf_13 (by decide) ?_
    refine lv_istore_n (lv' := [(2, .int (1 : Int32)), (0, .ref (G.2.2 + 117)), (1, .int x1)]) C.1 C.2.1 dX7_isWordOf_17 rfl hl (by decide) rfl (fun ls hl => ?_)
    refine lv_iconst (v := (0 : Int32)) C.1 C.2.1 dX7_isWordOf_18 (by decide) ?_
    refine lv_istore_n (lv' := [(3, .int (0 : Int32)), (2, .int (1 : Int32)), (0, .ref (G.2.2 + 117)), (1, .int x1)]) C.1 C.2.1 dX7_isWordOf_19 rfl hl (by decide) rfl (fun ls hl => ?_)
    obtain ⟨nf, h⟩ := h
    exact TX7_isWordOf_20 C hml hcs hR nf ((1 : Int32)) ((0 : Int32)) S (lv_sub hl [2, 3, 1, 0] rfl) h
/-! X7_isNewWord -/
abbrev rm_X7_isNewWord : Room := { frames := 3, cells := 0, slots := 0, locals := 67 }
def BX7_isNewWord_7  (post : Int32 → Sg → Prop) : Nat → Int32 → Int32 → Sg → Prop
  | 0, _, _, _ => False
  | n + 1, x1, x2, σ => (vp_in ((0 : Int32)) 50 ∧ ((((σ.1 118 ((0 : Int32)).toNatClampNeg) ≤ x2) → (narrow .boolean (.int x1) = .int x1 ∧ post x1 σ)) ∧ ((¬ (σ.1 118 ((0 : Int32)).toNatClampNeg) ≤ x2) → (((x1 = 0) → (narrow .boolean (.int x1) = .int x1 ∧ post x1 σ)) ∧ ((¬ x1 = 0) → wpX7_isWordOf x2 σ (fun r4 σ3 => (((¬ r4 = 0) → BX7_isNewWord_7 post n ((0 : Int32)) ((x2 + 1)) σ3) ∧ ((r4 = 0) → BX7_isNewWord_7 post n ((1 : Int32)) ((x2 + 1)) σ3))))))))
def wpX7_isNewWord  (σ : Sg) (post : Int32 → Sg → Prop) : Prop := wpX7_isWord σ (fun r7 σ6 => ∃ nf, BX7_isNewWord_7 post nf r7 ((0 : Int32)) σ6)
set_option maxHeartbeats 4000000 in
set_option maxRecDepth 100000 in
theorem TX7_isNewWord_7 (C : s_C G p s args m c RX7 cX7_isNewWord) (hml : c.maxLocals = 3) (hcs : cells ≤ (rm_X7_isNewWord).cells ∧ slots ≤ (rm_X7_isNewWord).slots)  {post : Int32 → Sg → Prop} (hR : ∀ (r : Int32) (σ1 : Sg) (H : Heap) (locs : List Loc) (pc : Nat) (ls : Array Slot), decode cX7_isNewWord pc = .ok (.ireturn, 1) → narrow .boolean (.int r) = .int r → post r σ1 → s_St G σ1 H0 H locs → W p l e rm_X7_isNewWord s m args below meth c H locs cells slots Q (F0 m pc ls [.int r])) : ∀ (n : Nat) (x1 : Int32) (x2 : Int32), ∀ {σ : Sg} {H : Heap} {locs : List Loc} {ls : Array Slot}, s_St G σ H0 H locs → lv_has ls 3 [(0, .ref (G.2.2 + 117)), (1, .int x1), (2, .int x2)] → BX7_isNewWord_7 post n x1 x2 σ → W p l e rm_X7_isNewWord s m args below meth c H locs cells slots Q (F0 m 7 ls []) := by
  intro n
  induction n with
  | zero =>
    intro x1 x2  σ H locs ls S hl h
    exact absurd h (fun h => h)
  | succ n ih0 =>
    have ih : ∀ (x1 : Int32) (x2 : Int32), ∀ (σ : Sg) (H : Heap) (locs : List Loc) (ls : Array Slot), s_St G σ H0 H locs → lv_has ls 3 [(0, .ref (G.2.2 + 117)), (1, .int x1), (2, .int x2)] → BX7_isNewWord_7 post n x1 x2 σ → W p l e rm_X7_isNewWord s m args below meth c H locs cells slots Q (F0 m 7 ls []) := fun x1 x2  _ _ _ _ => ih0 x1 x2 
    intro x1 x2  σ H locs ls S hl h
    refine lv_iload_n C.1 C.2.1 dX7_isNewWord_7 rfl (lv_at hl 2 rfl) ?_
    refine lv_aload_n C.1 C.2.1 dX7_isNewWord_8 rfl (lv_at hl 0 rfl) ?_
    refine g_X7_0 C fl_X7_7 kd_117 S fn_117_0 dX7_isNewWord_9 ?_
    refine lv_iconst (v := (0 : Int32)) C.1 C.2.1 dX7_isNewWord_12 (by decide) ?_
    refine a_ild C kd_118 S ln_118 h.1 dX7_isNewWord_13 ?_
    replace h := h.2
    refine lv_icmp_ge (tgt := 41) C.1 C.2.1 dX7_isNewWord_14 (by decide) (fun c1 => ?_) (fun c1 => ?_)
    · replace h := h.1 c1
      refine lv_iload_n C.1 C.2.1 dX7_isNewWord_41 rfl (lv_at hl 1 rfl) ?_
      exact hR _ _ _ _ _ _ dX7_isNewWord_42 h.1 h.2 S
    · replace h := h.2 c1
      refine lv_iload_n C.1 C.2.1 dX7_isNewWord_17 rfl (lv_at hl 1 rfl) ?_
      refine lv_if_eq (tgt := 41) C.1 C.2.1 dX7_isNewWord_18 (by decide) (fun c2 => ?_) (fun c2 => ?_)
      · replace h := h.1 c2
        refine lv_iload_n C.1 C.2.1 dX7_isNewWord_41 rfl (lv_at hl 1 rfl) ?_
        exact hR _ _ _ _ _ _ dX7_isNewWord_42 h.1 h.2 S
      · replace h := h.2 c2
        refine lv_aload_n C.1 C.2.1 dX7_isNewWord_21 rfl (lv_at hl 0 rfl) ?_
        refine lv_iload_n C.1 C.2.1 dX7_isNewWord_22 rfl (lv_at hl 2 rfl) ?_
        refine k_i (r_V (As := [.int x2]) (rest := []) C hml (c_X7_isWordOf l G x2 σ _ h) kM_X7_isWordOf im_X7_isWordOf se_X7_isWordOf ml_X7_79 ⟨rfl, rfl⟩ ⟨Nat.le_of_ble_eq_true rfl, Nat.le_of_ble_eq_true rfl⟩ hcs S kd_117 (by decide) (T := TX7) (N := 17) rfl rfl hl.1 rfl (Nat.le_of_ble_eq_true rfl) dX7_isNewWord_23) S (fun r4 σ3 H locs h S => ?_)
        refine lv_if_ne (tgt := 33) C.1 C.2.1 dX7_isNewWord_26 (by decide) (fun c5 => ?_) (fun c5 => ?_)
        · replace h := h.1 c5
          refine lv_iconst (v := (0 : Int32)) C.1 C.2.1 dX7_isNewWord_33 (by decide) ?_
          refine lv_istore_n (lv' := [(1, .int (0 : Int32)), (0, .ref (G.2.2 + 117)), (2, .int x2)]) C.1 C.2.1 dX7_isNewWord_34 rfl hl (by decide) rfl (fun ls hl => ?_)
          refine lv_iinc (v := (x2 + 1)) (lv' := [(2, .int (x2 + 1)), (1, .int (0 : Int32)), (0, .ref (G.2.2 + 117))]) C.1 C.2.1 dX7_isNewWord_35 hl (k := 2) rfl rfl (by decide) rfl (fun ls hl => ?_)
          refine lv_goto (tgt := 7) C.1 C.2.1 dX7_isNewWord_38 (by decide) ?_
          exact ih ((0 : Int32)) ((x2 + 1)) _ _ _ _ S (lv_sub hl [2, 1, 0] rfl) h
        · replace h := h.2 c5
          refine lv_iconst (v := (1 : Int32)) C.1 C.2.1 dX7_isNewWord_29 (by decide) ?_
          refine lv_goto (tgt := 34) C.1 C.2.1 dX7_isNewWord_30 (by decide) ?_
          refine lv_istore_n (lv' := [(1, .int (1 : Int32)), (0, .ref (G.2.2 + 117)), (2, .int x2)]) C.1 C.2.1 dX7_isNewWord_34 rfl hl (by decide) rfl (fun ls hl => ?_)
          refine lv_iinc (v := (x2 + 1)) (lv' := [(2, .int (x2 + 1)), (1, .int (1 : Int32)), (0, .ref (G.2.2 + 117))]) C.1 C.2.1 dX7_isNewWord_35 hl (k := 2) rfl rfl (by decide) rfl (fun ls hl => ?_)
          refine lv_goto (tgt := 7) C.1 C.2.1 dX7_isNewWord_38 (by decide) ?_
          exact ih ((1 : Int32)) ((x2 + 1)) _ _ _ _ S (lv_sub hl [2, 1, 0] rfl) h
theorem kM_X7_isNewWord : s_M yX7_isNewWord cX7_isNewWord 3 (some .boolean) 0 := ⟨co_X7_isNewWord, in_X7, by decide, by decide, by decide +kernel⟩
set_option maxHeartbeats 4000000 in
set_option maxRecDepth 100000 in
theorem c_X7_isNewWord (l : Launch) (G : s_G)  (σ : Sg) (post : Int32 → Sg → Prop) (h : wpX7_isNewWord σ post) : Met l yX7_isNewWord (wsU yX7_isNewWord cX7_isNewWord 3 (some .boolean)) rm_X7_isNewWord (va_Pc [.ref (G.2.2 + 117)] (s_Pre G σ)) (va_Qi post (s_B G) (s_A G.2.2)) 0 0 (s_A G.2.2) := by
  refine Met.ofW (cc := cX7_isNewWord) (maxL := 3) (ret := (some .boolean)) (by decide) rfl ?_
  intro p e s m args below meth c s₁ B hml hv
  obtain ⟨rfl, hP, hrok, hK, hN⟩ := hv
  have C : s_C G p s (([.ref (G.2.2 + 117)] : List Value).toArray) m c RX7 cX7_isNewWord := ⟨B.exec, B.bytes, findClass_of_methodNamed B.named, fun w hw => atoms_spec (ws := wsU yX7_isNewWord cX7_isNewWord 3 (some .boolean)) B.pre w (List.mem_cons_of_mem _ hw), hK, hN⟩
  have hr := B.returns
  have hlocks := B.notSynchronized
  have S : s_St G σ s.heap s.heap [] := ⟨hP, va_S.rf, hrok⟩
  have hcs : 0 ≤ (rm_X7_isNewWord).cells ∧ 0 ≤ (rm_X7_isNewWord).slots := ⟨Nat.le_refl 0, Nat.le_refl 0⟩
  have hR : ∀ (r : Int32) (σ1 : Sg) (H : Heap) (locs : List Loc) (pc : Nat) (ls : Array Slot), decode cX7_isNewWord pc = .ok (.ireturn, 1) → narrow .boolean (.int r) = .int r → post r σ1 → s_St G σ1 s.heap H locs → W p l e rm_X7_isNewWord s m ([.ref (G.2.2 + 117)] : List Value).toArray below meth c H locs 0 0 (MQ below (va_Qi post (s_B G) (s_A G.2.2)) ([.ref (G.2.2 + 117)] : List Value).toArray s 0 0 (s_A G.2.2)) (F0 m pc ls [.int r]) := fun _ _ _ _ _ _ hd hn hp S => ret_z C hr hlocks hd hn hp S
  have hl := lv_entry ([.ref (G.2.2 + 117)]) (n := 3) (Nat.le_of_ble_eq_true rfl)
  rw [lg_entry_eq]
  generalize (lg_sl ([.ref (G.2.2 + 117)]) ++ List.replicate (3 - (lg_sl ([.ref (G.2.2 + 117)])).length) Slot.unset).toArray = ls at hl ⊢
  have hl : lv_has ls 3 [(0, .ref (G.2.2 + 117))] := hl
  unfold wpX7_isNewWord at h
  refine lv_aload_n C.1 C.2.1 dX7_isNewWord_0 rfl (lv_at hl 0 rfl) ?_
  refine k_i (r_V (As := []) (rest := []) C hml (c_X7_isWord l G σ _ h) kM_X7_isWord im_X7_isWord se_X7_isWord ml_X7_75 ⟨rfl, rfl⟩ ⟨Nat.le_of_ble_eq_true rfl, Nat.le_of_ble_eq_true rfl⟩ hcs S kd_117 (by decide) (T := TX7) (N := 17) rfl rfl hl.1 rfl (Nat.le_of_ble_eq_true rfl) dX7_isNewWord_1) S (fun r7 σ6 H locs h S => ?_)
  refine lv_istore_n (lv' := [(1, .int r7), (0, .ref (G.2.2 + 117))]) C.1 C.2.1 dX7_isNewWord_4 rfl hl (by decide) rfl (fun ls hl => ?_)
  refine lv_iconst (v := (0 : Int32)) C.1 C.2.1 dX7_isNewWord_5 (by decide) ?_
  refine lv_istore_n (lv' := [(2, .int (0 : Int32)), (1, .int r7), (0, .ref (G.2.2 + 117))]) C.1 C.2.1 dX7_isNewWord_6 rfl hl (by decide) rfl (fun ls hl => ?_)
  obtain ⟨nf, h⟩ := h
  exact TX7_isNewWord_7 C hml hcs hR nf r7 ((0 : Int32)) S (lv_sub hl [2, 1, 0] rfl) h
end M7
