section M2
variable {p : Program} {l : Launch} {e : Env} {R : Room} {s : State} {m : MethodId} {args : Array Value} {below : List Frame} {meth : Method} {c : Code} {H0 : Heap} {cells slots : Nat} {Q : State → Prop} {G : s_G}
/-! X5_listFirst -/
abbrev rm_X5_listFirst : Room := { frames := 2, cells := 0, slots := 0, locals := 47 }
def BX5_listFirst_10  (post : Sg → Prop) : Nat → Int32 → Int32 → Sg → Prop
  | 0, _, _, _ => False
  | n + 1, x3, x4, σ => ((((18 : Int32) ≤ x4) → post σ) ∧ ((¬ (18 : Int32) ≤ x4) → ((((18 : Int32) ≤ x4) → post σ) ∧ ((¬ (18 : Int32) ≤ x4) → ((((18 : Int32) ≤ x4) → post σ) ∧ ((¬ (18 : Int32) ≤ x4) → wpX5_firstBehind x3 σ (fun r5 σ4 => (((0 ≤ r5) → wpX5_startBehind x3 σ4 (fun r8 σ7 => wpX6_withOneMore x3 r5 σ7 (fun r10 σ9 => (vp_in x4 18 ∧ (∀ σ11 : Sg, σ11 = setI σ9 94 (x4).toNatClampNeg r5 → (vp_in x4 18 ∧ (∀ σ13 : Sg, σ13 = setI σ11 95 (x4).toNatClampNeg r8 → wpX1_at 5 r5 σ13 (fun q16 σ15 => s_kd q16 = 3 → wpX5_endOf r10 σ15 (fun r18 σ17 => wpX0_numberIn 1 q16 r8 r18 σ17 (fun r20 σ19 => (vp_in x4 18 ∧ (∀ σ21 : Sg, σ21 = setI σ19 96 (x4).toNatClampNeg r20 → (∀ σ23 : Sg, σ23 = setI σ21 90 6 (((σ21.1 90 6) + (1 : Int32))) → BX5_listFirst_10 post n r10 ((x4 + 1)) σ23))))))))))))) ∧ ((¬ 0 ≤ r5) → post σ4)))))))))
def wpX5_listFirst  (σ : Sg) (post : Sg → Prop) : Prop := (∀ σ25 : Sg, σ25 = setI σ 90 6 ((0 : Int32)) → ∃ nf, BX5_listFirst_10 post nf ((0 : Int32)) ((0 : Int32)) σ25)
set_option maxHeartbeats 4000000 in
set_option maxRecDepth 100000 in
theorem TX5_listFirst_10 (C : s_C G p s args m c RX5 cX5_listFirst) (hml : c.maxLocals = 7) (hcs : cells ≤ (rm_X5_listFirst).cells ∧ slots ≤ (rm_X5_listFirst).slots)  {post : Sg → Prop} (hR : ∀ (σ1 : Sg) (H : Heap) (locs : List Loc) (pc : Nat) (ls : Array Slot), decode cX5_listFirst pc = .ok (.return_, 1) → post σ1 → s_St G σ1 H0 H locs → W p l e rm_X5_listFirst s m args below meth c H locs cells slots Q (F0 m pc ls [])) : ∀ (n : Nat) (x3 : Int32) (x4 : Int32), ∀ {σ : Sg} {H : Heap} {locs : List Loc} {ls : Array Slot}, s_St G σ H0 H locs → lv_has ls 7 [(0, .ref (G.2.2 + 90)), (1, .ref (G.2.2 + 5)), (2, .ref (G.2.2 + 1)), (3, .int x3), (4, .int x4)] → BX5_listFirst_10 post n x3 x4 σ → W p l e rm_X5_listFirst s m args below meth c H locs cells slots Q (F0 m 10 ls []) := by
  intro n
  induction n with
  | zero =>
    intro x3 x4  σ H locs ls S hl h
    exact absurd h (fun h => h)
  | succ n ih0 =>
    have ih : ∀ (x3 : Int32) (x4 : Int32), ∀ (σ : Sg) (H : Heap) (locs : List Loc) (ls : Array Slot), s_St G σ H0 H locs → lv_has ls 7 [(0, .ref (G.2.2 + 90)), (1, .ref (G.2.2 + 5)), (2, .ref (G.2.2 + 1)), (3, .int x3), (4, .int x4)] → BX5_listFirst_10 post n x3 x4 σ → W p l e rm_X5_listFirst s m args below meth c H locs cells slots Q (F0 m 10 ls []) := fun x3 x4  _ _ _ _ => ih0 x3 x4 
    intro x3 x4  σ H locs ls S hl h
    refine lv_iload C.1 C.2.1 dX5_listFirst_10 (lv_at hl 4 rfl) ?_
    refine lv_aload_n C.1 C.2.1 dX5_listFirst_12 rfl (lv_at hl 0 rfl) ?_
    refine g_X5_3 C fl_X5_22 kd_90 S fn_90_3 dX5_listFirst_13 ?_
    refine a_len8 C kd_94 S (v := (18 : Int32)) (by rw [ln_94]; rfl) dX5_listFirst_16 ?_
    refine lv_icmp_ge (tgt := 128) C.1 C.2.1 dX5_listFirst_17 (by decide) (fun c1 => ?_) (fun c1 => ?_)
    · replace h := h.1 c1
      exact hR _ _ _ _ _ dX5_listFirst_128 h S
    · replace h := h.2 c1
      refine lv_iload C.1 C.2.1 dX5_listFirst_20 (lv_at hl 4 rfl) ?_
      refine lv_aload_n C.1 C.2.1 dX5_listFirst_22 rfl (lv_at hl 0 rfl) ?_
      refine g_X5_4 C fl_X5_25 kd_90 S fn_90_4 dX5_listFirst_23 ?_
      refine a_len8 C kd_95 S (v := (18 : Int32)) (by rw [ln_95]; rfl) dX5_listFirst_26 ?_
      refine lv_icmp_ge (tgt := 128) C.1 C.2.1 dX5_listFirst_27 (by decide) (fun c2 => ?_) (fun c2 => ?_)
      · replace h := h.1 c2
        exact hR _ _ _ _ _ dX5_listFirst_128 h S
      · replace h := h.2 c2
        refine lv_iload C.1 C.2.1 dX5_listFirst_30 (lv_at hl 4 rfl) ?_
        refine lv_aload_n C.1 C.2.1 dX5_listFirst_32 rfl (lv_at hl 0 rfl) ?_
        refine g_X5_5 C fl_X5_28 kd_90 S fn_90_5 dX5_listFirst_33 ?_
        refine a_len8 C kd_96 S (v := (18 : Int32)) (by rw [ln_96]; rfl) dX5_listFirst_36 ?_
        refine lv_icmp_ge (tgt := 128) C.1 C.2.1 dX5_listFirst_37 (by decide) (fun c3 => ?_) (fun c3 => ?_)
        · replace h := h.1 c3
          exact hR _ _ _ _ _ dX5_listFirst_128 h S
        · replace h := h.2 c3
          refine lv_aload_n C.1 C.2.1 dX5_listFirst_40 rfl (lv_at hl 0 rfl) ?_
          refine lv_iload_n C.1 C.2.1 dX5_listFirst_41 rfl (lv_at hl 3 rfl) ?_
          refine lv_aload_n C.1 C.2.1 dX5_listFirst_42 rfl (lv_at hl 1 rfl) ?_
          refine k_i (r_V (As := [.int x3, .ref (G.2.2 + 5)]) (rest := []) C hml (c_X5_firstBehind l G x3 σ _ h) kM_X5_firstBehind im_X5_firstBehind se_X5_firstBehind ml_X5_114 ⟨rfl, rfl⟩ ⟨Nat.le_of_ble_eq_true rfl, Nat.le_of_ble_eq_true rfl⟩ hcs S.v kd_90 (by decide) (T := TX5) (N := 8) rfl rfl hl.1 rfl (Nat.le_of_ble_eq_true rfl) dX5_listFirst_43) S (fun r5 σ4 H locs h S => ?_)
          refine lv_istore (lv' := [(5, .int r5), (0, .ref (G.2.2 + 90)), (1, .ref (G.2.2 + 5)), (2, .ref (G.2.2 + 1)), (3, .int x3), (4, .int x4)]) C.1 C.2.1 dX5_listFirst_46 hl (by decide) rfl (fun ls hl => ?_)
          refine lv_iload C.1 C.2.1 dX5_listFirst_48 (lv_at hl 0 rfl) ?_
          refine lv_if_ge (tgt := 54) C.1 C.2.1 dX5_listFirst_50 (by decide) (fun c6 => ?_) (fun c6 => ?_)
          · replace h := h.1 c6
            refine lv_aload_n C.1 C.2.1 dX5_listFirst_54 rfl (lv_at hl 1 rfl) ?_
            refine lv_iload_n C.1 C.2.1 dX5_listFirst_55 rfl (lv_at hl 4 rfl) ?_
            refine lv_aload_n C.1 C.2.1 dX5_listFirst_56 rfl (lv_at hl 2 rfl) ?_
            refine lv_aload_n C.1 C.2.1 dX5_listFirst_57 rfl (lv_at hl 3 rfl) ?_
            refine k_i (r_V (As := [.int x3, .ref (G.2.2 + 5), .ref (G.2.2 + 1)]) (rest := []) C hml (c_X5_startBehind l G x3 σ4 _ h) kM_X5_startBehind im_X5_startBehind se_X5_startBehind ml_X5_67 ⟨rfl, rfl⟩ ⟨Nat.le_of_ble_eq_true rfl, Nat.le_of_ble_eq_true rfl⟩ hcs S.v kd_90 (by decide) (T := TX5) (N := 8) rfl rfl hl.1 rfl (Nat.le_of_ble_eq_true rfl) dX5_listFirst_58) S (fun r8 σ7 H locs h S => ?_)
            refine lv_istore (lv' := [(6, .int r8), (5, .int r5), (0, .ref (G.2.2 + 90)), (1, .ref (G.2.2 + 5)), (2, .ref (G.2.2 + 1)), (3, .int x3), (4, .int x4)]) C.1 C.2.1 dX5_listFirst_61 hl (by decide) rfl (fun ls hl => ?_)
            refine lv_iload_n C.1 C.2.1 dX5_listFirst_63 rfl (lv_at hl 5 rfl) ?_
            refine lv_iload C.1 C.2.1 dX5_listFirst_64 (lv_at hl 1 rfl) ?_
            refine k_i (r_SN (As := [.int x3, .int r5]) (rest := []) C hml (c_X6_withOneMore l G x3 r5 σ7 _ h) kM_X6_withOneMore st_X6_withOneMore nm_X5_87 ⟨rfl, rfl⟩ ⟨Nat.le_of_ble_eq_true rfl, Nat.le_of_ble_eq_true rfl⟩ hcs S.v rfl hl.1 rfl (Nat.le_of_ble_eq_true rfl) dX5_listFirst_66) S (fun r10 σ9 H locs h S => ?_)
            refine lv_istore_n (lv' := [(3, .int r10), (6, .int r8), (5, .int r5), (0, .ref (G.2.2 + 90)), (1, .ref (G.2.2 + 5)), (2, .ref (G.2.2 + 1)), (4, .int x4)]) C.1 C.2.1 dX5_listFirst_69 rfl hl (by decide) rfl (fun ls hl => ?_)
            refine lv_aload_n C.1 C.2.1 dX5_listFirst_70 rfl (lv_at hl 3 rfl) ?_
            refine g_X5_3 C fl_X5_22 kd_90 S fn_90_3 dX5_listFirst_71 ?_
            refine lv_iload C.1 C.2.1 dX5_listFirst_74 (lv_at hl 6 rfl) ?_
            refine lv_iload C.1 C.2.1 dX5_listFirst_76 (lv_at hl 2 rfl) ?_
            refine a_ist C kd_94 S ln_94 h.1 dX5_listFirst_78 (fun σ11 H locs e12 S => ?_)
            replace h := h.2 σ11 e12
            refine lv_aload_n C.1 C.2.1 dX5_listFirst_79 rfl (lv_at hl 3 rfl) ?_
            refine g_X5_4 C fl_X5_25 kd_90 S fn_90_4 dX5_listFirst_80 ?_
            refine lv_iload C.1 C.2.1 dX5_listFirst_83 (lv_at hl 6 rfl) ?_
            refine lv_iload C.1 C.2.1 dX5_listFirst_85 (lv_at hl 1 rfl) ?_
            refine a_ist C kd_95 S ln_95 h.1 dX5_listFirst_87 (fun σ13 H locs e14 S => ?_)
            replace h := h.2 σ13 e14
            refine lv_aload_n C.1 C.2.1 dX5_listFirst_88 rfl (lv_at hl 3 rfl) ?_
            refine g_X5_5 C fl_X5_28 kd_90 S fn_90_5 dX5_listFirst_89 ?_
            refine lv_iload C.1 C.2.1 dX5_listFirst_92 (lv_at hl 6 rfl) ?_
            refine lv_aload_n C.1 C.2.1 dX5_listFirst_94 rfl (lv_at hl 5 rfl) ?_
            refine lv_aload_n C.1 C.2.1 dX5_listFirst_95 rfl (lv_at hl 4 rfl) ?_
            refine lv_iload C.1 C.2.1 dX5_listFirst_96 (lv_at hl 2 rfl) ?_
            refine k_r (kd := 3) (r_VN (As := [.int r5]) (rest := [.ref (G.2.2 + 1), .int x4, .ref (G.2.2 + 96)]) C hml (c_X1_at l G 5 r5 σ13 _ kd_5 h) kM_X1_at im_X1_at se_X1_at nm_X5_78 ⟨rfl, rfl⟩ ⟨Nat.le_of_ble_eq_true rfl, Nat.le_of_ble_eq_true rfl⟩ hcs S.v kd_5 (by decide) (T := TX1) (N := 4) rfl rfl hl.1 rfl (Nat.le_of_ble_eq_true rfl) dX5_listFirst_98) S (fun q16 σ15 H locs hq16 h S => ?_)
            replace h := h hq16
            refine lv_iload C.1 C.2.1 dX5_listFirst_101 (lv_at hl 1 rfl) ?_
            refine lv_aload_n C.1 C.2.1 dX5_listFirst_103 rfl (lv_at hl 3 rfl) ?_
            refine lv_iload_n C.1 C.2.1 dX5_listFirst_104 rfl (lv_at hl 0 rfl) ?_
            refine k_i (r_V (As := [.int r10]) (rest := [.int r8, .ref (G.2.2 + q16), .ref (G.2.2 + 1), .int x4, .ref (G.2.2 + 96)]) C hml (c_X5_endOf l G r10 σ15 _ h) kM_X5_endOf im_X5_endOf se_X5_endOf ml_X5_59 ⟨rfl, rfl⟩ ⟨Nat.le_of_ble_eq_true rfl, Nat.le_of_ble_eq_true rfl⟩ hcs S.v kd_90 (by decide) (T := TX5) (N := 8) rfl rfl hl.1 rfl (Nat.le_of_ble_eq_true rfl) dX5_listFirst_105) S (fun r18 σ17 H locs h S => ?_)
            refine k_i (r_VN (As := [.ref (G.2.2 + q16), .int r8, .int r18]) (rest := [.int x4, .ref (G.2.2 + 96)]) C hml (c_X0_numberIn l G 1 q16 r8 r18 σ17 _ kd_1 hq16 h) kM_X0_numberIn im_X0_numberIn se_X0_numberIn nm_X5_118 ⟨rfl, rfl⟩ ⟨Nat.le_of_ble_eq_true rfl, Nat.le_of_ble_eq_true rfl⟩ hcs S.v kd_1 (by decide) (T := TX0) (N := 2) rfl rfl hl.1 rfl (Nat.le_of_ble_eq_true rfl) dX5_listFirst_108) S (fun r20 σ19 H locs h S => ?_)
            refine a_ist C kd_96 S ln_96 h.1 dX5_listFirst_111 (fun σ21 H locs e22 S => ?_)
            replace h := h.2 σ21 e22
            refine lv_aload_n C.1 C.2.1 dX5_listFirst_112 rfl (lv_at hl 3 rfl) ?_
            refine lv_dup C.1 C.2.1 dX5_listFirst_113 rfl ?_
            refine g_X5_6 C fl_X5_49 kd_90 S dX5_listFirst_114 ?_
            refine lv_iconst (v := (1 : Int32)) C.1 C.2.1 dX5_listFirst_117 (by decide) ?_
            refine lv_iadd C.1 C.2.1 dX5_listFirst_118 ?_
            refine p_X5_6 C fl_X5_49 kd_90 S dX5_listFirst_119 (fun σ23 H locs e24 S => ?_)
            replace h := h σ23 e24
            refine lv_iinc (v := (x4 + 1)) (lv' := [(4, .int (x4 + 1)), (3, .int r10), (6, .int r8), (5, .int r5), (0, .ref (G.2.2 + 90)), (1, .ref (G.2.2 + 5)), (2, .ref (G.2.2 + 1))]) C.1 C.2.1 dX5_listFirst_122 hl (k := 6) rfl rfl (by decide) rfl (fun ls hl => ?_)
            refine lv_goto (tgt := 10) C.1 C.2.1 dX5_listFirst_125 (by decide) ?_
            exact ih r10 ((x4 + 1)) _ _ _ _ S (lv_sub hl [4, 5, 6, 1, 0] rfl) h
          · replace h := h.2 c6
            exact hR _ _ _ _ _ dX5_listFirst_53 h S
theorem kM_X5_listFirst : s_M yX5_listFirst cX5_listFirst 7 none 2 := ⟨co_X5_listFirst, in_X5, by decide, by decide, by decide +kernel⟩
set_option maxHeartbeats 4000000 in
set_option maxRecDepth 100000 in
theorem c_X5_listFirst (l : Launch) (G : s_G)  (σ : Sg) (post : Sg → Prop) (h : wpX5_listFirst σ post) : Met l yX5_listFirst (wsU yX5_listFirst cX5_listFirst 7 none) rm_X5_listFirst (va_Pc [.ref (G.2.2 + 90), .ref (G.2.2 + 5), .ref (G.2.2 + 1)] (s_Pre G σ)) (va_Qv post (s_B G) (s_A G.2.2)) 0 0 (s_A G.2.2) := by
  refine Met.ofW (cc := cX5_listFirst) (maxL := 7) (ret := none) (by decide) rfl ?_
  intro p e s m args below meth c s₁ B hml hv
  obtain ⟨rfl, hP, hrok, hK, hN⟩ := hv
  have C : s_C G p s (([.ref (G.2.2 + 90), .ref (G.2.2 + 5), .ref (G.2.2 + 1)] : List Value).toArray) m c RX5 cX5_listFirst := ⟨B.exec, B.bytes, findClass_of_methodNamed B.named, fun w hw => atoms_spec (ws := wsU yX5_listFirst cX5_listFirst 7 none) B.pre w (List.mem_cons_of_mem _ hw), hK, hN⟩
  have hr := B.returns
  have hlocks := B.notSynchronized
  have S : s_St G σ s.heap s.heap [] := ⟨hP, va_S.rf, hrok⟩
  have hcs : 0 ≤ (rm_X5_listFirst).cells ∧ 0 ≤ (rm_X5_listFirst).slots := ⟨Nat.le_refl 0, Nat.le_refl 0⟩
  have hR : ∀ (σ1 : Sg) (H : Heap) (locs : List Loc) (pc : Nat) (ls : Array Slot), decode cX5_listFirst pc = .ok (.return_, 1) → post σ1 → s_St G σ1 s.heap H locs → W p l e rm_X5_listFirst s m ([.ref (G.2.2 + 90), .ref (G.2.2 + 5), .ref (G.2.2 + 1)] : List Value).toArray below meth c H locs 0 0 (MQ below (va_Qv post (s_B G) (s_A G.2.2)) ([.ref (G.2.2 + 90), .ref (G.2.2 + 5), .ref (G.2.2 + 1)] : List Value).toArray s 0 0 (s_A G.2.2)) (F0 m pc ls []) := fun _ _ _ _ _ hd hp S => ret_v C hr hlocks hd hp S
  have hl := lv_entry ([.ref (G.2.2 + 90), .ref (G.2.2 + 5), .ref (G.2.2 + 1)]) (n := 7) (Nat.le_of_ble_eq_true rfl)
  rw [lg_entry_eq]
  generalize (lg_sl ([.ref (G.2.2 + 90), .ref (G.2.2 + 5), .ref (G.2.2 + 1)]) ++ List.replicate (7 - (lg_sl ([.ref (G.2.2 + 90), .ref (G.2.2 + 5), .ref (G.2.2 + 1)])).length) Slot.unset).toArray = ls at hl ⊢
  have hl : lv_has ls 7 [(0, .ref (G.2.2 + 90)), (1, .ref (G.2.2 + 5)), (2, .ref (G.2.2 + 1))] := hl
  unfold wpX5_listFirst at h
  refine lv_aload_n C.1 C.2.1 dX5_listFirst_0 rfl (lv_at hl 0 rfl) ?_
  refine lv_iconst (v := (0 : Int32)) C.1 C.2.1 dX5_listFirst_1 (by decide) ?_
  refine p_X5_6 C fl_X5_49 kd_90 S dX5_listFirst_2 (fun σ25 H locs e26 S => ?_)
  replace h := h σ25 e26
  refine lv_iconst (v := (0 : Int32)) C.1 C.2.1 dX5_listFirst_5 (by decide) ?_
  refine lv_istore_n (lv' := [(3, .int (0 : Int32)), (0, .ref (G.2.2 + 90)), (1, .ref (G.2.2 + 5)), (2, .ref (G.2.2 + 1))]) C.1 C.2.1 dX5_listFirst_6 rfl hl (by decide) rfl (fun ls hl => ?_)
  refine lv_iconst (v := (0 : Int32)) C.1 C.2.1 dX5_listFirst_7 (by decide) ?_
  refine lv_istore (lv' := [(4, .int (0 : Int32)), (3, .int (0 : Int32)), (0, .ref (G.2.2 + 90)), (1, .ref (G.2.2 + 5)), (2, .ref (G.2.2 + 1))]) C.1 C.2.1 dX5_listFirst_8 hl (by decide) rfl (fun ls hl => ?_)
  obtain ⟨nf, h⟩ := h
  exact TX5_listFirst_10 C hml hcs hR nf ((0 : Int32)) ((0 : Int32)) S (lv_sub hl [2, 3, 4, 1, 0] rfl) h
/-! X5_learn -/
abbrev rm_X5_learn : Room := { frames := 5, cells := 0, slots := 0, locals := 122 }
def wpX5_learn  (σ : Sg) (post : Sg → Prop) : Prop := ((((σ.1 90 7) = 0) → wpX5_findEnds σ (fun σ2 => wpX5_countWays σ2 (fun σ3 => wpX5_listFirst σ3 (fun σ4 => (∀ σ5 : Sg, σ5 = setI σ4 90 7 ((1 : Int32)) → post σ5))))) ∧ ((¬ (σ.1 90 7) = 0) → post σ))
theorem kM_X5_learn : s_M yX5_learn cX5_learn 3 none 2 := ⟨co_X5_learn, in_X5, by decide, by decide, by decide +kernel⟩
set_option maxHeartbeats 4000000 in
set_option maxRecDepth 100000 in
theorem c_X5_learn (l : Launch) (G : s_G)  (σ : Sg) (post : Sg → Prop) (h : wpX5_learn σ post) : Met l yX5_learn (wsU yX5_learn cX5_learn 3 none) rm_X5_learn (va_Pc [.ref (G.2.2 + 90), .ref (G.2.2 + 5), .ref (G.2.2 + 1)] (s_Pre G σ)) (va_Qv post (s_B G) (s_A G.2.2)) 0 0 (s_A G.2.2) := by
  refine Met.ofW (cc := cX5_learn) (maxL := 3) (ret := none) (by decide) rfl ?_
  intro p e s m args below meth c s₁ B hml hv
  obtain ⟨rfl, hP, hrok, hK, hN⟩ := hv
  have C : s_C G p s (([.ref (G.2.2 + 90), .ref (G.2.2 + 5), .ref (G.2.2 + 1)] : List Value).toArray) m c RX5 cX5_learn := ⟨B.exec, B.bytes, findClass_of_methodNamed B.named, fun w hw => atoms_spec (ws := wsU yX5_learn cX5_learn 3 none) B.pre w (List.mem_cons_of_mem _ hw), hK, hN⟩
  have hr := B.returns
  have hlocks := B.notSynchronized
  have S : s_St G σ s.heap s.heap [] := ⟨hP, va_S.rf, hrok⟩
  have hcs : 0 ≤ (rm_X5_learn).cells ∧ 0 ≤ (rm_X5_learn).slots := ⟨Nat.le_refl 0, Nat.le_refl 0⟩
  have hR : ∀ (σ1 : Sg) (H : Heap) (locs : List Loc) (pc : Nat) (ls : Array Slot), decode cX5_learn pc = .ok (.return_, 1) → post σ1 → s_St G σ1 s.heap H locs → W p l e rm_X5_learn s m ([.ref (G.2.2 + 90), .ref (G.2.2 + 5), .ref (G.2.2 + 1)] : List Value).toArray below meth c H locs 0 0 (MQ below (va_Qv post (s_B G) (s_A G.2.2)) ([.ref (G.2.2 + 90), .ref (G.2.2 + 5), .ref (G.2.2 + 1)] : List Value).toArray s 0 0 (s_A G.2.2)) (F0 m pc ls []) := fun _ _ _ _ _ hd hp S => ret_v C hr hlocks hd hp S
  have hl := lv_entry ([.ref (G.2.2 + 90), .ref (G.2.2 + 5), .ref (G.2.2 + 1)]) (n := 3) (Nat.le_of_ble_eq_true rfl)
  rw [lg_entry_eq]
  generalize (lg_sl ([.ref (G.2.2 + 90), .ref (G.2.2 + 5), .ref (G.2.2 + 1)]) ++ List.replicate (3 - (lg_sl ([.ref (G.2.2 + 90), .ref (G.2.2 + 5), .ref (G.2.2 + 1)])).length) Slot.unset).toArray = ls at hl ⊢
  have hl : lv_has ls 3 [(0, .ref (G.2.2 + 90)), (1, .ref (G.2.2 + 5)), (2, .ref (G.2.2 + 1))] := hl
  unfold wpX5_learn at h
  refine lv_aload_n C.1 C.2.1 dX5_learn_0 rfl (lv_at hl 0 rfl) ?_
  refine g_X5_7 C fl_X5_31 kd_90 S dX5_learn_1 ?_
  refine lv_if_eq (tgt := 8) C.1 C.2.1 dX5_learn_4 (by decide) (fun c1 => ?_) (fun c1 => ?_)
  · replace h := h.1 c1
    refine lv_aload_n C.1 C.2.1 dX5_learn_8 rfl (lv_at hl 0 rfl) ?_
    refine lv_aload_n C.1 C.2.1 dX5_learn_9 rfl (lv_at hl 1 rfl) ?_
    refine lv_aload_n C.1 C.2.1 dX5_learn_10 rfl (lv_at hl 2 rfl) ?_
    refine k_v (r_V (As := [.ref (G.2.2 + 5), .ref (G.2.2 + 1)]) (rest := []) C hml (c_X5_findEnds l G σ _ h) kM_X5_findEnds im_X5_findEnds se_X5_findEnds ml_X5_35 ⟨rfl, rfl⟩ ⟨Nat.le_of_ble_eq_true rfl, Nat.le_of_ble_eq_true rfl⟩ hcs S.v kd_90 (by decide) (T := TX5) (N := 8) rfl rfl hl.1 rfl (Nat.le_of_ble_eq_true rfl) dX5_learn_11) S (fun σ2 H locs h S => ?_)
    refine lv_aload_n C.1 C.2.1 dX5_learn_14 rfl (lv_at hl 0 rfl) ?_
    refine lv_aload_n C.1 C.2.1 dX5_learn_15 rfl (lv_at hl 1 rfl) ?_
    refine lv_aload_n C.1 C.2.1 dX5_learn_16 rfl (lv_at hl 2 rfl) ?_
    refine k_v (r_V (As := [.ref (G.2.2 + 5), .ref (G.2.2 + 1)]) (rest := []) C hml (c_X5_countWays l G σ2 _ h) kM_X5_countWays im_X5_countWays se_X5_countWays ml_X5_39 ⟨rfl, rfl⟩ ⟨Nat.le_of_ble_eq_true rfl, Nat.le_of_ble_eq_true rfl⟩ hcs S.v kd_90 (by decide) (T := TX5) (N := 8) rfl rfl hl.1 rfl (Nat.le_of_ble_eq_true rfl) dX5_learn_17) S (fun σ3 H locs h S => ?_)
    refine lv_aload_n C.1 C.2.1 dX5_learn_20 rfl (lv_at hl 0 rfl) ?_
    refine lv_aload_n C.1 C.2.1 dX5_learn_21 rfl (lv_at hl 1 rfl) ?_
    refine lv_aload_n C.1 C.2.1 dX5_learn_22 rfl (lv_at hl 2 rfl) ?_
    refine k_v (r_V (As := [.ref (G.2.2 + 5), .ref (G.2.2 + 1)]) (rest := []) C hml (c_X5_listFirst l G σ3 _ h) kM_X5_listFirst im_X5_listFirst se_X5_listFirst ml_X5_42 ⟨rfl, rfl⟩ ⟨Nat.le_of_ble_eq_true rfl, Nat.le_of_ble_eq_true rfl⟩ hcs S.v kd_90 (by decide) (T := TX5) (N := 8) rfl rfl hl.1 rfl (Nat.le_of_ble_eq_true rfl) dX5_learn_23) S (fun σ4 H locs h S => ?_)
    refine lv_aload_n C.1 C.2.1 dX5_learn_26 rfl (lv_at hl 0 rfl) ?_
    refine lv_iconst (v := (1 : Int32)) C.1 C.2.1 dX5_learn_27 (by decide) ?_
    refine p_X5_7 C fl_X5_31 kd_90 S rfl rfl dX5_learn_28 (fun σ5 H locs e6 S => ?_)
    replace h := h σ5 e6
    exact hR _ _ _ _ _ dX5_learn_31 h S
  · replace h := h.2 c1
    exact hR _ _ _ _ _ dX5_learn_7 h S
/-! X6_fault -/
abbrev rm_X6_fault : Room := { frames := 6, cells := 0, slots := 0, locals := 144 }
def wpX6_fault  (σ : Sg) (post : Int32 → Sg → Prop) : Prop := wpX5_learn σ (fun σ1 => wpX5_exists σ1 (fun r3 σ2 => (((r3 = 0) → wpX5_farthest σ2 (fun r6 σ5 => post r6 σ5)) ∧ ((¬ r3 = 0) → post ((-9 : Int32)) σ2))))
theorem kM_X6_fault : s_M yX6_fault cX6_fault 1 (some .int) 0 := ⟨co_X6_fault, in_X6, by decide, by decide, by decide +kernel⟩
set_option maxHeartbeats 4000000 in
set_option maxRecDepth 100000 in
theorem c_X6_fault (l : Launch) (G : s_G)  (σ : Sg) (post : Int32 → Sg → Prop) (h : wpX6_fault σ post) : Met l yX6_fault (wsU yX6_fault cX6_fault 1 (some .int)) rm_X6_fault (va_Pc [.ref (G.2.2 + 0)] (s_Pre G σ)) (va_Qi post (s_B G) (s_A G.2.2)) 0 0 (s_A G.2.2) := by
  refine Met.ofW (cc := cX6_fault) (maxL := 1) (ret := (some .int)) (by decide) rfl ?_
  intro p e s m args below meth c s₁ B hml hv
  obtain ⟨rfl, hP, hrok, hK, hN⟩ := hv
  have C : s_C G p s (([.ref (G.2.2 + 0)] : List Value).toArray) m c RX6 cX6_fault := ⟨B.exec, B.bytes, findClass_of_methodNamed B.named, fun w hw => atoms_spec (ws := wsU yX6_fault cX6_fault 1 (some .int)) B.pre w (List.mem_cons_of_mem _ hw), hK, hN⟩
  have hr := B.returns
  have hlocks := B.notSynchronized
  have S : s_St G σ s.heap s.heap [] := ⟨hP, va_S.rf, hrok⟩
  have hcs : 0 ≤ (rm_X6_fault).cells ∧ 0 ≤ (rm_X6_fault).slots := ⟨Nat.le_refl 0, Nat.le_refl 0⟩
  have hR : ∀ (r : Int32) (σ1 : Sg) (H : Heap) (locs : List Loc) (pc : Nat) (ls : Array Slot), decode cX6_fault pc = .ok (.ireturn, 1) → post r σ1 → s_St G σ1 s.heap H locs → W p l e rm_X6_fault s m ([.ref (G.2.2 + 0)] : List Value).toArray below meth c H locs 0 0 (MQ below (va_Qi post (s_B G) (s_A G.2.2)) ([.ref (G.2.2 + 0)] : List Value).toArray s 0 0 (s_A G.2.2)) (F0 m pc ls [.int r]) := fun _ _ _ _ _ _ hd hp S => ret_i C hr hlocks hd hp S
  have hl := lv_entry ([.ref (G.2.2 + 0)]) (n := 1) (Nat.le_of_ble_eq_true rfl)
  rw [lg_entry_eq]
  generalize (lg_sl ([.ref (G.2.2 + 0)]) ++ List.replicate (1 - (lg_sl ([.ref (G.2.2 + 0)])).length) Slot.unset).toArray = ls at hl ⊢
  have hl : lv_has ls 1 [(0, .ref (G.2.2 + 0))] := hl
  unfold wpX6_fault at h
  refine lv_aload_n C.1 C.2.1 dX6_fault_0 rfl (lv_at hl 0 rfl) ?_
  refine g_X6_6 C fl_X6_44 kd_0 S fn_0_6 dX6_fault_1 ?_
  refine lv_aload_n C.1 C.2.1 dX6_fault_4 rfl (lv_at hl 0 rfl) ?_
  refine g_X6_2 C fl_X6_22 kd_0 S fn_0_2 dX6_fault_5 ?_
  refine lv_aload_n C.1 C.2.1 dX6_fault_8 rfl (lv_at hl 0 rfl) ?_
  refine g_X6_0 C fl_X6_10 kd_0 S fn_0_0 dX6_fault_9 ?_
  refine k_v (r_VN (As := [.ref (G.2.2 + 5), .ref (G.2.2 + 1)]) (rest := []) C hml (c_X5_learn l G σ _ h) kM_X5_learn im_X5_learn se_X5_learn nm_X6_164 ⟨rfl, rfl⟩ ⟨Nat.le_of_ble_eq_true rfl, Nat.le_of_ble_eq_true rfl⟩ hcs S.v kd_90 (by decide) (T := TX5) (N := 8) rfl rfl hl.1 rfl (Nat.le_of_ble_eq_true rfl) dX6_fault_12) S (fun σ1 H locs h S => ?_)
  refine lv_aload_n C.1 C.2.1 dX6_fault_15 rfl (lv_at hl 0 rfl) ?_
  refine g_X6_6 C fl_X6_44 kd_0 S fn_0_6 dX6_fault_16 ?_
  refine k_i (r_VN (As := []) (rest := []) C hml (c_X5_exists l G σ1 _ h) kM_X5_exists im_X5_exists se_X5_exists nm_X6_168 ⟨rfl, rfl⟩ ⟨Nat.le_of_ble_eq_true rfl, Nat.le_of_ble_eq_true rfl⟩ hcs S.v kd_90 (by decide) (T := TX5) (N := 8) rfl rfl hl.1 rfl (Nat.le_of_ble_eq_true rfl) dX6_fault_19) S (fun r3 σ2 H locs h S => ?_)
  refine lv_if_eq (tgt := 30) C.1 C.2.1 dX6_fault_22 (by decide) (fun c4 => ?_) (fun c4 => ?_)
  · replace h := h.1 c4
    refine lv_aload_n C.1 C.2.1 dX6_fault_30 rfl (lv_at hl 0 rfl) ?_
    refine g_X6_6 C fl_X6_44 kd_0 S fn_0_6 dX6_fault_31 ?_
    refine lv_aload_n C.1 C.2.1 dX6_fault_34 rfl (lv_at hl 0 rfl) ?_
    refine g_X6_2 C fl_X6_22 kd_0 S fn_0_2 dX6_fault_35 ?_
    refine lv_aload_n C.1 C.2.1 dX6_fault_38 rfl (lv_at hl 0 rfl) ?_
    refine g_X6_0 C fl_X6_10 kd_0 S fn_0_0 dX6_fault_39 ?_
    refine k_i (r_VN (As := [.ref (G.2.2 + 5), .ref (G.2.2 + 1)]) (rest := []) C hml (c_X5_farthest l G σ2 _ h) kM_X5_farthest im_X5_farthest se_X5_farthest nm_X6_172 ⟨rfl, rfl⟩ ⟨Nat.le_of_ble_eq_true rfl, Nat.le_of_ble_eq_true rfl⟩ hcs S.v kd_90 (by decide) (T := TX5) (N := 8) rfl rfl hl.1 rfl (Nat.le_of_ble_eq_true rfl) dX6_fault_42) S (fun r6 σ5 H locs h S => ?_)
    exact hR _ _ _ _ _ _ dX6_fault_45 h S
  · replace h := h.2 c4
    refine lv_bipush (v := (-9 : Int32)) C.1 C.2.1 dX6_fault_25 (by decide) ?_
    refine lv_goto (tgt := 45) C.1 C.2.1 dX6_fault_27 (by decide) ?_
    exact hR _ _ _ _ _ _ dX6_fault_45 h S
/-! X6_bitsBelow -/
abbrev rm_X6_bitsBelow : Room := { frames := 0, cells := 0, slots := 0, locals := 0 }
def wpX6_bitsBelow (x0 : Int32) (x1 : Int32) (σ : Sg) (post : Int32 → Sg → Prop) : Prop := post ((x0 &&& (((1 : Int32) <<< (x1 &&& 31)) - (1 : Int32)))) σ
theorem kM_X6_bitsBelow : s_M yX6_bitsBelow cX6_bitsBelow 2 (some .int) 2 := ⟨co_X6_bitsBelow, in_X6, by decide, by decide, by decide +kernel⟩
set_option maxHeartbeats 4000000 in
set_option maxRecDepth 100000 in
theorem c_X6_bitsBelow (l : Launch) (G : s_G) (x0 : Int32) (x1 : Int32) (σ : Sg) (post : Int32 → Sg → Prop) (h : wpX6_bitsBelow x0 x1 σ post) : Met l yX6_bitsBelow (wsU yX6_bitsBelow cX6_bitsBelow 2 (some .int)) rm_X6_bitsBelow (va_Pc [.int x0, .int x1] (s_Pre G σ)) (va_Qi post (s_B G) (s_A G.2.2)) 0 0 (s_A G.2.2) := by
  refine Met.ofW (cc := cX6_bitsBelow) (maxL := 2) (ret := (some .int)) (by decide) rfl ?_
  intro p e s m args below meth c s₁ B hml hv
  obtain ⟨rfl, hP, hrok, hK, hN⟩ := hv
  have C : s_C G p s (([.int x0, .int x1] : List Value).toArray) m c RX6 cX6_bitsBelow := ⟨B.exec, B.bytes, findClass_of_methodNamed B.named, fun w hw => atoms_spec (ws := wsU yX6_bitsBelow cX6_bitsBelow 2 (some .int)) B.pre w (List.mem_cons_of_mem _ hw), hK, hN⟩
  have hr := B.returns
  have hlocks := B.notSynchronized
  have S : s_St G σ s.heap s.heap [] := ⟨hP, va_S.rf, hrok⟩
  have hcs : 0 ≤ (rm_X6_bitsBelow).cells ∧ 0 ≤ (rm_X6_bitsBelow).slots := ⟨Nat.le_refl 0, Nat.le_refl 0⟩
  have hR : ∀ (r : Int32) (σ1 : Sg) (H : Heap) (locs : List Loc) (pc : Nat) (ls : Array Slot), decode cX6_bitsBelow pc = .ok (.ireturn, 1) → post r σ1 → s_St G σ1 s.heap H locs → W p l e rm_X6_bitsBelow s m ([.int x0, .int x1] : List Value).toArray below meth c H locs 0 0 (MQ below (va_Qi post (s_B G) (s_A G.2.2)) ([.int x0, .int x1] : List Value).toArray s 0 0 (s_A G.2.2)) (F0 m pc ls [.int r]) := fun _ _ _ _ _ _ hd hp S => ret_i C hr hlocks hd hp S
  have hl := lv_entry ([.int x0, .int x1]) (n := 2) (Nat.le_of_ble_eq_true rfl)
  rw [lg_entry_eq]
  generalize (lg_sl ([.int x0, .int x1]) ++ List.replicate (2 - (lg_sl ([.int x0, .int x1])).length) Slot.unset).toArray = ls at hl ⊢
  have hl : lv_has ls 2 [(0, .int x0), (1, .int x1)] := hl
  unfold wpX6_bitsBelow at h
  refine lv_iload_n C.1 C.2.1 dX6_bitsBelow_0 rfl (lv_at hl 0 rfl) ?_
  refine lv_iconst (v := (1 : Int32)) C.1 C.2.1 dX6_bitsBelow_1 (by decide) ?_
  refine lv_iload_n C.1 C.2.1 dX6_bitsBelow_2 rfl (lv_at hl 1 rfl) ?_
  refine lv_ishl C.1 C.2.1 dX6_bitsBelow_3 ?_
  refine lv_iconst (v := (1 : Int32)) C.1 C.2.1 dX6_bitsBelow_4 (by decide) ?_
  refine lv_isub C.1 C.2.1 dX6_bitsBelow_5 ?_
  refine lv_iand C.1 C.2.1 dX6_bitsBelow_6 ?_
  exact hR _ _ _ _ _ _ dX6_bitsBelow_7 h S
/-! X3_clashesWith -/
abbrev rm_X3_clashesWith : Room := { frames := 1, cells := 0, slots := 0, locals := 21 }
def wpX3_clashesWith (k0 : Nat) (k1 : Nat) (σ : Sg) (post : Int32 → Sg → Prop) : Prop := wpX3_wordLength k0 σ (fun r2 σ1 => wpX3_wordLength k1 σ1 (fun r4 σ3 => wpX6_bitsBelow ((σ3.1 k0 0)) (((8 : Int32) * (if r4 < r2 then r4 else r2))) σ3 (fun r6 σ5 => wpX6_bitsBelow ((σ5.1 k1 0)) (((8 : Int32) * (if r4 < r2 then r4 else r2))) σ5 (fun r8 σ7 => (((¬ r6 = r8) → post (0 : Int32) σ7) ∧ ((r6 = r8) → post (1 : Int32) σ7))))))
theorem kM_X3_clashesWith : s_M yX3_clashesWith cX3_clashesWith 3 (some .boolean) 1 := ⟨co_X3_clashesWith, in_X3, by decide, by decide, by decide +kernel⟩
set_option maxHeartbeats 4000000 in
set_option maxRecDepth 100000 in
theorem c_X3_clashesWith (l : Launch) (G : s_G) (k0 : Nat) (k1 : Nat) (σ : Sg) (post : Int32 → Sg → Prop) (hk0 : s_kd k0 = 3) (hk1 : s_kd k1 = 3) (h : wpX3_clashesWith k0 k1 σ post) : Met l yX3_clashesWith (wsU yX3_clashesWith cX3_clashesWith 3 (some .boolean)) rm_X3_clashesWith (va_Pc [.ref (G.2.2 + k0), .ref (G.2.2 + k1)] (s_Pre G σ)) (va_Qi post (s_B G) (s_A G.2.2)) 0 0 (s_A G.2.2) := by
  refine Met.ofW (cc := cX3_clashesWith) (maxL := 3) (ret := (some .boolean)) (by decide) rfl ?_
  intro p e s m args below meth c s₁ B hml hv
  obtain ⟨rfl, hP, hrok, hK, hN⟩ := hv
  have C : s_C G p s (([.ref (G.2.2 + k0), .ref (G.2.2 + k1)] : List Value).toArray) m c RX3 cX3_clashesWith := ⟨B.exec, B.bytes, findClass_of_methodNamed B.named, fun w hw => atoms_spec (ws := wsU yX3_clashesWith cX3_clashesWith 3 (some .boolean)) B.pre w (List.mem_cons_of_mem _ hw), hK, hN⟩
  have hr := B.returns
  have hlocks := B.notSynchronized
  have S : s_St G σ s.heap s.heap [] := ⟨hP, va_S.rf, hrok⟩
  have hcs : 0 ≤ (rm_X3_clashesWith).cells ∧ 0 ≤ (rm_X3_clashesWith).slots := ⟨Nat.le_refl 0, Nat.le_refl 0⟩
  have hR : ∀ (r : Int32) (σ1 : Sg) (H : Heap) (locs : List Loc) (pc : Nat) (ls : Array Slot), decode cX3_clashesWith pc = .ok (.ireturn, 1) → narrow .boolean (.int r) = .int r → post r σ1 → s_St G σ1 s.heap H locs → W p l e rm_X3_clashesWith s m ([.ref (G.2.2 + k0), .ref (G.2.2 + k1)] : List Value).toArray below meth c H locs 0 0 (MQ below (va_Qi post (s_B G) (s_A G.2.2)) ([.ref (G.2.2 + k0), .ref (G.2.2 + k1)] : List Value).toArray s 0 0 (s_A G.2.2)) (F0 m pc ls [.int r]) := fun _ _ _ _ _ _ hd hn hp S => ret_z C hr hlocks hd hn hp S
  have hl := lv_entry ([.ref (G.2.2 + k0), .ref (G.2.2 + k1)]) (n := 3) (Nat.le_of_ble_eq_true rfl)
  rw [lg_entry_eq]
  generalize (lg_sl ([.ref (G.2.2 + k0), .ref (G.2.2 + k1)]) ++ List.replicate (3 - (lg_sl ([.ref (G.2.2 + k0), .ref (G.2.2 + k1)])).length) Slot.unset).toArray = ls at hl ⊢
  have hl : lv_has ls 3 [(0, .ref (G.2.2 + k0)), (1, .ref (G.2.2 + k1))] := hl
  unfold wpX3_clashesWith at h
  refine lv_bipush (v := (8 : Int32)) C.1 C.2.1 dX3_clashesWith_0 (by decide) ?_
  refine lv_aload_n C.1 C.2.1 dX3_clashesWith_2 rfl (lv_at hl 0 rfl) ?_
  refine k_i (r_V (As := []) (rest := [.int (8 : Int32)]) C hml (c_X3_wordLength l G k0 σ _ hk0 h) kM_X3_wordLength im_X3_wordLength se_X3_wordLength ml_X3_31 ⟨rfl, rfl⟩ ⟨Nat.le_of_ble_eq_true rfl, Nat.le_of_ble_eq_true rfl⟩ hcs S.v hk0 (by decide) (T := TX3) (N := 6) rfl rfl hl.1 rfl (Nat.le_of_ble_eq_true rfl) dX3_clashesWith_3) S (fun r2 σ1 H locs h S => ?_)
  refine lv_aload_n C.1 C.2.1 dX3_clashesWith_6 rfl (lv_at hl 1 rfl) ?_
  refine k_i (r_V (As := []) (rest := [.int r2, .int (8 : Int32)]) C hml (c_X3_wordLength l G k1 σ1 _ hk1 h) kM_X3_wordLength im_X3_wordLength se_X3_wordLength ml_X3_31 ⟨rfl, rfl⟩ ⟨Nat.le_of_ble_eq_true rfl, Nat.le_of_ble_eq_true rfl⟩ hcs S.v hk1 (by decide) (T := TX3) (N := 6) rfl rfl hl.1 rfl (Nat.le_of_ble_eq_true rfl) dX3_clashesWith_7) S (fun r4 σ3 H locs h S => ?_)
  refine va_mmin C.1 C.2.1 (hml.trans hl.1.symm) C.2.2.1 (C.2.2.2.1 _ ml_X3_35) (C.2.2.2.1 _ st_min) (C.2.2.2.1 _ in_math) (C.2.2.2.1 _ co_min) (Nat.le_of_ble_eq_true rfl) (Nat.le_of_ble_eq_true rfl) hcs.1 hcs.2 dX3_clashesWith_10 ?_
  refine lv_imul C.1 C.2.1 dX3_clashesWith_13 ?_
  refine lv_istore_n (lv' := [(2, .int ((8 : Int32) * (if r4 < r2 then r4 else r2))), (0, .ref (G.2.2 + k0)), (1, .ref (G.2.2 + k1))]) C.1 C.2.1 dX3_clashesWith_14 rfl hl (by decide) rfl (fun ls hl => ?_)
  refine lv_aload_n C.1 C.2.1 dX3_clashesWith_15 rfl (lv_at hl 1 rfl) ?_
  refine g_X3_0 C fl_X3_9 hk0 S dX3_clashesWith_16 ?_
  refine lv_iload_n C.1 C.2.1 dX3_clashesWith_19 rfl (lv_at hl 0 rfl) ?_
  refine k_i (r_SN (As := [.int (σ3.1 k0 0), .int ((8 : Int32) * (if r4 < r2 then r4 else r2))]) (rest := []) C hml (c_X6_bitsBelow l G ((σ3.1 k0 0)) (((8 : Int32) * (if r4 < r2 then r4 else r2))) σ3 _ h) kM_X6_bitsBelow st_X6_bitsBelow nm_X3_41 ⟨rfl, rfl⟩ ⟨Nat.le_of_ble_eq_true rfl, Nat.le_of_ble_eq_true rfl⟩ hcs S.v rfl hl.1 rfl (Nat.le_of_ble_eq_true rfl) dX3_clashesWith_20) S (fun r6 σ5 H locs h S => ?_)
  refine lv_aload_n C.1 C.2.1 dX3_clashesWith_23 rfl (lv_at hl 2 rfl) ?_
  refine g_X3_0 C fl_X3_9 hk1 S dX3_clashesWith_24 ?_
  refine lv_iload_n C.1 C.2.1 dX3_clashesWith_27 rfl (lv_at hl 0 rfl) ?_
  refine k_i (r_SN (As := [.int (σ5.1 k1 0), .int ((8 : Int32) * (if r4 < r2 then r4 else r2))]) (rest := [.int r6]) C hml (c_X6_bitsBelow l G ((σ5.1 k1 0)) (((8 : Int32) * (if r4 < r2 then r4 else r2))) σ5 _ h) kM_X6_bitsBelow st_X6_bitsBelow nm_X3_41 ⟨rfl, rfl⟩ ⟨Nat.le_of_ble_eq_true rfl, Nat.le_of_ble_eq_true rfl⟩ hcs S.v rfl hl.1 rfl (Nat.le_of_ble_eq_true rfl) dX3_clashesWith_28) S (fun r8 σ7 H locs h S => ?_)
  refine lv_icmp_ne (tgt := 38) C.1 C.2.1 dX3_clashesWith_31 (by decide) (fun c9 => ?_) (fun c9 => ?_)
  · replace h := h.1 c9
    refine lv_iconst (v := (0 : Int32)) C.1 C.2.1 dX3_clashesWith_38 (by decide) ?_
    exact hR _ _ _ _ _ _ dX3_clashesWith_39 rfl h S
  · replace h := h.2 c9
    refine lv_iconst (v := (1 : Int32)) C.1 C.2.1 dX3_clashesWith_34 (by decide) ?_
    refine lv_goto (tgt := 39) C.1 C.2.1 dX3_clashesWith_35 (by decide) ?_
    exact hR _ _ _ _ _ _ dX3_clashesWith_39 rfl h S
/-! X1_clashesOf -/
abbrev rm_X1_clashesOf : Room := { frames := 2, cells := 0, slots := 0, locals := 43 }
def BX1_clashesOf_4 (k0 : Nat) (x1 : Int32) (post : Int32 → Sg → Prop) : Nat → Int32 → Int32 → Sg → Prop
  | 0, _, _, _ => False
  | n + 1, x2, x3, σ => ((((σ.1 k0 2) ≤ x3) → post x2 σ) ∧ ((¬ (σ.1 k0 2) ≤ x3) → (((x3 = x1) → BX1_clashesOf_4 k0 x1 post n x2 ((x3 + 1)) σ) ∧ ((¬ x3 = x1) → wpX1_at k0 x1 σ (fun q4 σ3 => s_kd q4 = 3 → wpX1_at k0 x3 σ3 (fun q6 σ5 => s_kd q6 = 3 → wpX3_clashesWith q4 q6 σ5 (fun r8 σ7 => (((r8 = 0) → BX1_clashesOf_4 k0 x1 post n x2 ((x3 + 1)) σ7) ∧ ((¬ r8 = 0) → BX1_clashesOf_4 k0 x1 post n ((x2 ||| ((1 : Int32) <<< (x3 &&& 31)))) ((x3 + 1)) σ7)))))))))
def wpX1_clashesOf (k0 : Nat) (x1 : Int32) (σ : Sg) (post : Int32 → Sg → Prop) : Prop := ∃ nf, BX1_clashesOf_4 k0 x1 post nf ((0 : Int32)) ((0 : Int32)) σ
set_option maxHeartbeats 4000000 in
set_option maxRecDepth 100000 in
theorem TX1_clashesOf_4 (C : s_C G p s args m c RX1 cX1_clashesOf) (hml : c.maxLocals = 4) (hcs : cells ≤ (rm_X1_clashesOf).cells ∧ slots ≤ (rm_X1_clashesOf).slots) {k0 : Nat} {x1 : Int32} (hk0 : s_kd k0 = 1) {post : Int32 → Sg → Prop} (hR : ∀ (r : Int32) (σ1 : Sg) (H : Heap) (locs : List Loc) (pc : Nat) (ls : Array Slot), decode cX1_clashesOf pc = .ok (.ireturn, 1) → post r σ1 → s_St G σ1 H0 H locs → W p l e rm_X1_clashesOf s m args below meth c H locs cells slots Q (F0 m pc ls [.int r])) : ∀ (n : Nat) (x2 : Int32) (x3 : Int32), ∀ {σ : Sg} {H : Heap} {locs : List Loc} {ls : Array Slot}, s_St G σ H0 H locs → lv_has ls 4 [(0, .ref (G.2.2 + k0)), (1, .int x1), (2, .int x2), (3, .int x3)] → BX1_clashesOf_4 k0 x1 post n x2 x3 σ → W p l e rm_X1_clashesOf s m args below meth c H locs cells slots Q (F0 m 4 ls []) := by
  intro n
  induction n with
  | zero =>
    intro x2 x3  σ H locs ls S hl h
    exact absurd h (fun h => h)
  | succ n ih0 =>
    have ih : ∀ (x2 : Int32) (x3 : Int32), ∀ (σ : Sg) (H : Heap) (locs : List Loc) (ls : Array Slot), s_St G σ H0 H locs → lv_has ls 4 [(0, .ref (G.2.2 + k0)), (1, .int x1), (2, .int x2), (3, .int x3)] → BX1_clashesOf_4 k0 x1 post n x2 x3 σ → W p l e rm_X1_clashesOf s m args below meth c H locs cells slots Q (F0 m 4 ls []) := fun x2 x3  _ _ _ _ => ih0 x2 x3 
    intro x2 x3  σ H locs ls S hl h
    refine lv_iload_n C.1 C.2.1 dX1_clashesOf_4 rfl (lv_at hl 3 rfl) ?_
    refine lv_aload_n C.1 C.2.1 dX1_clashesOf_5 rfl (lv_at hl 0 rfl) ?_
    refine g_X1_2 C fl_X1_22 hk0 S dX1_clashesOf_6 ?_
    refine lv_icmp_ge (tgt := 45) C.1 C.2.1 dX1_clashesOf_9 (by decide) (fun c1 => ?_) (fun c1 => ?_)
    · replace h := h.1 c1
      refine lv_iload_n C.1 C.2.1 dX1_clashesOf_45 rfl (lv_at hl 2 rfl) ?_
      exact hR _ _ _ _ _ _ dX1_clashesOf_46 h S
    · replace h := h.2 c1
      refine lv_iload_n C.1 C.2.1 dX1_clashesOf_12 rfl (lv_at hl 3 rfl) ?_
      refine lv_iload_n C.1 C.2.1 dX1_clashesOf_13 rfl (lv_at hl 1 rfl) ?_
      refine lv_icmp_eq (tgt := 39) C.1 C.2.1 dX1_clashesOf_14 (by decide) (fun c2 => ?_) (fun c2 => ?_)
      · replace h := h.1 c2
        refine lv_iinc (v := (x3 + 1)) (lv' := [(3, .int (x3 + 1)), (0, .ref (G.2.2 + k0)), (1, .int x1), (2, .int x2)]) C.1 C.2.1 dX1_clashesOf_39 hl (k := 3) rfl rfl (by decide) rfl (fun ls hl => ?_)
        refine lv_goto (tgt := 4) C.1 C.2.1 dX1_clashesOf_42 (by decide) ?_
        exact ih x2 ((x3 + 1)) _ _ _ _ S (lv_sub hl [1, 2, 3, 0] rfl) h
      · replace h := h.2 c2
        refine lv_aload_n C.1 C.2.1 dX1_clashesOf_17 rfl (lv_at hl 0 rfl) ?_
        refine lv_iload_n C.1 C.2.1 dX1_clashesOf_18 rfl (lv_at hl 1 rfl) ?_
        refine k_r (kd := 3) (r_V (As := [.int x1]) (rest := []) C hml (c_X1_at l G k0 x1 σ _ hk0 h) kM_X1_at im_X1_at se_X1_at ml_X1_29 ⟨rfl, rfl⟩ ⟨Nat.le_of_ble_eq_true rfl, Nat.le_of_ble_eq_true rfl⟩ hcs S.v hk0 (by decide) (T := TX1) (N := 4) rfl rfl hl.1 rfl (Nat.le_of_ble_eq_true rfl) dX1_clashesOf_19) S (fun q4 σ3 H locs hq4 h S => ?_)
        replace h := h hq4
        refine lv_aload_n C.1 C.2.1 dX1_clashesOf_22 rfl (lv_at hl 0 rfl) ?_
        refine lv_iload_n C.1 C.2.1 dX1_clashesOf_23 rfl (lv_at hl 3 rfl) ?_
        refine k_r (kd := 3) (r_V (As := [.int x3]) (rest := [.ref (G.2.2 + q4)]) C hml (c_X1_at l G k0 x3 σ3 _ hk0 h) kM_X1_at im_X1_at se_X1_at ml_X1_29 ⟨rfl, rfl⟩ ⟨Nat.le_of_ble_eq_true rfl, Nat.le_of_ble_eq_true rfl⟩ hcs S.v hk0 (by decide) (T := TX1) (N := 4) rfl rfl hl.1 rfl (Nat.le_of_ble_eq_true rfl) dX1_clashesOf_24) S (fun q6 σ5 H locs hq6 h S => ?_)
        replace h := h hq6
        refine k_i (r_VN (As := [.ref (G.2.2 + q6)]) (rest := []) C hml (c_X3_clashesWith l G q4 q6 σ5 _ hq4 hq6 h) kM_X3_clashesWith im_X3_clashesWith se_X3_clashesWith nm_X1_77 ⟨rfl, rfl⟩ ⟨Nat.le_of_ble_eq_true rfl, Nat.le_of_ble_eq_true rfl⟩ hcs S.v hq4 (by decide) (T := TX3) (N := 6) rfl rfl hl.1 rfl (Nat.le_of_ble_eq_true rfl) dX1_clashesOf_27) S (fun r8 σ7 H locs h S => ?_)
        refine lv_if_eq (tgt := 39) C.1 C.2.1 dX1_clashesOf_30 (by decide) (fun c9 => ?_) (fun c9 => ?_)
        · replace h := h.1 c9
          refine lv_iinc (v := (x3 + 1)) (lv' := [(3, .int (x3 + 1)), (0, .ref (G.2.2 + k0)), (1, .int x1), (2, .int x2)]) C.1 C.2.1 dX1_clashesOf_39 hl (k := 3) rfl rfl (by decide) rfl (fun ls hl => ?_)
          refine lv_goto (tgt := 4) C.1 C.2.1 dX1_clashesOf_42 (by decide) ?_
          exact ih x2 ((x3 + 1)) _ _ _ _ S (lv_sub hl [1, 2, 3, 0] rfl) h
        · replace h := h.2 c9
          refine lv_iload_n C.1 C.2.1 dX1_clashesOf_33 rfl (lv_at hl 2 rfl) ?_
          refine lv_iconst (v := (1 : Int32)) C.1 C.2.1 dX1_clashesOf_34 (by decide) ?_
          refine lv_iload_n C.1 C.2.1 dX1_clashesOf_35 rfl (lv_at hl 3 rfl) ?_
          refine lv_ishl C.1 C.2.1 dX1_clashesOf_36 ?_
          refine lv_ior C.1 C.2.1 dX1_clashesOf_37 ?_
          refine lv_istore_n (lv' := [(2, .int (x2 ||| ((1 : Int32) <<< (x3 &&& 31)))), (0, .ref (G.2.2 + k0)), (1, .int x1), (3, .int x3)]) C.1 C.2.1 dX1_clashesOf_38 rfl hl (by decide) rfl (fun ls hl => ?_)
          refine lv_iinc (v := (x3 + 1)) (lv' := [(3, .int (x3 + 1)), (2, .int (x2 ||| ((1 : Int32) <<< (x3 &&& 31)))), (0, .ref (G.2.2 + k0)), (1, .int x1)]) C.1 C.2.1 dX1_clashesOf_39 hl (k := 3) rfl rfl (by decide) rfl (fun ls hl => ?_)
          refine lv_goto (tgt := 4) C.1 C.2.1 dX1_clashesOf_42 (by decide) ?_
          exact ih ((x2 ||| ((1 : Int32) <<< (x3 &&& 31)))) ((x3 + 1)) _ _ _ _ S (lv_sub hl [2, 3, 1, 0] rfl) h
theorem kM_X1_clashesOf : s_M yX1_clashesOf cX1_clashesOf 4 (some .int) 1 := ⟨co_X1_clashesOf, in_X1, by decide, by decide, by decide +kernel⟩
set_option maxHeartbeats 4000000 in
set_option maxRecDepth 100000 in
theorem c_X1_clashesOf (l : Launch) (G : s_G) (k0 : Nat) (x1 : Int32) (σ : Sg) (post : Int32 → Sg → Prop) (hk0 : s_kd k0 = 1) (h : wpX1_clashesOf k0 x1 σ post) : Met l yX1_clashesOf (wsU yX1_clashesOf cX1_clashesOf 4 (some .int)) rm_X1_clashesOf (va_Pc [.ref (G.2.2 + k0), .int x1] (s_Pre G σ)) (va_Qi post (s_B G) (s_A G.2.2)) 0 0 (s_A G.2.2) := by
  refine Met.ofW (cc := cX1_clashesOf) (maxL := 4) (ret := (some .int)) (by decide) rfl ?_
  intro p e s m args below meth c s₁ B hml hv
  obtain ⟨rfl, hP, hrok, hK, hN⟩ := hv
  have C : s_C G p s (([.ref (G.2.2 + k0), .int x1] : List Value).toArray) m c RX1 cX1_clashesOf := ⟨B.exec, B.bytes, findClass_of_methodNamed B.named, fun w hw => atoms_spec (ws := wsU yX1_clashesOf cX1_clashesOf 4 (some .int)) B.pre w (List.mem_cons_of_mem _ hw), hK, hN⟩
  have hr := B.returns
  have hlocks := B.notSynchronized
  have S : s_St G σ s.heap s.heap [] := ⟨hP, va_S.rf, hrok⟩
  have hcs : 0 ≤ (rm_X1_clashesOf).cells ∧ 0 ≤ (rm_X1_clashesOf).slots := ⟨Nat.le_refl 0, Nat.le_refl 0⟩
  have hR : ∀ (r : Int32) (σ1 : Sg) (H : Heap) (locs : List Loc) (pc : Nat) (ls : Array Slot), decode cX1_clashesOf pc = .ok (.ireturn, 1) → post r σ1 → s_St G σ1 s.heap H locs → W p l e rm_X1_clashesOf s m ([.ref (G.2.2 + k0), .int x1] : List Value).toArray below meth c H locs 0 0 (MQ below (va_Qi post (s_B G) (s_A G.2.2)) ([.ref (G.2.2 + k0), .int x1] : List Value).toArray s 0 0 (s_A G.2.2)) (F0 m pc ls [.int r]) := fun _ _ _ _ _ _ hd hp S => ret_i C hr hlocks hd hp S
  have hl := lv_entry ([.ref (G.2.2 + k0), .int x1]) (n := 4) (Nat.le_of_ble_eq_true rfl)
  rw [lg_entry_eq]
  generalize (lg_sl ([.ref (G.2.2 + k0), .int x1]) ++ List.replicate (4 - (lg_sl ([.ref (G.2.2 + k0), .int x1])).length) Slot.unset).toArray = ls at hl ⊢
  have hl : lv_has ls 4 [(0, .ref (G.2.2 + k0)), (1, .int x1)] := hl
  unfold wpX1_clashesOf at h
  refine lv_iconst (v := (0 : Int32)) C.1 C.2.1 dX1_clashesOf_0 (by decide) ?_
  refine lv_istore_n (lv' := [(2, .int (0 : Int32)), (0, .ref (G.2.2 + k0)), (1, .int x1)]) C.1 C.2.1 dX1_clashesOf_1 rfl hl (by decide) rfl (fun ls hl => ?_)
  refine lv_iconst (v := (0 : Int32)) C.1 C.2.1 dX1_clashesOf_2 (by decide) ?_
  refine lv_istore_n (lv' := [(3, .int (0 : Int32)), (2, .int (0 : Int32)), (0, .ref (G.2.2 + k0)), (1, .int x1)]) C.1 C.2.1 dX1_clashesOf_3 rfl hl (by decide) rfl (fun ls hl => ?_)
  obtain ⟨nf, h⟩ := h
  exact TX1_clashesOf_4 C hml hcs hk0 hR nf ((0 : Int32)) ((0 : Int32)) S (lv_sub hl [2, 3, 1, 0] rfl) h
/-! X1_has -/
abbrev rm_X1_has : Room := { frames := 0, cells := 0, slots := 0, locals := 0 }
def wpX1_has (k0 : Nat) (x1 : Int32) (σ : Sg) (post : Int32 → Sg → Prop) : Prop := (((x1 < 0) → post (0 : Int32) σ) ∧ ((¬ x1 < 0) → ((((σ.1 k0 2) ≤ x1) → post (0 : Int32) σ) ∧ ((¬ (σ.1 k0 2) ≤ x1) → ((((6 : Int32) ≤ x1) → post (0 : Int32) σ) ∧ ((¬ (6 : Int32) ≤ x1) → post (1 : Int32) σ))))))
theorem kM_X1_has : s_M yX1_has cX1_has 2 (some .boolean) 1 := ⟨co_X1_has, in_X1, by decide, by decide, by decide +kernel⟩
set_option maxHeartbeats 4000000 in
set_option maxRecDepth 100000 in
theorem c_X1_has (l : Launch) (G : s_G) (k0 : Nat) (x1 : Int32) (σ : Sg) (post : Int32 → Sg → Prop) (hk0 : s_kd k0 = 1) (h : wpX1_has k0 x1 σ post) : Met l yX1_has (wsU yX1_has cX1_has 2 (some .boolean)) rm_X1_has (va_Pc [.ref (G.2.2 + k0), .int x1] (s_Pre G σ)) (va_Qi post (s_B G) (s_A G.2.2)) 0 0 (s_A G.2.2) := by
  refine Met.ofW (cc := cX1_has) (maxL := 2) (ret := (some .boolean)) (by decide) rfl ?_
  intro p e s m args below meth c s₁ B hml hv
  obtain ⟨rfl, hP, hrok, hK, hN⟩ := hv
  have C : s_C G p s (([.ref (G.2.2 + k0), .int x1] : List Value).toArray) m c RX1 cX1_has := ⟨B.exec, B.bytes, findClass_of_methodNamed B.named, fun w hw => atoms_spec (ws := wsU yX1_has cX1_has 2 (some .boolean)) B.pre w (List.mem_cons_of_mem _ hw), hK, hN⟩
  have hr := B.returns
  have hlocks := B.notSynchronized
  have S : s_St G σ s.heap s.heap [] := ⟨hP, va_S.rf, hrok⟩
  have hcs : 0 ≤ (rm_X1_has).cells ∧ 0 ≤ (rm_X1_has).slots := ⟨Nat.le_refl 0, Nat.le_refl 0⟩
  have hR : ∀ (r : Int32) (σ1 : Sg) (H : Heap) (locs : List Loc) (pc : Nat) (ls : Array Slot), decode cX1_has pc = .ok (.ireturn, 1) → narrow .boolean (.int r) = .int r → post r σ1 → s_St G σ1 s.heap H locs → W p l e rm_X1_has s m ([.ref (G.2.2 + k0), .int x1] : List Value).toArray below meth c H locs 0 0 (MQ below (va_Qi post (s_B G) (s_A G.2.2)) ([.ref (G.2.2 + k0), .int x1] : List Value).toArray s 0 0 (s_A G.2.2)) (F0 m pc ls [.int r]) := fun _ _ _ _ _ _ hd hn hp S => ret_z C hr hlocks hd hn hp S
  have hl := lv_entry ([.ref (G.2.2 + k0), .int x1]) (n := 2) (Nat.le_of_ble_eq_true rfl)
  rw [lg_entry_eq]
  generalize (lg_sl ([.ref (G.2.2 + k0), .int x1]) ++ List.replicate (2 - (lg_sl ([.ref (G.2.2 + k0), .int x1])).length) Slot.unset).toArray = ls at hl ⊢
  have hl : lv_has ls 2 [(0, .ref (G.2.2 + k0)), (1, .int x1)] := hl
  unfold wpX1_has at h
  refine lv_iload_n C.1 C.2.1 dX1_has_0 rfl (lv_at hl 1 rfl) ?_
  refine lv_if_lt (tgt := 25) C.1 C.2.1 dX1_has_1 (by decide) (fun c1 => ?_) (fun c1 => ?_)
  · replace h := h.1 c1
    refine lv_iconst (v := (0 : Int32)) C.1 C.2.1 dX1_has_25 (by decide) ?_
    exact hR _ _ _ _ _ _ dX1_has_26 rfl h S
  · replace h := h.2 c1
    refine lv_iload_n C.1 C.2.1 dX1_has_4 rfl (lv_at hl 1 rfl) ?_
    refine lv_aload_n C.1 C.2.1 dX1_has_5 rfl (lv_at hl 0 rfl) ?_
    refine g_X1_2 C fl_X1_22 hk0 S dX1_has_6 ?_
    refine lv_icmp_ge (tgt := 25) C.1 C.2.1 dX1_has_9 (by decide) (fun c2 => ?_) (fun c2 => ?_)
    · replace h := h.1 c2
      refine lv_iconst (v := (0 : Int32)) C.1 C.2.1 dX1_has_25 (by decide) ?_
      exact hR _ _ _ _ _ _ dX1_has_26 rfl h S
    · replace h := h.2 c2
      refine lv_iload_n C.1 C.2.1 dX1_has_12 rfl (lv_at hl 1 rfl) ?_
      refine lv_aload_n C.1 C.2.1 dX1_has_13 rfl (lv_at hl 0 rfl) ?_
      refine g_X1_0 C fl_X1_11 hk0 S rfl dX1_has_14 ?_
      refine a_len11 C ((kdf_X1_0 hk0)) S (v := (6 : Int32)) (by rw [(lnf_X1_0 hk0)]; rfl) dX1_has_17 ?_
      refine lv_icmp_ge (tgt := 25) C.1 C.2.1 dX1_has_18 (by decide) (fun c3 => ?_) (fun c3 => ?_)
      · replace h := h.1 c3
        refine lv_iconst (v := (0 : Int32)) C.1 C.2.1 dX1_has_25 (by decide) ?_
        exact hR _ _ _ _ _ _ dX1_has_26 rfl h S
      · replace h := h.2 c3
        refine lv_iconst (v := (1 : Int32)) C.1 C.2.1 dX1_has_21 (by decide) ?_
        refine lv_goto (tgt := 26) C.1 C.2.1 dX1_has_22 (by decide) ?_
        exact hR _ _ _ _ _ _ dX1_has_26 rfl h S
/-! X3_property -/
abbrev rm_X3_property : Room := { frames := 0, cells := 0, slots := 0, locals := 0 }
def wpX3_property (k0 : Nat) (x1 : Int32) (σ : Sg) (post : Int32 → Sg → Prop) : Prop := ((((x1).toInt < 0 ∨ 2 < (x1).toInt) → post ((σ.1 k0 4)) σ) ∧ ((x1 = 0) → post ((σ.1 k0 1)) σ) ∧ ((x1 = 1) → post ((σ.1 k0 2)) σ) ∧ ((x1 = 2) → post ((σ.1 k0 3)) σ))
theorem kM_X3_property : s_M yX3_property cX3_property 2 (some .int) 1 := ⟨co_X3_property, in_X3, by decide, by decide, by decide +kernel⟩
set_option maxHeartbeats 4000000 in
set_option maxRecDepth 100000 in
theorem c_X3_property (l : Launch) (G : s_G) (k0 : Nat) (x1 : Int32) (σ : Sg) (post : Int32 → Sg → Prop) (hk0 : s_kd k0 = 3) (h : wpX3_property k0 x1 σ post) : Met l yX3_property (wsU yX3_property cX3_property 2 (some .int)) rm_X3_property (va_Pc [.ref (G.2.2 + k0), .int x1] (s_Pre G σ)) (va_Qi post (s_B G) (s_A G.2.2)) 0 0 (s_A G.2.2) := by
  refine Met.ofW (cc := cX3_property) (maxL := 2) (ret := (some .int)) (by decide) rfl ?_
  intro p e s m args below meth c s₁ B hml hv
  obtain ⟨rfl, hP, hrok, hK, hN⟩ := hv
  have C : s_C G p s (([.ref (G.2.2 + k0), .int x1] : List Value).toArray) m c RX3 cX3_property := ⟨B.exec, B.bytes, findClass_of_methodNamed B.named, fun w hw => atoms_spec (ws := wsU yX3_property cX3_property 2 (some .int)) B.pre w (List.mem_cons_of_mem _ hw), hK, hN⟩
  have hr := B.returns
  have hlocks := B.notSynchronized
  have S : s_St G σ s.heap s.heap [] := ⟨hP, va_S.rf, hrok⟩
  have hcs : 0 ≤ (rm_X3_property).cells ∧ 0 ≤ (rm_X3_property).slots := ⟨Nat.le_refl 0, Nat.le_refl 0⟩
  have hR : ∀ (r : Int32) (σ1 : Sg) (H : Heap) (locs : List Loc) (pc : Nat) (ls : Array Slot), decode cX3_property pc = .ok (.ireturn, 1) → post r σ1 → s_St G σ1 s.heap H locs → W p l e rm_X3_property s m ([.ref (G.2.2 + k0), .int x1] : List Value).toArray below meth c H locs 0 0 (MQ below (va_Qi post (s_B G) (s_A G.2.2)) ([.ref (G.2.2 + k0), .int x1] : List Value).toArray s 0 0 (s_A G.2.2)) (F0 m pc ls [.int r]) := fun _ _ _ _ _ _ hd hp S => ret_i C hr hlocks hd hp S
  have hl := lv_entry ([.ref (G.2.2 + k0), .int x1]) (n := 2) (Nat.le_of_ble_eq_true rfl)
  rw [lg_entry_eq]
  generalize (lg_sl ([.ref (G.2.2 + k0), .int x1]) ++ List.replicate (2 - (lg_sl ([.ref (G.2.2 + k0), .int x1])).length) Slot.unset).toArray = ls at hl ⊢
  have hl : lv_has ls 2 [(0, .ref (G.2.2 + k0)), (1, .int x1)] := hl
  unfold wpX3_property at h
  refine lv_iload_n C.1 C.2.1 dX3_property_0 rfl (lv_at hl 1 rfl) ?_
  rcases (sw_0_2 x1) with c1 | c1 | c1 | c1
  · replace h := h.1 c1
    refine lv_tableOut (tgt := 43) C.1 C.2.1 dX3_property_1 c1 (by decide) ?_
    refine lv_aload_n C.1 C.2.1 dX3_property_43 rfl (lv_at hl 0 rfl) ?_
    refine g_X3_4 C fl_X3_24 hk0 S dX3_property_44 ?_
    exact hR _ _ _ _ _ _ dX3_property_47 h S
  · replace h := h.2.1 c1
    refine lv_tableIn (tgt := 28) (off := 27) C.1 C.2.1 dX3_property_1 (by rw [c1]; decide) (by rw [c1]; decide) (by rw [c1]; decide) (by decide) ?_
    refine lv_aload_n C.1 C.2.1 dX3_property_28 rfl (lv_at hl 0 rfl) ?_
    refine g_X3_1 C fl_X3_15 hk0 S dX3_property_29 ?_
    exact hR _ _ _ _ _ _ dX3_property_32 h S
  · replace h := h.2.2.1 c1
    refine lv_tableIn (tgt := 33) (off := 32) C.1 C.2.1 dX3_property_1 (by rw [c1]; decide) (by rw [c1]; decide) (by rw [c1]; decide) (by decide) ?_
    refine lv_aload_n C.1 C.2.1 dX3_property_33 rfl (lv_at hl 0 rfl) ?_
    refine g_X3_2 C fl_X3_18 hk0 S dX3_property_34 ?_
    exact hR _ _ _ _ _ _ dX3_property_37 h S
  · replace h := h.2.2.2 c1
    refine lv_tableIn (tgt := 38) (off := 37) C.1 C.2.1 dX3_property_1 (by rw [c1]; decide) (by rw [c1]; decide) (by rw [c1]; decide) (by decide) ?_
    refine lv_aload_n C.1 C.2.1 dX3_property_38 rfl (lv_at hl 0 rfl) ?_
    refine g_X3_3 C fl_X3_21 hk0 S dX3_property_39 ?_
    exact hR _ _ _ _ _ _ dX3_property_42 h S
/-! X6_member -/
abbrev rm_X6_member : Room := { frames := 3, cells := 0, slots := 0, locals := 66 }
def wpX6_member (x1 : Int32) (x2 : Int32) (σ : Sg) (post : Int32 → Sg → Prop) : Prop := wpX1_has 5 x1 σ (fun r2 σ1 => (((r2 = 0) → post ((-1 : Int32)) σ1) ∧ ((¬ r2 = 0) → (((x2 < 0) → post ((-1 : Int32)) σ1) ∧ ((¬ x2 < 0) → (((x2 ≤ (9 : Int32)) → wpX1_at 5 x1 σ1 (fun q7 σ6 => s_kd q7 = 3 → ((((x2).toInt < 4 ∨ 9 < (x2).toInt) → wpX3_property q7 x2 σ6 (fun r10 σ9 => post r10 σ9)) ∧ ((x2 = 4) → wpX3_wordLength q7 σ6 (fun r12 σ11 => post r12 σ11)) ∧ ((x2 = 5) → wpX3_letter q7 ((x2 - (5 : Int32))) σ6 (fun r14 σ13 => post r14 σ13)) ∧ ((x2 = 6) → wpX3_letter q7 ((x2 - (5 : Int32))) σ6 (fun r16 σ15 => post r16 σ15)) ∧ ((x2 = 7) → wpX3_letter q7 ((x2 - (5 : Int32))) σ6 (fun r18 σ17 => post r18 σ17)) ∧ ((x2 = 8) → post ((σ6.1 q7 5)) σ6) ∧ ((x2 = 9) → wpX1_clashesOf 5 x1 σ6 (fun r20 σ19 => post r20 σ19))))) ∧ ((¬ x2 ≤ (9 : Int32)) → post ((-1 : Int32)) σ1)))))))
theorem kM_X6_member : s_M yX6_member cX6_member 4 (some .int) 2 := ⟨co_X6_member, in_X6, by decide, by decide, by decide +kernel⟩
set_option maxHeartbeats 4000000 in
set_option maxRecDepth 100000 in
theorem c_X6_member (l : Launch) (G : s_G) (x1 : Int32) (x2 : Int32) (σ : Sg) (post : Int32 → Sg → Prop) (h : wpX6_member x1 x2 σ post) : Met l yX6_member (wsU yX6_member cX6_member 4 (some .int)) rm_X6_member (va_Pc [.ref (G.2.2 + 0), .int x1, .int x2] (s_Pre G σ)) (va_Qi post (s_B G) (s_A G.2.2)) 0 0 (s_A G.2.2) := by
  refine Met.ofW (cc := cX6_member) (maxL := 4) (ret := (some .int)) (by decide) rfl ?_
  intro p e s m args below meth c s₁ B hml hv
  obtain ⟨rfl, hP, hrok, hK, hN⟩ := hv
  have C : s_C G p s (([.ref (G.2.2 + 0), .int x1, .int x2] : List Value).toArray) m c RX6 cX6_member := ⟨B.exec, B.bytes, findClass_of_methodNamed B.named, fun w hw => atoms_spec (ws := wsU yX6_member cX6_member 4 (some .int)) B.pre w (List.mem_cons_of_mem _ hw), hK, hN⟩
  have hr := B.returns
  have hlocks := B.notSynchronized
  have S : s_St G σ s.heap s.heap [] := ⟨hP, va_S.rf, hrok⟩
  have hcs : 0 ≤ (rm_X6_member).cells ∧ 0 ≤ (rm_X6_member).slots := ⟨Nat.le_refl 0, Nat.le_refl 0⟩
  have hR : ∀ (r : Int32) (σ1 : Sg) (H : Heap) (locs : List Loc) (pc : Nat) (ls : Array Slot), decode cX6_member pc = .ok (.ireturn, 1) → post r σ1 → s_St G σ1 s.heap H locs → W p l e rm_X6_member s m ([.ref (G.2.2 + 0), .int x1, .int x2] : List Value).toArray below meth c H locs 0 0 (MQ below (va_Qi post (s_B G) (s_A G.2.2)) ([.ref (G.2.2 + 0), .int x1, .int x2] : List Value).toArray s 0 0 (s_A G.2.2)) (F0 m pc ls [.int r]) := fun _ _ _ _ _ _ hd hp S => ret_i C hr hlocks hd hp S
  have hl := lv_entry ([.ref (G.2.2 + 0), .int x1, .int x2]) (n := 4) (Nat.le_of_ble_eq_true rfl)
  rw [lg_entry_eq]
  generalize (lg_sl ([.ref (G.2.2 + 0), .int x1, .int x2]) ++ List.replicate (4 - (lg_sl ([.ref (G.2.2 + 0), .int x1, .int x2])).length) Slot.unset).toArray = ls at hl ⊢
  have hl : lv_has ls 4 [(0, .ref (G.2.2 + 0)), (1, .int x1), (2, .int x2)] := hl
  unfold wpX6_member at h
  refine lv_aload_n C.1 C.2.1 dX6_member_0 rfl (lv_at hl 0 rfl) ?_
  refine g_X6_2 C fl_X6_22 kd_0 S fn_0_2 dX6_member_1 ?_
  refine lv_iload_n C.1 C.2.1 dX6_member_4 rfl (lv_at hl 1 rfl) ?_
  refine k_i (r_VN (As := [.int x1]) (rest := []) C hml (c_X1_has l G 5 x1 σ _ kd_5 h) kM_X1_has im_X1_has se_X1_has nm_X6_89 ⟨rfl, rfl⟩ ⟨Nat.le_of_ble_eq_true rfl, Nat.le_of_ble_eq_true rfl⟩ hcs S.v kd_5 (by decide) (T := TX1) (N := 4) rfl rfl hl.1 rfl (Nat.le_of_ble_eq_true rfl) dX6_member_5) S (fun r2 σ1 H locs h S => ?_)
  refine lv_if_eq (tgt := 21) C.1 C.2.1 dX6_member_8 (by decide) (fun c3 => ?_) (fun c3 => ?_)
  · replace h := h.1 c3
    refine lv_iconst (v := (-1 : Int32)) C.1 C.2.1 dX6_member_21 (by decide) ?_
    exact hR _ _ _ _ _ _ dX6_member_22 h S
  · replace h := h.2 c3
    refine lv_iload_n C.1 C.2.1 dX6_member_11 rfl (lv_at hl 2 rfl) ?_
    refine lv_if_lt (tgt := 21) C.1 C.2.1 dX6_member_12 (by decide) (fun c4 => ?_) (fun c4 => ?_)
    · replace h := h.1 c4
      refine lv_iconst (v := (-1 : Int32)) C.1 C.2.1 dX6_member_21 (by decide) ?_
      exact hR _ _ _ _ _ _ dX6_member_22 h S
    · replace h := h.2 c4
      refine lv_iload_n C.1 C.2.1 dX6_member_15 rfl (lv_at hl 2 rfl) ?_
      refine lv_bipush (v := (9 : Int32)) C.1 C.2.1 dX6_member_16 (by decide) ?_
      refine lv_icmp_le (tgt := 23) C.1 C.2.1 dX6_member_18 (by decide) (fun c5 => ?_) (fun c5 => ?_)
      · replace h := h.1 c5
        refine lv_aload_n C.1 C.2.1 dX6_member_23 rfl (lv_at hl 0 rfl) ?_
        refine g_X6_2 C fl_X6_22 kd_0 S fn_0_2 dX6_member_24 ?_
        refine lv_iload_n C.1 C.2.1 dX6_member_27 rfl (lv_at hl 1 rfl) ?_
        refine k_r (kd := 3) (r_VN (As := [.int x1]) (rest := []) C hml (c_X1_at l G 5 x1 σ1 _ kd_5 h) kM_X1_at im_X1_at se_X1_at nm_X6_96 ⟨rfl, rfl⟩ ⟨Nat.le_of_ble_eq_true rfl, Nat.le_of_ble_eq_true rfl⟩ hcs S.v kd_5 (by decide) (T := TX1) (N := 4) rfl rfl hl.1 rfl (Nat.le_of_ble_eq_true rfl) dX6_member_28) S (fun q7 σ6 H locs hq7 h S => ?_)
        replace h := h hq7
        refine lv_astore_n (lv' := [(3, .ref (G.2.2 + q7)), (0, .ref (G.2.2 + 0)), (1, .int x1), (2, .int x2)]) C.1 C.2.1 dX6_member_31 rfl hl (by decide) rfl (fun ls hl => ?_)
        refine lv_iload_n C.1 C.2.1 dX6_member_32 rfl (lv_at hl 3 rfl) ?_
        rcases (sw_4_9 x2) with c8 | c8 | c8 | c8 | c8 | c8 | c8
        · replace h := h.1 c8
          refine lv_tableOut (tgt := 99) C.1 C.2.1 dX6_member_33 c8 (by decide) ?_
          refine lv_aload_n C.1 C.2.1 dX6_member_99 rfl (lv_at hl 0 rfl) ?_
          refine lv_iload_n C.1 C.2.1 dX6_member_100 rfl (lv_at hl 3 rfl) ?_
          refine k_i (r_VN (As := [.int x2]) (rest := []) C hml (c_X3_property l G q7 x2 σ6 _ hq7 h) kM_X3_property im_X3_property se_X3_property nm_X6_161 ⟨rfl, rfl⟩ ⟨Nat.le_of_ble_eq_true rfl, Nat.le_of_ble_eq_true rfl⟩ hcs S.v hq7 (by decide) (T := TX3) (N := 6) rfl rfl hl.1 rfl (Nat.le_of_ble_eq_true rfl) dX6_member_101) S (fun r10 σ9 H locs h S => ?_)
          exact hR _ _ _ _ _ _ dX6_member_104 h S
        · replace h := h.2.1 c8
          refine lv_tableIn (tgt := 72) (off := 39) C.1 C.2.1 dX6_member_33 (by rw [c8]; decide) (by rw [c8]; decide) (by rw [c8]; decide) (by decide) ?_
          refine lv_aload_n C.1 C.2.1 dX6_member_72 rfl (lv_at hl 0 rfl) ?_
          refine k_i (r_VN (As := []) (rest := []) C hml (c_X3_wordLength l G q7 σ6 _ hq7 h) kM_X3_wordLength im_X3_wordLength se_X3_wordLength nm_X6_151 ⟨rfl, rfl⟩ ⟨Nat.le_of_ble_eq_true rfl, Nat.le_of_ble_eq_true rfl⟩ hcs S.v hq7 (by decide) (T := TX3) (N := 6) rfl rfl hl.1 rfl (Nat.le_of_ble_eq_true rfl) dX6_member_73) S (fun r12 σ11 H locs h S => ?_)
          exact hR _ _ _ _ _ _ dX6_member_76 h S
        · replace h := h.2.2.1 c8
          refine lv_tableIn (tgt := 77) (off := 44) C.1 C.2.1 dX6_member_33 (by rw [c8]; decide) (by rw [c8]; decide) (by rw [c8]; decide) (by decide) ?_
          refine lv_aload_n C.1 C.2.1 dX6_member_77 rfl (lv_at hl 0 rfl) ?_
          refine lv_iload_n C.1 C.2.1 dX6_member_78 rfl (lv_at hl 3 rfl) ?_
          refine lv_iconst (v := (5 : Int32)) C.1 C.2.1 dX6_member_79 (by decide) ?_
          refine lv_isub C.1 C.2.1 dX6_member_80 ?_
          refine k_i (r_VN (As := [.int (x2 - (5 : Int32))]) (rest := []) C hml (c_X3_letter l G q7 ((x2 - (5 : Int32))) σ6 _ hq7 h) kM_X3_letter im_X3_letter se_X3_letter nm_X6_154 ⟨rfl, rfl⟩ ⟨Nat.le_of_ble_eq_true rfl, Nat.le_of_ble_eq_true rfl⟩ hcs S.v hq7 (by decide) (T := TX3) (N := 6) rfl rfl hl.1 rfl (Nat.le_of_ble_eq_true rfl) dX6_member_81) S (fun r14 σ13 H locs h S => ?_)
          exact hR _ _ _ _ _ _ dX6_member_84 h S
        · replace h := h.2.2.2.1 c8
          refine lv_tableIn (tgt := 77) (off := 44) C.1 C.2.1 dX6_member_33 (by rw [c8]; decide) (by rw [c8]; decide) (by rw [c8]; decide) (by decide) ?_
          refine lv_aload_n C.1 C.2.1 dX6_member_77 rfl (lv_at hl 0 rfl) ?_
          refine lv_iload_n C.1 C.2.1 dX6_member_78 rfl (lv_at hl 3 rfl) ?_
          refine lv_iconst (v := (5 : Int32)) C.1 C.2.1 dX6_member_79 (by decide) ?_
          refine lv_isub C.1 C.2.1 dX6_member_80 ?_
          refine k_i (r_VN (As := [.int (x2 - (5 : Int32))]) (rest := []) C hml (c_X3_letter l G q7 ((x2 - (5 : Int32))) σ6 _ hq7 h) kM_X3_letter im_X3_letter se_X3_letter nm_X6_154 ⟨rfl, rfl⟩ ⟨Nat.le_of_ble_eq_true rfl, Nat.le_of_ble_eq_true rfl⟩ hcs S.v hq7 (by decide) (T := TX3) (N := 6) rfl rfl hl.1 rfl (Nat.le_of_ble_eq_true rfl) dX6_member_81) S (fun r16 σ15 H locs h S => ?_)
          exact hR _ _ _ _ _ _ dX6_member_84 h S
        · replace h := h.2.2.2.2.1 c8
          refine lv_tableIn (tgt := 77) (off := 44) C.1 C.2.1 dX6_member_33 (by rw [c8]; decide) (by rw [c8]; decide) (by rw [c8]; decide) (by decide) ?_
          refine lv_aload_n C.1 C.2.1 dX6_member_77 rfl (lv_at hl 0 rfl) ?_
          refine lv_iload_n C.1 C.2.1 dX6_member_78 rfl (lv_at hl 3 rfl) ?_
          refine lv_iconst (v := (5 : Int32)) C.1 C.2.1 dX6_member_79 (by decide) ?_
          refine lv_isub C.1 C.2.1 dX6_member_80 ?_
          refine k_i (r_VN (As := [.int (x2 - (5 : Int32))]) (rest := []) C hml (c_X3_letter l G q7 ((x2 - (5 : Int32))) σ6 _ hq7 h) kM_X3_letter im_X3_letter se_X3_letter nm_X6_154 ⟨rfl, rfl⟩ ⟨Nat.le_of_ble_eq_true rfl, Nat.le_of_ble_eq_true rfl⟩ hcs S.v hq7 (by decide) (T := TX3) (N := 6) rfl rfl hl.1 rfl (Nat.le_of_ble_eq_true rfl) dX6_member_81) S (fun r18 σ17 H locs h S => ?_)
          exact hR _ _ _ _ _ _ dX6_member_84 h S
        · replace h := h.2.2.2.2.2.1 c8
          refine lv_tableIn (tgt := 85) (off := 52) C.1 C.2.1 dX6_member_33 (by rw [c8]; decide) (by rw [c8]; decide) (by rw [c8]; decide) (by decide) ?_
          refine lv_aload_n C.1 C.2.1 dX6_member_85 rfl (lv_at hl 0 rfl) ?_
          refine gn_X3_5 C nf_X6_117 hq7 S dX6_member_86 ?_
          exact hR _ _ _ _ _ _ dX6_member_89 h S
        · replace h := h.2.2.2.2.2.2 c8
          refine lv_tableIn (tgt := 90) (off := 57) C.1 C.2.1 dX6_member_33 (by rw [c8]; decide) (by rw [c8]; decide) (by rw [c8]; decide) (by decide) ?_
          refine lv_aload_n C.1 C.2.1 dX6_member_90 rfl (lv_at hl 1 rfl) ?_
          refine g_X6_2 C fl_X6_22 kd_0 S fn_0_2 dX6_member_91 ?_
          refine lv_iload_n C.1 C.2.1 dX6_member_94 rfl (lv_at hl 2 rfl) ?_
          refine k_i (r_VN (As := [.int x1]) (rest := []) C hml (c_X1_clashesOf l G 5 x1 σ6 _ kd_5 h) kM_X1_clashesOf im_X1_clashesOf se_X1_clashesOf nm_X6_158 ⟨rfl, rfl⟩ ⟨Nat.le_of_ble_eq_true rfl, Nat.le_of_ble_eq_true rfl⟩ hcs S.v kd_5 (by decide) (T := TX1) (N := 4) rfl rfl hl.1 rfl (Nat.le_of_ble_eq_true rfl) dX6_member_95) S (fun r20 σ19 H locs h S => ?_)
          exact hR _ _ _ _ _ _ dX6_member_98 h S
      · replace h := h.2 c5
        refine lv_iconst (v := (-1 : Int32)) C.1 C.2.1 dX6_member_21 (by decide) ?_
        exact hR _ _ _ _ _ _ dX6_member_22 h S
/-! X5_membersGoingOn -/
abbrev rm_X5_membersGoingOn : Room := { frames := 3, cells := 0, slots := 0, locals := 68 }
def BX5_membersGoingOn_8  (post : Int32 → Sg → Prop) : Nat → Int32 → Int32 → Int32 → Sg → Prop
  | 0, _, _, _, _ => False
  | n + 1, x3, x4, x5, σ => wpX1_tallies 5 σ (fun r2 σ1 => (((r2 ≤ x5) → (((x3 = 0) → post ((-9 : Int32)) σ1) ∧ ((¬ x3 = 0) → post x4 σ1))) ∧ ((¬ r2 ≤ x5) → wpX5_endOf x5 σ1 (fun r6 σ5 => (((¬ r6 = (σ5.1 1 1)) → BX5_membersGoingOn_8 post n x3 x4 ((x5 + 1)) σ5) ∧ ((r6 = (σ5.1 1 1)) → wpX1_followers 5 x5 σ5 (fun r9 σ8 => BX5_membersGoingOn_8 post n ((1 : Int32)) ((x4 ||| r9)) ((x5 + 1)) σ8)))))))
def wpX5_membersGoingOn  (σ : Sg) (post : Int32 → Sg → Prop) : Prop := ∃ nf, BX5_membersGoingOn_8 post nf ((0 : Int32)) ((0 : Int32)) ((0 : Int32)) σ
set_option maxHeartbeats 4000000 in
set_option maxRecDepth 100000 in
theorem TX5_membersGoingOn_8 (C : s_C G p s args m c RX5 cX5_membersGoingOn) (hml : c.maxLocals = 6) (hcs : cells ≤ (rm_X5_membersGoingOn).cells ∧ slots ≤ (rm_X5_membersGoingOn).slots)  {post : Int32 → Sg → Prop} (hR : ∀ (r : Int32) (σ1 : Sg) (H : Heap) (locs : List Loc) (pc : Nat) (ls : Array Slot), decode cX5_membersGoingOn pc = .ok (.ireturn, 1) → post r σ1 → s_St G σ1 H0 H locs → W p l e rm_X5_membersGoingOn s m args below meth c H locs cells slots Q (F0 m pc ls [.int r])) : ∀ (n : Nat) (x3 : Int32) (x4 : Int32) (x5 : Int32), ∀ {σ : Sg} {H : Heap} {locs : List Loc} {ls : Array Slot}, s_St G σ H0 H locs → lv_has ls 6 [(0, .ref (G.2.2 + 90)), (1, .ref (G.2.2 + 5)), (2, .ref (G.2.2 + 1)), (3, .int x3), (4, .int x4), (5, .int x5)] → BX5_membersGoingOn_8 post n x3 x4 x5 σ → W p l e rm_X5_membersGoingOn s m args below meth c H locs cells slots Q (F0 m 8 ls []) := by
  intro n
  induction n with
  | zero =>
    intro x3 x4 x5  σ H locs ls S hl h
    exact absurd h (fun h => h)
  | succ n ih0 =>
    have ih : ∀ (x3 : Int32) (x4 : Int32) (x5 : Int32), ∀ (σ : Sg) (H : Heap) (locs : List Loc) (ls : Array Slot), s_St G σ H0 H locs → lv_has ls 6 [(0, .ref (G.2.2 + 90)), (1, .ref (G.2.2 + 5)), (2, .ref (G.2.2 + 1)), (3, .int x3), (4, .int x4), (5, .int x5)] → BX5_membersGoingOn_8 post n x3 x4 x5 σ → W p l e rm_X5_membersGoingOn s m args below meth c H locs cells slots Q (F0 m 8 ls []) := fun x3 x4 x5  _ _ _ _ => ih0 x3 x4 x5 
    intro x3 x4 x5  σ H locs ls S hl h
    refine lv_iload C.1 C.2.1 dX5_membersGoingOn_8 (lv_at hl 5 rfl) ?_
    refine lv_aload_n C.1 C.2.1 dX5_membersGoingOn_10 rfl (lv_at hl 1 rfl) ?_
    refine k_i (r_VN (As := []) (rest := [.int x5]) C hml (c_X1_tallies l G 5 σ _ kd_5 h) kM_X1_tallies im_X1_tallies se_X1_tallies nm_X5_53 ⟨rfl, rfl⟩ ⟨Nat.le_of_ble_eq_true rfl, Nat.le_of_ble_eq_true rfl⟩ hcs S.v kd_5 (by decide) (T := TX1) (N := 4) rfl rfl hl.1 rfl (Nat.le_of_ble_eq_true rfl) dX5_membersGoingOn_11) S (fun r2 σ1 H locs h S => ?_)
    refine lv_icmp_ge (tgt := 49) C.1 C.2.1 dX5_membersGoingOn_14 (by decide) (fun c3 => ?_) (fun c3 => ?_)
    · replace h := h.1 c3
      refine lv_iload_n C.1 C.2.1 dX5_membersGoingOn_49 rfl (lv_at hl 3 rfl) ?_
      refine lv_if_eq (tgt := 58) C.1 C.2.1 dX5_membersGoingOn_50 (by decide) (fun c4 => ?_) (fun c4 => ?_)
      · replace h := h.1 c4
        refine lv_bipush (v := (-9 : Int32)) C.1 C.2.1 dX5_membersGoingOn_58 (by decide) ?_
        exact hR _ _ _ _ _ _ dX5_membersGoingOn_60 h S
      · replace h := h.2 c4
        refine lv_iload C.1 C.2.1 dX5_membersGoingOn_53 (lv_at hl 4 rfl) ?_
        refine lv_goto (tgt := 60) C.1 C.2.1 dX5_membersGoingOn_55 (by decide) ?_
        exact hR _ _ _ _ _ _ dX5_membersGoingOn_60 h S
    · replace h := h.2 c3
      refine lv_aload_n C.1 C.2.1 dX5_membersGoingOn_17 rfl (lv_at hl 0 rfl) ?_
      refine lv_iload C.1 C.2.1 dX5_membersGoingOn_18 (lv_at hl 5 rfl) ?_
      refine k_i (r_V (As := [.int x5]) (rest := []) C hml (c_X5_endOf l G x5 σ1 _ h) kM_X5_endOf im_X5_endOf se_X5_endOf ml_X5_59 ⟨rfl, rfl⟩ ⟨Nat.le_of_ble_eq_true rfl, Nat.le_of_ble_eq_true rfl⟩ hcs S.v kd_90 (by decide) (T := TX5) (N := 8) rfl rfl hl.1 rfl (Nat.le_of_ble_eq_true rfl) dX5_membersGoingOn_20) S (fun r6 σ5 H locs h S => ?_)
      refine lv_aload_n C.1 C.2.1 dX5_membersGoingOn_23 rfl (lv_at hl 2 rfl) ?_
      refine gn_X0_1 C nf_X5_104 kd_1 S dX5_membersGoingOn_24 ?_
      refine lv_icmp_ne (tgt := 43) C.1 C.2.1 dX5_membersGoingOn_27 (by decide) (fun c7 => ?_) (fun c7 => ?_)
      · replace h := h.1 c7
        refine lv_iinc (v := (x5 + 1)) (lv' := [(5, .int (x5 + 1)), (0, .ref (G.2.2 + 90)), (1, .ref (G.2.2 + 5)), (2, .ref (G.2.2 + 1)), (3, .int x3), (4, .int x4)]) C.1 C.2.1 dX5_membersGoingOn_43 hl (k := 5) rfl rfl (by decide) rfl (fun ls hl => ?_)
        refine lv_goto (tgt := 8) C.1 C.2.1 dX5_membersGoingOn_46 (by decide) ?_
        exact ih x3 x4 ((x5 + 1)) _ _ _ _ S (lv_sub hl [1, 2, 3, 4, 5, 0] rfl) h
      · replace h := h.2 c7
        refine lv_iconst (v := (1 : Int32)) C.1 C.2.1 dX5_membersGoingOn_30 (by decide) ?_
        refine lv_istore_n (lv' := [(3, .int (1 : Int32)), (0, .ref (G.2.2 + 90)), (1, .ref (G.2.2 + 5)), (2, .ref (G.2.2 + 1)), (4, .int x4), (5, .int x5)]) C.1 C.2.1 dX5_membersGoingOn_31 rfl hl (by decide) rfl (fun ls hl => ?_)
        refine lv_iload C.1 C.2.1 dX5_membersGoingOn_32 (lv_at hl 4 rfl) ?_
        refine lv_aload_n C.1 C.2.1 dX5_membersGoingOn_34 rfl (lv_at hl 2 rfl) ?_
        refine lv_iload C.1 C.2.1 dX5_membersGoingOn_35 (lv_at hl 5 rfl) ?_
        refine k_i (r_VN (As := [.int x5]) (rest := [.int x4]) C hml (c_X1_followers l G 5 x5 σ5 _ kd_5 h) kM_X1_followers im_X1_followers se_X1_followers nm_X5_70 ⟨rfl, rfl⟩ ⟨Nat.le_of_ble_eq_true rfl, Nat.le_of_ble_eq_true rfl⟩ hcs S.v kd_5 (by decide) (T := TX1) (N := 4) rfl rfl hl.1 rfl (Nat.le_of_ble_eq_true rfl) dX5_membersGoingOn_37) S (fun r9 σ8 H locs h S => ?_)
        refine lv_ior C.1 C.2.1 dX5_membersGoingOn_40 ?_
        refine lv_istore (lv' := [(4, .int (x4 ||| r9)), (3, .int (1 : Int32)), (0, .ref (G.2.2 + 90)), (1, .ref (G.2.2 + 5)), (2, .ref (G.2.2 + 1)), (5, .int x5)]) C.1 C.2.1 dX5_membersGoingOn_41 hl (by decide) rfl (fun ls hl => ?_)
        refine lv_iinc (v := (x5 + 1)) (lv' := [(5, .int (x5 + 1)), (4, .int (x4 ||| r9)), (3, .int (1 : Int32)), (0, .ref (G.2.2 + 90)), (1, .ref (G.2.2 + 5)), (2, .ref (G.2.2 + 1))]) C.1 C.2.1 dX5_membersGoingOn_43 hl (k := 5) rfl rfl (by decide) rfl (fun ls hl => ?_)
        refine lv_goto (tgt := 8) C.1 C.2.1 dX5_membersGoingOn_46 (by decide) ?_
        exact ih ((1 : Int32)) ((x4 ||| r9)) ((x5 + 1)) _ _ _ _ S (lv_sub hl [3, 4, 5, 2, 1, 0] rfl) h
theorem kM_X5_membersGoingOn : s_M yX5_membersGoingOn cX5_membersGoingOn 6 (some .int) 2 := ⟨co_X5_membersGoingOn, in_X5, by decide, by decide, by decide +kernel⟩
set_option maxHeartbeats 4000000 in
set_option maxRecDepth 100000 in
theorem c_X5_membersGoingOn (l : Launch) (G : s_G)  (σ : Sg) (post : Int32 → Sg → Prop) (h : wpX5_membersGoingOn σ post) : Met l yX5_membersGoingOn (wsU yX5_membersGoingOn cX5_membersGoingOn 6 (some .int)) rm_X5_membersGoingOn (va_Pc [.ref (G.2.2 + 90), .ref (G.2.2 + 5), .ref (G.2.2 + 1)] (s_Pre G σ)) (va_Qi post (s_B G) (s_A G.2.2)) 0 0 (s_A G.2.2) := by
  refine Met.ofW (cc := cX5_membersGoingOn) (maxL := 6) (ret := (some .int)) (by decide) rfl ?_
  intro p e s m args below meth c s₁ B hml hv
  obtain ⟨rfl, hP, hrok, hK, hN⟩ := hv
  have C : s_C G p s (([.ref (G.2.2 + 90), .ref (G.2.2 + 5), .ref (G.2.2 + 1)] : List Value).toArray) m c RX5 cX5_membersGoingOn := ⟨B.exec, B.bytes, findClass_of_methodNamed B.named, fun w hw => atoms_spec (ws := wsU yX5_membersGoingOn cX5_membersGoingOn 6 (some .int)) B.pre w (List.mem_cons_of_mem _ hw), hK, hN⟩
  have hr := B.returns
  have hlocks := B.notSynchronized
  have S : s_St G σ s.heap s.heap [] := ⟨hP, va_S.rf, hrok⟩
  have hcs : 0 ≤ (rm_X5_membersGoingOn).cells ∧ 0 ≤ (rm_X5_membersGoingOn).slots := ⟨Nat.le_refl 0, Nat.le_refl 0⟩
  have hR : ∀ (r : Int32) (σ1 : Sg) (H : Heap) (locs : List Loc) (pc : Nat) (ls : Array Slot), decode cX5_membersGoingOn pc = .ok (.ireturn, 1) → post r σ1 → s_St G σ1 s.heap H locs → W p l e rm_X5_membersGoingOn s m ([.ref (G.2.2 + 90), .ref (G.2.2 + 5), .ref (G.2.2 + 1)] : List Value).toArray below meth c H locs 0 0 (MQ below (va_Qi post (s_B G) (s_A G.2.2)) ([.ref (G.2.2 + 90), .ref (G.2.2 + 5), .ref (G.2.2 + 1)] : List Value).toArray s 0 0 (s_A G.2.2)) (F0 m pc ls [.int r]) := fun _ _ _ _ _ _ hd hp S => ret_i C hr hlocks hd hp S
  have hl := lv_entry ([.ref (G.2.2 + 90), .ref (G.2.2 + 5), .ref (G.2.2 + 1)]) (n := 6) (Nat.le_of_ble_eq_true rfl)
  rw [lg_entry_eq]
  generalize (lg_sl ([.ref (G.2.2 + 90), .ref (G.2.2 + 5), .ref (G.2.2 + 1)]) ++ List.replicate (6 - (lg_sl ([.ref (G.2.2 + 90), .ref (G.2.2 + 5), .ref (G.2.2 + 1)])).length) Slot.unset).toArray = ls at hl ⊢
  have hl : lv_has ls 6 [(0, .ref (G.2.2 + 90)), (1, .ref (G.2.2 + 5)), (2, .ref (G.2.2 + 1))] := hl
  unfold wpX5_membersGoingOn at h
  refine lv_iconst (v := (0 : Int32)) C.1 C.2.1 dX5_membersGoingOn_0 (by decide) ?_
  refine lv_istore_n (lv' := [(3, .int (0 : Int32)), (0, .ref (G.2.2 + 90)), (1, .ref (G.2.2 + 5)), (2, .ref (G.2.2 + 1))]) C.1 C.2.1 dX5_membersGoingOn_1 rfl hl (by decide) rfl (fun ls hl => ?_)
  refine lv_iconst (v := (0 : Int32)) C.1 C.2.1 dX5_membersGoingOn_2 (by decide) ?_
  refine lv_istore (lv' := [(4, .int (0 : Int32)), (3, .int (0 : Int32)), (0, .ref (G.2.2 + 90)), (1, .ref (G.2.2 + 5)), (2, .ref (G.2.2 + 1))]) C.1 C.2.1 dX5_membersGoingOn_3 hl (by decide) rfl (fun ls hl => ?_)
  refine lv_iconst (v := (0 : Int32)) C.1 C.2.1 dX5_membersGoingOn_5 (by decide) ?_
  refine lv_istore (lv' := [(5, .int (0 : Int32)), (4, .int (0 : Int32)), (3, .int (0 : Int32)), (0, .ref (G.2.2 + 90)), (1, .ref (G.2.2 + 5)), (2, .ref (G.2.2 + 1))]) C.1 C.2.1 dX5_membersGoingOn_6 hl (by decide) rfl (fun ls hl => ?_)
  obtain ⟨nf, h⟩ := h
  exact TX5_membersGoingOn_8 C hml hcs hR nf ((0 : Int32)) ((0 : Int32)) ((0 : Int32)) S (lv_sub hl [3, 4, 5, 2, 1, 0] rfl) h
/-! X6_next -/
abbrev rm_X6_next : Room := { frames := 6, cells := 0, slots := 0, locals := 144 }
def wpX6_next  (σ : Sg) (post : Int32 → Sg → Prop) : Prop := wpX5_learn σ (fun σ1 => wpX5_membersGoingOn σ1 (fun r3 σ2 => post r3 σ2))
theorem kM_X6_next : s_M yX6_next cX6_next 1 (some .int) 0 := ⟨co_X6_next, in_X6, by decide, by decide, by decide +kernel⟩
set_option maxHeartbeats 4000000 in
set_option maxRecDepth 100000 in
theorem c_X6_next (l : Launch) (G : s_G)  (σ : Sg) (post : Int32 → Sg → Prop) (h : wpX6_next σ post) : Met l yX6_next (wsU yX6_next cX6_next 1 (some .int)) rm_X6_next (va_Pc [.ref (G.2.2 + 0)] (s_Pre G σ)) (va_Qi post (s_B G) (s_A G.2.2)) 0 0 (s_A G.2.2) := by
  refine Met.ofW (cc := cX6_next) (maxL := 1) (ret := (some .int)) (by decide) rfl ?_
  intro p e s m args below meth c s₁ B hml hv
  obtain ⟨rfl, hP, hrok, hK, hN⟩ := hv
  have C : s_C G p s (([.ref (G.2.2 + 0)] : List Value).toArray) m c RX6 cX6_next := ⟨B.exec, B.bytes, findClass_of_methodNamed B.named, fun w hw => atoms_spec (ws := wsU yX6_next cX6_next 1 (some .int)) B.pre w (List.mem_cons_of_mem _ hw), hK, hN⟩
  have hr := B.returns
  have hlocks := B.notSynchronized
  have S : s_St G σ s.heap s.heap [] := ⟨hP, va_S.rf, hrok⟩
  have hcs : 0 ≤ (rm_X6_next).cells ∧ 0 ≤ (rm_X6_next).slots := ⟨Nat.le_refl 0, Nat.le_refl 0⟩
  have hR : ∀ (r : Int32) (σ1 : Sg) (H : Heap) (locs : List Loc) (pc : Nat) (ls : Array Slot), decode cX6_next pc = .ok (.ireturn, 1) → post r σ1 → s_St G σ1 s.heap H locs → W p l e rm_X6_next s m ([.ref (G.2.2 + 0)] : List Value).toArray below meth c H locs 0 0 (MQ below (va_Qi post (s_B G) (s_A G.2.2)) ([.ref (G.2.2 + 0)] : List Value).toArray s 0 0 (s_A G.2.2)) (F0 m pc ls [.int r]) := fun _ _ _ _ _ _ hd hp S => ret_i C hr hlocks hd hp S
  have hl := lv_entry ([.ref (G.2.2 + 0)]) (n := 1) (Nat.le_of_ble_eq_true rfl)
  rw [lg_entry_eq]
  generalize (lg_sl ([.ref (G.2.2 + 0)]) ++ List.replicate (1 - (lg_sl ([.ref (G.2.2 + 0)])).length) Slot.unset).toArray = ls at hl ⊢
  have hl : lv_has ls 1 [(0, .ref (G.2.2 + 0))] := hl
  unfold wpX6_next at h
  refine lv_aload_n C.1 C.2.1 dX6_next_0 rfl (lv_at hl 0 rfl) ?_
  refine g_X6_6 C fl_X6_44 kd_0 S fn_0_6 dX6_next_1 ?_
  refine lv_aload_n C.1 C.2.1 dX6_next_4 rfl (lv_at hl 0 rfl) ?_
  refine g_X6_2 C fl_X6_22 kd_0 S fn_0_2 dX6_next_5 ?_
  refine lv_aload_n C.1 C.2.1 dX6_next_8 rfl (lv_at hl 0 rfl) ?_
  refine g_X6_0 C fl_X6_10 kd_0 S fn_0_0 dX6_next_9 ?_
  refine k_v (r_VN (As := [.ref (G.2.2 + 5), .ref (G.2.2 + 1)]) (rest := []) C hml (c_X5_learn l G σ _ h) kM_X5_learn im_X5_learn se_X5_learn nm_X6_164 ⟨rfl, rfl⟩ ⟨Nat.le_of_ble_eq_true rfl, Nat.le_of_ble_eq_true rfl⟩ hcs S.v kd_90 (by decide) (T := TX5) (N := 8) rfl rfl hl.1 rfl (Nat.le_of_ble_eq_true rfl) dX6_next_12) S (fun σ1 H locs h S => ?_)
  refine lv_aload_n C.1 C.2.1 dX6_next_15 rfl (lv_at hl 0 rfl) ?_
  refine g_X6_6 C fl_X6_44 kd_0 S fn_0_6 dX6_next_16 ?_
  refine lv_aload_n C.1 C.2.1 dX6_next_19 rfl (lv_at hl 0 rfl) ?_
  refine g_X6_2 C fl_X6_22 kd_0 S fn_0_2 dX6_next_20 ?_
  refine lv_aload_n C.1 C.2.1 dX6_next_23 rfl (lv_at hl 0 rfl) ?_
  refine g_X6_0 C fl_X6_10 kd_0 S fn_0_0 dX6_next_24 ?_
  refine k_i (r_VN (As := [.ref (G.2.2 + 5), .ref (G.2.2 + 1)]) (rest := []) C hml (c_X5_membersGoingOn l G σ1 _ h) kM_X5_membersGoingOn im_X5_membersGoingOn se_X5_membersGoingOn nm_X6_201 ⟨rfl, rfl⟩ ⟨Nat.le_of_ble_eq_true rfl, Nat.le_of_ble_eq_true rfl⟩ hcs S.v kd_90 (by decide) (T := TX5) (N := 8) rfl rfl hl.1 rfl (Nat.le_of_ble_eq_true rfl) dX6_next_27) S (fun r3 σ2 H locs h S => ?_)
  exact hR _ _ _ _ _ _ dX6_next_30 h S
/-! X4_countFrom -/
abbrev rm_X4_countFrom : Room := { frames := 0, cells := 0, slots := 0, locals := 0 }
def wpX4_countFrom (x1 : Int32) (σ : Sg) (post : Int64 → Sg → Prop) : Prop := (((x1 < 0) → post ((0 : Int64)) σ) ∧ ((¬ x1 < 0) → ((((4096 : Int32) ≤ x1) → post ((0 : Int64)) σ) ∧ ((¬ (4096 : Int32) ≤ x1) → (vp_in x1 4096 ∧ post ((σ.2.1 98 (x1).toNatClampNeg)) σ)))))
theorem kM_X4_countFrom : s_M yX4_countFrom cX4_countFrom 2 (some .long) 1 := ⟨co_X4_countFrom, in_X4, by decide, by decide, by decide +kernel⟩
set_option maxHeartbeats 4000000 in
set_option maxRecDepth 100000 in
theorem c_X4_countFrom (l : Launch) (G : s_G) (x1 : Int32) (σ : Sg) (post : Int64 → Sg → Prop) (h : wpX4_countFrom x1 σ post) : Met l yX4_countFrom (wsU yX4_countFrom cX4_countFrom 2 (some .long)) rm_X4_countFrom (va_Pc [.ref (G.2.2 + 97), .int x1] (s_Pre G σ)) (va_Ql post (s_B G) (s_A G.2.2)) 0 0 (s_A G.2.2) := by
  refine Met.ofW (cc := cX4_countFrom) (maxL := 2) (ret := (some .long)) (by decide) rfl ?_
  intro p e s m args below meth c s₁ B hml hv
  obtain ⟨rfl, hP, hrok, hK, hN⟩ := hv
  have C : s_C G p s (([.ref (G.2.2 + 97), .int x1] : List Value).toArray) m c RX4 cX4_countFrom := ⟨B.exec, B.bytes, findClass_of_methodNamed B.named, fun w hw => atoms_spec (ws := wsU yX4_countFrom cX4_countFrom 2 (some .long)) B.pre w (List.mem_cons_of_mem _ hw), hK, hN⟩
  have hr := B.returns
  have hlocks := B.notSynchronized
  have S : s_St G σ s.heap s.heap [] := ⟨hP, va_S.rf, hrok⟩
  have hcs : 0 ≤ (rm_X4_countFrom).cells ∧ 0 ≤ (rm_X4_countFrom).slots := ⟨Nat.le_refl 0, Nat.le_refl 0⟩
  have hR : ∀ (r : Int64) (σ1 : Sg) (H : Heap) (locs : List Loc) (pc : Nat) (ls : Array Slot), decode cX4_countFrom pc = .ok (.lreturn, 1) → post r σ1 → s_St G σ1 s.heap H locs → W p l e rm_X4_countFrom s m ([.ref (G.2.2 + 97), .int x1] : List Value).toArray below meth c H locs 0 0 (MQ below (va_Ql post (s_B G) (s_A G.2.2)) ([.ref (G.2.2 + 97), .int x1] : List Value).toArray s 0 0 (s_A G.2.2)) (F0 m pc ls [.long r]) := fun _ _ _ _ _ _ hd hp S => ret_l C hr hlocks hd hp S
  have hl := lv_entry ([.ref (G.2.2 + 97), .int x1]) (n := 2) (Nat.le_of_ble_eq_true rfl)
  rw [lg_entry_eq]
  generalize (lg_sl ([.ref (G.2.2 + 97), .int x1]) ++ List.replicate (2 - (lg_sl ([.ref (G.2.2 + 97), .int x1])).length) Slot.unset).toArray = ls at hl ⊢
  have hl : lv_has ls 2 [(0, .ref (G.2.2 + 97)), (1, .int x1)] := hl
  unfold wpX4_countFrom at h
  refine lv_iload_n C.1 C.2.1 dX4_countFrom_0 rfl (lv_at hl 1 rfl) ?_
  refine lv_if_lt (tgt := 22) C.1 C.2.1 dX4_countFrom_1 (by decide) (fun c1 => ?_) (fun c1 => ?_)
  · replace h := h.1 c1
    refine lv_lconst (v := (0 : Int64)) C.1 C.2.1 dX4_countFrom_22 (by decide) ?_
    exact hR _ _ _ _ _ _ dX4_countFrom_23 h S
  · replace h := h.2 c1
    refine lv_iload_n C.1 C.2.1 dX4_countFrom_4 rfl (lv_at hl 1 rfl) ?_
    refine lv_aload_n C.1 C.2.1 dX4_countFrom_5 rfl (lv_at hl 0 rfl) ?_
    refine g_X4_0 C fl_X4_9 kd_97 S fn_97_0 dX4_countFrom_6 ?_
    refine a_len9 C kd_98 S (v := (4096 : Int32)) (by rw [ln_98]; rfl) dX4_countFrom_9 ?_
    refine lv_icmp_ge (tgt := 22) C.1 C.2.1 dX4_countFrom_10 (by decide) (fun c2 => ?_) (fun c2 => ?_)
    · replace h := h.1 c2
      refine lv_lconst (v := (0 : Int64)) C.1 C.2.1 dX4_countFrom_22 (by decide) ?_
      exact hR _ _ _ _ _ _ dX4_countFrom_23 h S
    · replace h := h.2 c2
      refine lv_aload_n C.1 C.2.1 dX4_countFrom_13 rfl (lv_at hl 0 rfl) ?_
      refine g_X4_0 C fl_X4_9 kd_97 S fn_97_0 dX4_countFrom_14 ?_
      refine lv_iload_n C.1 C.2.1 dX4_countFrom_17 rfl (lv_at hl 1 rfl) ?_
      refine a_lld C kd_98 S ln_98 h.1 dX4_countFrom_18 ?_
      replace h := h.2
      refine lv_goto (tgt := 23) C.1 C.2.1 dX4_countFrom_19 (by decide) ?_
      exact hR _ _ _ _ _ _ dX4_countFrom_23 h S
/-! X1_lengthOf -/
abbrev rm_X1_lengthOf : Room := { frames := 1, cells := 0, slots := 0, locals := 21 }
def BX1_lengthOf_4 (k0 : Nat) (x1 : Int32) (post : Int32 → Sg → Prop) : Nat → Int32 → Int32 → Sg → Prop
  | 0, _, _, _ => False
  | n + 1, x2, x3, σ => ((((σ.1 k0 2) ≤ x3) → post x2 σ) ∧ ((¬ (σ.1 k0 2) ≤ x3) → wpX6_timesIn x1 x3 σ (fun r3 σ2 => BX1_lengthOf_4 k0 x1 post n ((x2 + r3)) ((x3 + 1)) σ2)))
def wpX1_lengthOf (k0 : Nat) (x1 : Int32) (σ : Sg) (post : Int32 → Sg → Prop) : Prop := ∃ nf, BX1_lengthOf_4 k0 x1 post nf ((0 : Int32)) ((0 : Int32)) σ
set_option maxHeartbeats 4000000 in
set_option maxRecDepth 100000 in
theorem TX1_lengthOf_4 (C : s_C G p s args m c RX1 cX1_lengthOf) (hml : c.maxLocals = 4) (hcs : cells ≤ (rm_X1_lengthOf).cells ∧ slots ≤ (rm_X1_lengthOf).slots) {k0 : Nat} {x1 : Int32} (hk0 : s_kd k0 = 1) {post : Int32 → Sg → Prop} (hR : ∀ (r : Int32) (σ1 : Sg) (H : Heap) (locs : List Loc) (pc : Nat) (ls : Array Slot), decode cX1_lengthOf pc = .ok (.ireturn, 1) → post r σ1 → s_St G σ1 H0 H locs → W p l e rm_X1_lengthOf s m args below meth c H locs cells slots Q (F0 m pc ls [.int r])) : ∀ (n : Nat) (x2 : Int32) (x3 : Int32), ∀ {σ : Sg} {H : Heap} {locs : List Loc} {ls : Array Slot}, s_St G σ H0 H locs → lv_has ls 4 [(0, .ref (G.2.2 + k0)), (1, .int x1), (2, .int x2), (3, .int x3)] → BX1_lengthOf_4 k0 x1 post n x2 x3 σ → W p l e rm_X1_lengthOf s m args below meth c H locs cells slots Q (F0 m 4 ls []) := by
  intro n
  induction n with
  | zero =>
    intro x2 x3  σ H locs ls S hl h
    exact absurd h (fun h => h)
  | succ n ih0 =>
    have ih : ∀ (x2 : Int32) (x3 : Int32), ∀ (σ : Sg) (H : Heap) (locs : List Loc) (ls : Array Slot), s_St G σ H0 H locs → lv_has ls 4 [(0, .ref (G.2.2 + k0)), (1, .int x1), (2, .int x2), (3, .int x3)] → BX1_lengthOf_4 k0 x1 post n x2 x3 σ → W p l e rm_X1_lengthOf s m args below meth c H locs cells slots Q (F0 m 4 ls []) := fun x2 x3  _ _ _ _ => ih0 x2 x3 
    intro x2 x3  σ H locs ls S hl h
    refine lv_iload_n C.1 C.2.1 dX1_lengthOf_4 rfl (lv_at hl 3 rfl) ?_
    refine lv_aload_n C.1 C.2.1 dX1_lengthOf_5 rfl (lv_at hl 0 rfl) ?_
    refine g_X1_2 C fl_X1_22 hk0 S dX1_lengthOf_6 ?_
    refine lv_icmp_ge (tgt := 26) C.1 C.2.1 dX1_lengthOf_9 (by decide) (fun c1 => ?_) (fun c1 => ?_)
    · replace h := h.1 c1
      refine lv_iload_n C.1 C.2.1 dX1_lengthOf_26 rfl (lv_at hl 2 rfl) ?_
      exact hR _ _ _ _ _ _ dX1_lengthOf_27 h S
    · replace h := h.2 c1
      refine lv_iload_n C.1 C.2.1 dX1_lengthOf_12 rfl (lv_at hl 2 rfl) ?_
      refine lv_iload_n C.1 C.2.1 dX1_lengthOf_13 rfl (lv_at hl 1 rfl) ?_
      refine lv_iload_n C.1 C.2.1 dX1_lengthOf_14 rfl (lv_at hl 3 rfl) ?_
      refine k_i (r_SN (As := [.int x1, .int x3]) (rest := [.int x2]) C hml (c_X6_timesIn l G x1 x3 σ _ h) kM_X6_timesIn st_X6_timesIn nm_X1_84 ⟨rfl, rfl⟩ ⟨Nat.le_of_ble_eq_true rfl, Nat.le_of_ble_eq_true rfl⟩ hcs S.v rfl hl.1 rfl (Nat.le_of_ble_eq_true rfl) dX1_lengthOf_15) S (fun r3 σ2 H locs h S => ?_)
      refine lv_iadd C.1 C.2.1 dX1_lengthOf_18 ?_
      refine lv_istore_n (lv' := [(2, .int (x2 + r3)), (0, .ref (G.2.2 + k0)), (1, .int x1), (3, .int x3)]) C.1 C.2.1 dX1_lengthOf_19 rfl hl (by decide) rfl (fun ls hl => ?_)
      refine lv_iinc (v := (x3 + 1)) (lv' := [(3, .int (x3 + 1)), (2, .int (x2 + r3)), (0, .ref (G.2.2 + k0)), (1, .int x1)]) C.1 C.2.1 dX1_lengthOf_20 hl (k := 3) rfl rfl (by decide) rfl (fun ls hl => ?_)
      refine lv_goto (tgt := 4) C.1 C.2.1 dX1_lengthOf_23 (by decide) ?_
      exact ih ((x2 + r3)) ((x3 + 1)) _ _ _ _ S (lv_sub hl [2, 3, 1, 0] rfl) h
theorem kM_X1_lengthOf : s_M yX1_lengthOf cX1_lengthOf 4 (some .int) 1 := ⟨co_X1_lengthOf, in_X1, by decide, by decide, by decide +kernel⟩
set_option maxHeartbeats 4000000 in
set_option maxRecDepth 100000 in
theorem c_X1_lengthOf (l : Launch) (G : s_G) (k0 : Nat) (x1 : Int32) (σ : Sg) (post : Int32 → Sg → Prop) (hk0 : s_kd k0 = 1) (h : wpX1_lengthOf k0 x1 σ post) : Met l yX1_lengthOf (wsU yX1_lengthOf cX1_lengthOf 4 (some .int)) rm_X1_lengthOf (va_Pc [.ref (G.2.2 + k0), .int x1] (s_Pre G σ)) (va_Qi post (s_B G) (s_A G.2.2)) 0 0 (s_A G.2.2) := by
  refine Met.ofW (cc := cX1_lengthOf) (maxL := 4) (ret := (some .int)) (by decide) rfl ?_
  intro p e s m args below meth c s₁ B hml hv
  obtain ⟨rfl, hP, hrok, hK, hN⟩ := hv
  have C : s_C G p s (([.ref (G.2.2 + k0), .int x1] : List Value).toArray) m c RX1 cX1_lengthOf := ⟨B.exec, B.bytes, findClass_of_methodNamed B.named, fun w hw => atoms_spec (ws := wsU yX1_lengthOf cX1_lengthOf 4 (some .int)) B.pre w (List.mem_cons_of_mem _ hw), hK, hN⟩
  have hr := B.returns
  have hlocks := B.notSynchronized
  have S : s_St G σ s.heap s.heap [] := ⟨hP, va_S.rf, hrok⟩
  have hcs : 0 ≤ (rm_X1_lengthOf).cells ∧ 0 ≤ (rm_X1_lengthOf).slots := ⟨Nat.le_refl 0, Nat.le_refl 0⟩
  have hR : ∀ (r : Int32) (σ1 : Sg) (H : Heap) (locs : List Loc) (pc : Nat) (ls : Array Slot), decode cX1_lengthOf pc = .ok (.ireturn, 1) → post r σ1 → s_St G σ1 s.heap H locs → W p l e rm_X1_lengthOf s m ([.ref (G.2.2 + k0), .int x1] : List Value).toArray below meth c H locs 0 0 (MQ below (va_Qi post (s_B G) (s_A G.2.2)) ([.ref (G.2.2 + k0), .int x1] : List Value).toArray s 0 0 (s_A G.2.2)) (F0 m pc ls [.int r]) := fun _ _ _ _ _ _ hd hp S => ret_i C hr hlocks hd hp S
  have hl := lv_entry ([.ref (G.2.2 + k0), .int x1]) (n := 4) (Nat.le_of_ble_eq_true rfl)
  rw [lg_entry_eq]
  generalize (lg_sl ([.ref (G.2.2 + k0), .int x1]) ++ List.replicate (4 - (lg_sl ([.ref (G.2.2 + k0), .int x1])).length) Slot.unset).toArray = ls at hl ⊢
  have hl : lv_has ls 4 [(0, .ref (G.2.2 + k0)), (1, .int x1)] := hl
  unfold wpX1_lengthOf at h
  refine lv_iconst (v := (0 : Int32)) C.1 C.2.1 dX1_lengthOf_0 (by decide) ?_
  refine lv_istore_n (lv' := [(2, .int (0 : Int32)), (0, .ref (G.2.2 + k0)), (1, .int x1)]) C.1 C.2.1 dX1_lengthOf_1 rfl hl (by decide) rfl (fun ls hl => ?_)
  refine lv_iconst (v := (0 : Int32)) C.1 C.2.1 dX1_lengthOf_2 (by decide) ?_
  refine lv_istore_n (lv' := [(3, .int (0 : Int32)), (2, .int (0 : Int32)), (0, .ref (G.2.2 + k0)), (1, .int x1)]) C.1 C.2.1 dX1_lengthOf_3 rfl hl (by decide) rfl (fun ls hl => ?_)
  obtain ⟨nf, h⟩ := h
  exact TX1_lengthOf_4 C hml hcs hk0 hR nf ((0 : Int32)) ((0 : Int32)) S (lv_sub hl [2, 3, 1, 0] rfl) h
/-! X4_countBehind -/
abbrev rm_X4_countBehind : Room := { frames := 3, cells := 0, slots := 0, locals := 68 }
def BX4_countBehind_13 (x1 : Int32) (x2 : Int32) (post : Int64 → Sg → Prop) : Nat → Int32 → Int64 → Int32 → Sg → Prop
  | 0, _, _, _, _ => False
  | n + 1, x4, x5, x7, σ => (((x2 ≤ x7) → post x5 σ) ∧ ((¬ x2 ≤ x7) → wpX6_bitOf x4 x7 σ (fun r3 σ2 => (((¬ r3 = (1 : Int32)) → BX4_countBehind_13 x1 x2 post n x4 x5 ((x7 + 1)) σ2) ∧ ((r3 = (1 : Int32)) → wpX6_withOneMore x1 x7 σ2 (fun r6 σ5 => wpX4_countFrom r6 σ5 (fun r8 σ7 => BX4_countBehind_13 x1 x2 post n x4 ((x5 + r8)) ((x7 + 1)) σ7)))))))
def wpX4_countBehind (x1 : Int32) (x2 : Int32) (σ : Sg) (post : Int64 → Sg → Prop) : Prop := wpX1_followers 5 x1 σ (fun r10 σ9 => ∃ nf, BX4_countBehind_13 x1 x2 post nf r10 ((0 : Int64)) ((0 : Int32)) σ9)
set_option maxHeartbeats 4000000 in
set_option maxRecDepth 100000 in
theorem TX4_countBehind_13 (C : s_C G p s args m c RX4 cX4_countBehind) (hml : c.maxLocals = 8) (hcs : cells ≤ (rm_X4_countBehind).cells ∧ slots ≤ (rm_X4_countBehind).slots) {x1 : Int32} {x2 : Int32} {post : Int64 → Sg → Prop} (hR : ∀ (r : Int64) (σ1 : Sg) (H : Heap) (locs : List Loc) (pc : Nat) (ls : Array Slot), decode cX4_countBehind pc = .ok (.lreturn, 1) → post r σ1 → s_St G σ1 H0 H locs → W p l e rm_X4_countBehind s m args below meth c H locs cells slots Q (F0 m pc ls [.long r])) : ∀ (n : Nat) (x4 : Int32) (x5 : Int64) (x7 : Int32), ∀ {σ : Sg} {H : Heap} {locs : List Loc} {ls : Array Slot}, s_St G σ H0 H locs → lv_has ls 8 [(0, .ref (G.2.2 + 97)), (1, .int x1), (2, .int x2), (4, .int x4), (5, .long x5), (7, .int x7)] → BX4_countBehind_13 x1 x2 post n x4 x5 x7 σ → W p l e rm_X4_countBehind s m args below meth c H locs cells slots Q (F0 m 13 ls []) := by
  intro n
  induction n with
  | zero =>
    intro x4 x5 x7  σ H locs ls S hl h
    exact absurd h (fun h => h)
  | succ n ih0 =>
    have ih : ∀ (x4 : Int32) (x5 : Int64) (x7 : Int32), ∀ (σ : Sg) (H : Heap) (locs : List Loc) (ls : Array Slot), s_St G σ H0 H locs → lv_has ls 8 [(0, .ref (G.2.2 + 97)), (1, .int x1), (2, .int x2), (4, .int x4), (5, .long x5), (7, .int x7)] → BX4_countBehind_13 x1 x2 post n x4 x5 x7 σ → W p l e rm_X4_countBehind s m args below meth c H locs cells slots Q (F0 m 13 ls []) := fun x4 x5 x7  _ _ _ _ => ih0 x4 x5 x7 
    intro x4 x5 x7  σ H locs ls S hl h
    refine lv_iload C.1 C.2.1 dX4_countBehind_13 (lv_at hl 5 rfl) ?_
    refine lv_iload_n C.1 C.2.1 dX4_countBehind_15 rfl (lv_at hl 2 rfl) ?_
    refine lv_icmp_ge (tgt := 51) C.1 C.2.1 dX4_countBehind_16 (by decide) (fun c1 => ?_) (fun c1 => ?_)
    · replace h := h.1 c1
      refine lv_lload C.1 C.2.1 dX4_countBehind_51 (lv_at hl 4 rfl) ?_
      exact hR _ _ _ _ _ _ dX4_countBehind_53 h S
    · replace h := h.2 c1
      refine lv_iload C.1 C.2.1 dX4_countBehind_19 (lv_at hl 3 rfl) ?_
      refine lv_iload C.1 C.2.1 dX4_countBehind_21 (lv_at hl 5 rfl) ?_
      refine k_i (r_SN (As := [.int x4, .int x7]) (rest := []) C hml (c_X6_bitOf l G x4 x7 σ _ h) kM_X6_bitOf st_X6_bitOf nm_X4_49 ⟨rfl, rfl⟩ ⟨Nat.le_of_ble_eq_true rfl, Nat.le_of_ble_eq_true rfl⟩ hcs S.v rfl hl.1 rfl (Nat.le_of_ble_eq_true rfl) dX4_countBehind_23) S (fun r3 σ2 H locs h S => ?_)
      refine lv_iconst (v := (1 : Int32)) C.1 C.2.1 dX4_countBehind_26 (by decide) ?_
      refine lv_icmp_ne (tgt := 45) C.1 C.2.1 dX4_countBehind_27 (by decide) (fun c4 => ?_) (fun c4 => ?_)
      · replace h := h.1 c4
        refine lv_iinc (v := (x7 + 1)) (lv' := [(7, .int (x7 + 1)), (0, .ref (G.2.2 + 97)), (1, .int x1), (2, .int x2), (4, .int x4), (5, .long x5)]) C.1 C.2.1 dX4_countBehind_45 hl (k := 5) rfl rfl (by decide) rfl (fun ls hl => ?_)
        refine lv_goto (tgt := 13) C.1 C.2.1 dX4_countBehind_48 (by decide) ?_
        exact ih x4 x5 ((x7 + 1)) _ _ _ _ S (lv_sub hl [1, 2, 3, 4, 5, 0] rfl) h
      · replace h := h.2 c4
        refine lv_lload C.1 C.2.1 dX4_countBehind_30 (lv_at hl 4 rfl) ?_
        refine lv_aload_n C.1 C.2.1 dX4_countBehind_32 rfl (lv_at hl 0 rfl) ?_
        refine lv_iload_n C.1 C.2.1 dX4_countBehind_33 rfl (lv_at hl 1 rfl) ?_
        refine lv_iload C.1 C.2.1 dX4_countBehind_34 (lv_at hl 5 rfl) ?_
        refine k_i (r_SN (As := [.int x1, .int x7]) (rest := [.ref (G.2.2 + 97), .long x5]) C hml (c_X6_withOneMore l G x1 x7 σ2 _ h) kM_X6_withOneMore st_X6_withOneMore nm_X4_52 ⟨rfl, rfl⟩ ⟨Nat.le_of_ble_eq_true rfl, Nat.le_of_ble_eq_true rfl⟩ hcs S.v rfl hl.1 rfl (Nat.le_of_ble_eq_true rfl) dX4_countBehind_36) S (fun r6 σ5 H locs h S => ?_)
        refine k_l (r_V (As := [.int r6]) (rest := [.long x5]) C hml (c_X4_countFrom l G r6 σ5 _ h) kM_X4_countFrom im_X4_countFrom se_X4_countFrom ml_X4_55 ⟨rfl, rfl⟩ ⟨Nat.le_of_ble_eq_true rfl, Nat.le_of_ble_eq_true rfl⟩ hcs S.v kd_97 (by decide) (T := TX4) (N := 2) rfl rfl hl.1 rfl (Nat.le_of_ble_eq_true rfl) dX4_countBehind_39) S (fun r8 σ7 H locs h S => ?_)
        refine lv_ladd C.1 C.2.1 dX4_countBehind_42 ?_
        refine lv_lstore (lv' := [(5, .long (x5 + r8)), (0, .ref (G.2.2 + 97)), (1, .int x1), (2, .int x2), (4, .int x4), (7, .int x7)]) C.1 C.2.1 dX4_countBehind_43 hl (by decide) rfl (fun ls hl => ?_)
        refine lv_iinc (v := (x7 + 1)) (lv' := [(7, .int (x7 + 1)), (5, .long (x5 + r8)), (0, .ref (G.2.2 + 97)), (1, .int x1), (2, .int x2), (4, .int x4)]) C.1 C.2.1 dX4_countBehind_45 hl (k := 5) rfl rfl (by decide) rfl (fun ls hl => ?_)
        refine lv_goto (tgt := 13) C.1 C.2.1 dX4_countBehind_48 (by decide) ?_
        exact ih x4 ((x5 + r8)) ((x7 + 1)) _ _ _ _ S (lv_sub hl [2, 3, 4, 5, 1, 0] rfl) h
theorem kM_X4_countBehind : s_M yX4_countBehind cX4_countBehind 8 (some .long) 3 := ⟨co_X4_countBehind, in_X4, by decide, by decide, by decide +kernel⟩
set_option maxHeartbeats 4000000 in
set_option maxRecDepth 100000 in
theorem c_X4_countBehind (l : Launch) (G : s_G) (x1 : Int32) (x2 : Int32) (σ : Sg) (post : Int64 → Sg → Prop) (h : wpX4_countBehind x1 x2 σ post) : Met l yX4_countBehind (wsU yX4_countBehind cX4_countBehind 8 (some .long)) rm_X4_countBehind (va_Pc [.ref (G.2.2 + 97), .int x1, .int x2, .ref (G.2.2 + 5)] (s_Pre G σ)) (va_Ql post (s_B G) (s_A G.2.2)) 0 0 (s_A G.2.2) := by
  refine Met.ofW (cc := cX4_countBehind) (maxL := 8) (ret := (some .long)) (by decide) rfl ?_
  intro p e s m args below meth c s₁ B hml hv
  obtain ⟨rfl, hP, hrok, hK, hN⟩ := hv
  have C : s_C G p s (([.ref (G.2.2 + 97), .int x1, .int x2, .ref (G.2.2 + 5)] : List Value).toArray) m c RX4 cX4_countBehind := ⟨B.exec, B.bytes, findClass_of_methodNamed B.named, fun w hw => atoms_spec (ws := wsU yX4_countBehind cX4_countBehind 8 (some .long)) B.pre w (List.mem_cons_of_mem _ hw), hK, hN⟩
  have hr := B.returns
  have hlocks := B.notSynchronized
  have S : s_St G σ s.heap s.heap [] := ⟨hP, va_S.rf, hrok⟩
  have hcs : 0 ≤ (rm_X4_countBehind).cells ∧ 0 ≤ (rm_X4_countBehind).slots := ⟨Nat.le_refl 0, Nat.le_refl 0⟩
  have hR : ∀ (r : Int64) (σ1 : Sg) (H : Heap) (locs : List Loc) (pc : Nat) (ls : Array Slot), decode cX4_countBehind pc = .ok (.lreturn, 1) → post r σ1 → s_St G σ1 s.heap H locs → W p l e rm_X4_countBehind s m ([.ref (G.2.2 + 97), .int x1, .int x2, .ref (G.2.2 + 5)] : List Value).toArray below meth c H locs 0 0 (MQ below (va_Ql post (s_B G) (s_A G.2.2)) ([.ref (G.2.2 + 97), .int x1, .int x2, .ref (G.2.2 + 5)] : List Value).toArray s 0 0 (s_A G.2.2)) (F0 m pc ls [.long r]) := fun _ _ _ _ _ _ hd hp S => ret_l C hr hlocks hd hp S
  have hl := lv_entry ([.ref (G.2.2 + 97), .int x1, .int x2, .ref (G.2.2 + 5)]) (n := 8) (Nat.le_of_ble_eq_true rfl)
  rw [lg_entry_eq]
  generalize (lg_sl ([.ref (G.2.2 + 97), .int x1, .int x2, .ref (G.2.2 + 5)]) ++ List.replicate (8 - (lg_sl ([.ref (G.2.2 + 97), .int x1, .int x2, .ref (G.2.2 + 5)])).length) Slot.unset).toArray = ls at hl ⊢
  have hl : lv_has ls 8 [(0, .ref (G.2.2 + 97)), (1, .int x1), (2, .int x2), (3, .ref (G.2.2 + 5))] := hl
  unfold wpX4_countBehind at h
  refine lv_aload_n C.1 C.2.1 dX4_countBehind_0 rfl (lv_at hl 3 rfl) ?_
  refine lv_iload_n C.1 C.2.1 dX4_countBehind_1 rfl (lv_at hl 1 rfl) ?_
  refine k_i (r_VN (As := [.int x1]) (rest := []) C hml (c_X1_followers l G 5 x1 σ _ kd_5 h) kM_X1_followers im_X1_followers se_X1_followers nm_X4_46 ⟨rfl, rfl⟩ ⟨Nat.le_of_ble_eq_true rfl, Nat.le_of_ble_eq_true rfl⟩ hcs S.v kd_5 (by decide) (T := TX1) (N := 4) rfl rfl hl.1 rfl (Nat.le_of_ble_eq_true rfl) dX4_countBehind_2) S (fun r10 σ9 H locs h S => ?_)
  refine lv_istore (lv' := [(4, .int r10), (0, .ref (G.2.2 + 97)), (1, .int x1), (2, .int x2), (3, .ref (G.2.2 + 5))]) C.1 C.2.1 dX4_countBehind_5 hl (by decide) rfl (fun ls hl => ?_)
  refine lv_lconst (v := (0 : Int64)) C.1 C.2.1 dX4_countBehind_7 (by decide) ?_
  refine lv_lstore (lv' := [(5, .long (0 : Int64)), (4, .int r10), (0, .ref (G.2.2 + 97)), (1, .int x1), (2, .int x2), (3, .ref (G.2.2 + 5))]) C.1 C.2.1 dX4_countBehind_8 hl (by decide) rfl (fun ls hl => ?_)
  refine lv_iconst (v := (0 : Int32)) C.1 C.2.1 dX4_countBehind_10 (by decide) ?_
  refine lv_istore (lv' := [(7, .int (0 : Int32)), (5, .long (0 : Int64)), (4, .int r10), (0, .ref (G.2.2 + 97)), (1, .int x1), (2, .int x2), (3, .ref (G.2.2 + 5))]) C.1 C.2.1 dX4_countBehind_11 hl (by decide) rfl (fun ls hl => ?_)
  obtain ⟨nf, h⟩ := h
  exact TX4_countBehind_13 C hml hcs hR nf r10 ((0 : Int64)) ((0 : Int32)) S (lv_sub hl [3, 4, 5, 2, 1, 0] rfl) h
/-! X4_learn -/
abbrev rm_X4_learn : Room := { frames := 4, cells := 0, slots := 0, locals := 95 }
def BX4_learn_67 (x2 : Int32) (K24 : Int32 → Sg → Prop) (post : Sg → Prop) (x3 : Int32) (y0 : Int64) (σ : Sg) : Prop := wpX4_countBehind x3 ((σ.1 5 2)) σ (fun r2 σ1 => (vp_in x3 4096 ∧ (∀ σ3 : Sg, σ3 = setL σ1 98 (x3).toNatClampNeg ((y0 + r2)) → K24 ((x3 + (-1))) σ3)))
def BX4_learn_47 (x2 : Int32) (K24 : Int32 → Sg → Prop) (post : Sg → Prop) (x3 : Int32) (y0 : Int32) (σ : Sg) : Prop := (((y0 = 0) → BX4_learn_67 x2 K24 post x3 ((0 : Int64)) σ) ∧ ((¬ y0 = 0) → wpX1_isEnough 5 x3 σ (fun r7 σ6 => (((r7 = 0) → BX4_learn_67 x2 K24 post x3 ((0 : Int64)) σ6) ∧ ((¬ r7 = 0) → BX4_learn_67 x2 K24 post x3 ((1 : Int64)) σ6)))))
def BX4_learn_24 (x2 : Int32) (post : Sg → Prop) : Nat → Int32 → Sg → Prop
  | 0, _, _ => False
  | n + 1, x3, σ => (((x3 < 0) → (∀ σ10 : Sg, σ10 = setI σ 97 1 x2 → post σ10)) ∧ ((¬ x3 < 0) → (((x2 = (-1 : Int32)) → BX4_learn_47 x2 (BX4_learn_24 x2 post n) post x3 ((1 : Int32)) σ) ∧ ((¬ x2 = (-1 : Int32)) → wpX1_lengthOf 5 x3 σ (fun r14 σ13 => (((¬ r14 = x2) → BX4_learn_47 x2 (BX4_learn_24 x2 post n) post x3 ((0 : Int32)) σ13) ∧ ((r14 = x2) → BX4_learn_47 x2 (BX4_learn_24 x2 post n) post x3 ((1 : Int32)) σ13)))))))
def wpX4_learn (x2 : Int32) (σ : Sg) (post : Sg → Prop) : Prop := (((¬ (σ.1 97 1) = x2) → wpX1_tallies 5 σ (fun r18 σ17 => ∃ nf, BX4_learn_24 x2 post nf (((if (4096 : Int32) < r18 then (4096 : Int32) else r18) - (1 : Int32))) σ17)) ∧ (((σ.1 97 1) = x2) → post σ))
set_option maxHeartbeats 4000000 in
set_option maxRecDepth 100000 in
theorem TX4_learn_67 (C : s_C G p s args m c RX4 cX4_learn) (hml : c.maxLocals = 7) (hcs : cells ≤ (rm_X4_learn).cells ∧ slots ≤ (rm_X4_learn).slots) {x2 : Int32} {K24 : Int32 → Sg → Prop} {post : Sg → Prop} (hR : ∀ (σ1 : Sg) (H : Heap) (locs : List Loc) (pc : Nat) (ls : Array Slot), decode cX4_learn pc = .ok (.return_, 1) → post σ1 → s_St G σ1 H0 H locs → W p l e rm_X4_learn s m args below meth c H locs cells slots Q (F0 m pc ls [])) (hK24 : ∀ (x3 : Int32), ∀ (σ : Sg) (H : Heap) (locs : List Loc) (ls : Array Slot), s_St G σ H0 H locs → lv_has ls 7 [(0, .ref (G.2.2 + 97)), (1, .ref (G.2.2 + 5)), (2, .int x2), (3, .int x3)] → K24 x3 σ → W p l e rm_X4_learn s m args below meth c H locs cells slots Q (F0 m 24 ls [])) : ∀ (x3 : Int32) (y0 : Int64), ∀ {σ : Sg} {H : Heap} {locs : List Loc} {ls : Array Slot}, s_St G σ H0 H locs → lv_has ls 7 [(0, .ref (G.2.2 + 97)), (1, .ref (G.2.2 + 5)), (2, .int x2), (3, .int x3)] → BX4_learn_67 x2 K24 post x3 y0 σ → W p l e rm_X4_learn s m args below meth c H locs cells slots Q (F0 m 67 ls [.long y0]) := by
  intro x3 y0  σ H locs ls S hl h
  unfold BX4_learn_67 at h
  refine lv_lstore (lv' := [(5, .long y0), (0, .ref (G.2.2 + 97)), (1, .ref (G.2.2 + 5)), (2, .int x2), (3, .int x3)]) C.1 C.2.1 dX4_learn_67 hl (by decide) rfl (fun ls hl => ?_)
  refine lv_aload_n C.1 C.2.1 dX4_learn_69 rfl (lv_at hl 1 rfl) ?_
  refine g_X4_0 C fl_X4_9 kd_97 S fn_97_0 dX4_learn_70 ?_
  refine lv_iload_n C.1 C.2.1 dX4_learn_73 rfl (lv_at hl 4 rfl) ?_
  refine lv_lload C.1 C.2.1 dX4_learn_74 (lv_at hl 0 rfl) ?_
  refine lv_aload_n C.1 C.2.1 dX4_learn_76 rfl (lv_at hl 1 rfl) ?_
  refine lv_iload_n C.1 C.2.1 dX4_learn_77 rfl (lv_at hl 4 rfl) ?_
  refine lv_aload_n C.1 C.2.1 dX4_learn_78 rfl (lv_at hl 2 rfl) ?_
  refine gn_X1_2 C nf_X4_39 kd_5 S dX4_learn_79 ?_
  refine lv_aload_n C.1 C.2.1 dX4_learn_82 rfl (lv_at hl 2 rfl) ?_
  refine k_l (r_V (As := [.int x3, .int (σ.1 5 2), .ref (G.2.2 + 5)]) (rest := [.long y0, .int x3, .ref (G.2.2 + 98)]) C hml (c_X4_countBehind l G x3 ((σ.1 5 2)) σ _ h) kM_X4_countBehind im_X4_countBehind se_X4_countBehind ml_X4_42 ⟨rfl, rfl⟩ ⟨Nat.le_of_ble_eq_true rfl, Nat.le_of_ble_eq_true rfl⟩ hcs S.v kd_97 (by decide) (T := TX4) (N := 2) rfl rfl hl.1 rfl (Nat.le_of_ble_eq_true rfl) dX4_learn_83) S (fun r2 σ1 H locs h S => ?_)
  refine lv_ladd C.1 C.2.1 dX4_learn_86 ?_
  refine a_lst C kd_98 S ln_98 h.1 dX4_learn_87 (fun σ3 H locs e4 S => ?_)
  replace h := h.2 σ3 e4
  refine lv_iinc (v := (x3 + (-1))) (lv' := [(3, .int (x3 + (-1))), (5, .long y0), (0, .ref (G.2.2 + 97)), (1, .ref (G.2.2 + 5)), (2, .int x2)]) C.1 C.2.1 dX4_learn_88 hl (k := 4) rfl rfl (by decide) rfl (fun ls hl => ?_)
  refine lv_goto (tgt := 24) C.1 C.2.1 dX4_learn_91 (by decide) ?_
  exact hK24 ((x3 + (-1))) _ _ _ _ S (lv_sub hl [2, 3, 4, 0] rfl) h
set_option maxHeartbeats 4000000 in
set_option maxRecDepth 100000 in
theorem TX4_learn_47 (C : s_C G p s args m c RX4 cX4_learn) (hml : c.maxLocals = 7) (hcs : cells ≤ (rm_X4_learn).cells ∧ slots ≤ (rm_X4_learn).slots) {x2 : Int32} {K24 : Int32 → Sg → Prop} {post : Sg → Prop} (hR : ∀ (σ1 : Sg) (H : Heap) (locs : List Loc) (pc : Nat) (ls : Array Slot), decode cX4_learn pc = .ok (.return_, 1) → post σ1 → s_St G σ1 H0 H locs → W p l e rm_X4_learn s m args below meth c H locs cells slots Q (F0 m pc ls [])) (hK24 : ∀ (x3 : Int32), ∀ (σ : Sg) (H : Heap) (locs : List Loc) (ls : Array Slot), s_St G σ H0 H locs → lv_has ls 7 [(0, .ref (G.2.2 + 97)), (1, .ref (G.2.2 + 5)), (2, .int x2), (3, .int x3)] → K24 x3 σ → W p l e rm_X4_learn s m args below meth c H locs cells slots Q (F0 m 24 ls [])) : ∀ (x3 : Int32) (y0 : Int32), ∀ {σ : Sg} {H : Heap} {locs : List Loc} {ls : Array Slot}, s_St G σ H0 H locs → lv_has ls 7 [(0, .ref (G.2.2 + 97)), (1, .ref (G.2.2 + 5)), (2, .int x2), (3, .int x3)] → BX4_learn_47 x2 K24 post x3 y0 σ → W p l e rm_X4_learn s m args below meth c H locs cells slots Q (F0 m 47 ls [.int y0]) := by
  intro x3 y0  σ H locs ls S hl h
  unfold BX4_learn_47 at h
  refine lv_istore (lv' := [(4, .int y0), (0, .ref (G.2.2 + 97)), (1, .ref (G.2.2 + 5)), (2, .int x2), (3, .int x3)]) C.1 C.2.1 dX4_learn_47 hl (by decide) rfl (fun ls hl => ?_)
  refine lv_iload C.1 C.2.1 dX4_learn_49 (lv_at hl 0 rfl) ?_
  refine lv_if_eq (tgt := 66) C.1 C.2.1 dX4_learn_51 (by decide) (fun c5 => ?_) (fun c5 => ?_)
  · replace h := h.1 c5
    refine lv_lconst (v := (0 : Int64)) C.1 C.2.1 dX4_learn_66 (by decide) ?_
    exact TX4_learn_67 C hml hcs hR hK24 x3 ((0 : Int64)) S (lv_sub hl [1, 2, 3, 4] rfl) h
  · replace h := h.2 c5
    refine lv_aload_n C.1 C.2.1 dX4_learn_54 rfl (lv_at hl 2 rfl) ?_
    refine lv_iload_n C.1 C.2.1 dX4_learn_55 rfl (lv_at hl 4 rfl) ?_
    refine k_i (r_VN (As := [.int x3]) (rest := []) C hml (c_X1_isEnough l G 5 x3 σ _ kd_5 h) kM_X1_isEnough im_X1_isEnough se_X1_isEnough nm_X4_35 ⟨rfl, rfl⟩ ⟨Nat.le_of_ble_eq_true rfl, Nat.le_of_ble_eq_true rfl⟩ hcs S.v kd_5 (by decide) (T := TX1) (N := 4) rfl rfl hl.1 rfl (Nat.le_of_ble_eq_true rfl) dX4_learn_56) S (fun r7 σ6 H locs h S => ?_)
    refine lv_if_eq (tgt := 66) C.1 C.2.1 dX4_learn_59 (by decide) (fun c8 => ?_) (fun c8 => ?_)
    · replace h := h.1 c8
      refine lv_lconst (v := (0 : Int64)) C.1 C.2.1 dX4_learn_66 (by decide) ?_
      exact TX4_learn_67 C hml hcs hR hK24 x3 ((0 : Int64)) S (lv_sub hl [1, 2, 3, 4] rfl) h
    · replace h := h.2 c8
      refine lv_lconst (v := (1 : Int64)) C.1 C.2.1 dX4_learn_62 (by decide) ?_
      refine lv_goto (tgt := 67) C.1 C.2.1 dX4_learn_63 (by decide) ?_
      exact TX4_learn_67 C hml hcs hR hK24 x3 ((1 : Int64)) S (lv_sub hl [1, 2, 3, 4] rfl) h
set_option maxHeartbeats 4000000 in
set_option maxRecDepth 100000 in
theorem TX4_learn_24 (C : s_C G p s args m c RX4 cX4_learn) (hml : c.maxLocals = 7) (hcs : cells ≤ (rm_X4_learn).cells ∧ slots ≤ (rm_X4_learn).slots) {x2 : Int32} {post : Sg → Prop} (hR : ∀ (σ1 : Sg) (H : Heap) (locs : List Loc) (pc : Nat) (ls : Array Slot), decode cX4_learn pc = .ok (.return_, 1) → post σ1 → s_St G σ1 H0 H locs → W p l e rm_X4_learn s m args below meth c H locs cells slots Q (F0 m pc ls [])) : ∀ (n : Nat) (x3 : Int32), ∀ {σ : Sg} {H : Heap} {locs : List Loc} {ls : Array Slot}, s_St G σ H0 H locs → lv_has ls 7 [(0, .ref (G.2.2 + 97)), (1, .ref (G.2.2 + 5)), (2, .int x2), (3, .int x3)] → BX4_learn_24 x2 post n x3 σ → W p l e rm_X4_learn s m args below meth c H locs cells slots Q (F0 m 24 ls []) := by
  intro n
  induction n with
  | zero =>
    intro x3  σ H locs ls S hl h
    exact absurd h (fun h => h)
  | succ n ih0 =>
    have ih : ∀ (x3 : Int32), ∀ (σ : Sg) (H : Heap) (locs : List Loc) (ls : Array Slot), s_St G σ H0 H locs → lv_has ls 7 [(0, .ref (G.2.2 + 97)), (1, .ref (G.2.2 + 5)), (2, .int x2), (3, .int x3)] → BX4_learn_24 x2 post n x3 σ → W p l e rm_X4_learn s m args below meth c H locs cells slots Q (F0 m 24 ls []) := fun x3  _ _ _ _ => ih0 x3 
    intro x3  σ H locs ls S hl h
    refine lv_iload_n C.1 C.2.1 dX4_learn_24 rfl (lv_at hl 3 rfl) ?_
    refine lv_if_lt (tgt := 94) C.1 C.2.1 dX4_learn_25 (by decide) (fun c9 => ?_) (fun c9 => ?_)
    · replace h := h.1 c9
      refine lv_aload_n C.1 C.2.1 dX4_learn_94 rfl (lv_at hl 0 rfl) ?_
      refine lv_iload_n C.1 C.2.1 dX4_learn_95 rfl (lv_at hl 2 rfl) ?_
      refine p_X4_1 C fl_X4_15 kd_97 S dX4_learn_96 (fun σ10 H locs e11 S => ?_)
      replace h := h σ10 e11
      exact hR _ _ _ _ _ dX4_learn_99 h S
    · replace h := h.2 c9
      refine lv_iload_n C.1 C.2.1 dX4_learn_28 rfl (lv_at hl 2 rfl) ?_
      refine lv_iconst (v := (-1 : Int32)) C.1 C.2.1 dX4_learn_29 (by decide) ?_
      refine lv_icmp_eq (tgt := 42) C.1 C.2.1 dX4_learn_30 (by decide) (fun c12 => ?_) (fun c12 => ?_)
      · replace h := h.1 c12
        refine lv_iconst (v := (1 : Int32)) C.1 C.2.1 dX4_learn_42 (by decide) ?_
        refine lv_goto (tgt := 47) C.1 C.2.1 dX4_learn_43 (by decide) ?_
        exact TX4_learn_47 C hml hcs hR ih x3 ((1 : Int32)) S (lv_sub hl [0, 1, 2, 3] rfl) h
      · replace h := h.2 c12
        refine lv_aload_n C.1 C.2.1 dX4_learn_33 rfl (lv_at hl 1 rfl) ?_
        refine lv_iload_n C.1 C.2.1 dX4_learn_34 rfl (lv_at hl 3 rfl) ?_
        refine k_i (r_VN (As := [.int x3]) (rest := []) C hml (c_X1_lengthOf l G 5 x3 σ _ kd_5 h) kM_X1_lengthOf im_X1_lengthOf se_X1_lengthOf nm_X4_31 ⟨rfl, rfl⟩ ⟨Nat.le_of_ble_eq_true rfl, Nat.le_of_ble_eq_true rfl⟩ hcs S.v kd_5 (by decide) (T := TX1) (N := 4) rfl rfl hl.1 rfl (Nat.le_of_ble_eq_true rfl) dX4_learn_35) S (fun r14 σ13 H locs h S => ?_)
        refine lv_iload_n C.1 C.2.1 dX4_learn_38 rfl (lv_at hl 2 rfl) ?_
        refine lv_icmp_ne (tgt := 46) C.1 C.2.1 dX4_learn_39 (by decide) (fun c15 => ?_) (fun c15 => ?_)
        · replace h := h.1 c15
          refine lv_iconst (v := (0 : Int32)) C.1 C.2.1 dX4_learn_46 (by decide) ?_
          exact TX4_learn_47 C hml hcs hR ih x3 ((0 : Int32)) S (lv_sub hl [0, 1, 2, 3] rfl) h
        · replace h := h.2 c15
          refine lv_iconst (v := (1 : Int32)) C.1 C.2.1 dX4_learn_42 (by decide) ?_
          refine lv_goto (tgt := 47) C.1 C.2.1 dX4_learn_43 (by decide) ?_
          exact TX4_learn_47 C hml hcs hR ih x3 ((1 : Int32)) S (lv_sub hl [0, 1, 2, 3] rfl) h
theorem kM_X4_learn : s_M yX4_learn cX4_learn 7 none 2 := ⟨co_X4_learn, in_X4, by decide, by decide, by decide +kernel⟩
set_option maxHeartbeats 4000000 in
set_option maxRecDepth 100000 in
theorem c_X4_learn (l : Launch) (G : s_G) (x2 : Int32) (σ : Sg) (post : Sg → Prop) (h : wpX4_learn x2 σ post) : Met l yX4_learn (wsU yX4_learn cX4_learn 7 none) rm_X4_learn (va_Pc [.ref (G.2.2 + 97), .ref (G.2.2 + 5), .int x2] (s_Pre G σ)) (va_Qv post (s_B G) (s_A G.2.2)) 0 0 (s_A G.2.2) := by
  refine Met.ofW (cc := cX4_learn) (maxL := 7) (ret := none) (by decide) rfl ?_
  intro p e s m args below meth c s₁ B hml hv
  obtain ⟨rfl, hP, hrok, hK, hN⟩ := hv
  have C : s_C G p s (([.ref (G.2.2 + 97), .ref (G.2.2 + 5), .int x2] : List Value).toArray) m c RX4 cX4_learn := ⟨B.exec, B.bytes, findClass_of_methodNamed B.named, fun w hw => atoms_spec (ws := wsU yX4_learn cX4_learn 7 none) B.pre w (List.mem_cons_of_mem _ hw), hK, hN⟩
  have hr := B.returns
  have hlocks := B.notSynchronized
  have S : s_St G σ s.heap s.heap [] := ⟨hP, va_S.rf, hrok⟩
  have hcs : 0 ≤ (rm_X4_learn).cells ∧ 0 ≤ (rm_X4_learn).slots := ⟨Nat.le_refl 0, Nat.le_refl 0⟩
  have hR : ∀ (σ1 : Sg) (H : Heap) (locs : List Loc) (pc : Nat) (ls : Array Slot), decode cX4_learn pc = .ok (.return_, 1) → post σ1 → s_St G σ1 s.heap H locs → W p l e rm_X4_learn s m ([.ref (G.2.2 + 97), .ref (G.2.2 + 5), .int x2] : List Value).toArray below meth c H locs 0 0 (MQ below (va_Qv post (s_B G) (s_A G.2.2)) ([.ref (G.2.2 + 97), .ref (G.2.2 + 5), .int x2] : List Value).toArray s 0 0 (s_A G.2.2)) (F0 m pc ls []) := fun _ _ _ _ _ hd hp S => ret_v C hr hlocks hd hp S
  have hl := lv_entry ([.ref (G.2.2 + 97), .ref (G.2.2 + 5), .int x2]) (n := 7) (Nat.le_of_ble_eq_true rfl)
  rw [lg_entry_eq]
  generalize (lg_sl ([.ref (G.2.2 + 97), .ref (G.2.2 + 5), .int x2]) ++ List.replicate (7 - (lg_sl ([.ref (G.2.2 + 97), .ref (G.2.2 + 5), .int x2])).length) Slot.unset).toArray = ls at hl ⊢
  have hl : lv_has ls 7 [(0, .ref (G.2.2 + 97)), (1, .ref (G.2.2 + 5)), (2, .int x2)] := hl
  unfold wpX4_learn at h
  refine lv_aload_n C.1 C.2.1 dX4_learn_0 rfl (lv_at hl 0 rfl) ?_
  refine g_X4_1 C fl_X4_15 kd_97 S dX4_learn_1 ?_
  refine lv_iload_n C.1 C.2.1 dX4_learn_4 rfl (lv_at hl 2 rfl) ?_
  refine lv_icmp_ne (tgt := 9) C.1 C.2.1 dX4_learn_5 (by decide) (fun c16 => ?_) (fun c16 => ?_)
  · replace h := h.1 c16
    refine lv_aload_n C.1 C.2.1 dX4_learn_9 rfl (lv_at hl 1 rfl) ?_
    refine k_i (r_VN (As := []) (rest := []) C hml (c_X1_tallies l G 5 σ _ kd_5 h) kM_X1_tallies im_X1_tallies se_X1_tallies nm_X4_19 ⟨rfl, rfl⟩ ⟨Nat.le_of_ble_eq_true rfl, Nat.le_of_ble_eq_true rfl⟩ hcs S.v kd_5 (by decide) (T := TX1) (N := 4) rfl rfl hl.1 rfl (Nat.le_of_ble_eq_true rfl) dX4_learn_10) S (fun r18 σ17 H locs h S => ?_)
    refine lv_aload_n C.1 C.2.1 dX4_learn_13 rfl (lv_at hl 0 rfl) ?_
    refine g_X4_0 C fl_X4_9 kd_97 S fn_97_0 dX4_learn_14 ?_
    refine a_len9 C kd_98 S (v := (4096 : Int32)) (by rw [ln_98]; rfl) dX4_learn_17 ?_
    refine va_mmin C.1 C.2.1 (hml.trans hl.1.symm) C.2.2.1 (C.2.2.2.1 _ ml_X4_25) (C.2.2.2.1 _ st_min) (C.2.2.2.1 _ in_math) (C.2.2.2.1 _ co_min) (Nat.le_of_ble_eq_true rfl) (Nat.le_of_ble_eq_true rfl) hcs.1 hcs.2 dX4_learn_18 ?_
    refine lv_iconst (v := (1 : Int32)) C.1 C.2.1 dX4_learn_21 (by decide) ?_
    refine lv_isub C.1 C.2.1 dX4_learn_22 ?_
    refine lv_istore_n (lv' := [(3, .int ((if (4096 : Int32) < r18 then (4096 : Int32) else r18) - (1 : Int32))), (0, .ref (G.2.2 + 97)), (1, .ref (G.2.2 + 5)), (2, .int x2)]) C.1 C.2.1 dX4_learn_23 rfl hl (by decide) rfl (fun ls hl => ?_)
    obtain ⟨nf, h⟩ := h
    exact TX4_learn_24 C hml hcs hR nf (((if (4096 : Int32) < r18 then (4096 : Int32) else r18) - (1 : Int32))) S (lv_sub hl [1, 2, 3, 0] rfl) h
  · replace h := h.2 c16
    exact hR _ _ _ _ _ dX4_learn_8 h S
end M2
