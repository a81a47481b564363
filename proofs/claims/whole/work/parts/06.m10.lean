section M10
variable {p : Program} {l : Launch} {e : Env} {R : Room} {s : State} {m : MethodId} {args : Array Value} {below : List Frame} {meth : Method} {c : Code} {H0 : Heap} {cells slots : Nat} {Q : State → Prop} {G : s_G}
/-! X7_layOrders -/
abbrev rm_X7_layOrders : Room := { frames := 2, cells := 0, slots := 0, locals := 44 }
def BX7_layOrders_59  (K4 : Int32 → Sg → Prop) (post : Sg → Prop) : Nat → Int32 → Int32 → Sg → Prop
  | 0, _, _, _ => False
  | n + 1, x1, x2, σ => (vp_in ((0 : Int32)) 50 ∧ ((((σ.1 118 ((0 : Int32)).toNatClampNeg) ≤ x2) → K4 ((x1 + (-1))) σ) ∧ ((¬ (σ.1 118 ((0 : Int32)).toNatClampNeg) ≤ x2) → (vp_in x1 4096 ∧ wpX7_may x1 x2 σ (fun r3 σ2 => (((r3 = 0) → (vp_in x1 4096 ∧ (∀ σ5 : Sg, σ5 = setL σ2 129 (x1).toNatClampNeg (((σ.2.1 129 (x1).toNatClampNeg) + (0 : Int64))) → BX7_layOrders_59 K4 post n x1 ((x2 + 1)) σ5))) ∧ ((¬ r3 = 0) → wpX7_with x1 x2 σ2 (fun r8 σ7 => (vp_in r8 4096 ∧ (vp_in x1 4096 ∧ (∀ σ9 : Sg, σ9 = setL σ7 129 (x1).toNatClampNeg (((σ.2.1 129 (x1).toNatClampNeg) + (σ7.2.1 129 (r8).toNatClampNeg))) → BX7_layOrders_59 K4 post n x1 ((x2 + 1)) σ9)))))))))))
def BX7_layOrders_29  (K4 : Int32 → Sg → Prop) (post : Sg → Prop) (x1 : Int32) (y1 : Int32) (y2 : Int64) (σ : Sg) : Prop := (vp_in y1 4096 ∧ (∀ σ11 : Sg, σ11 = setL σ 130 (y1).toNatClampNeg y2 → wpX7_isState x1 σ11 (fun r14 σ13 => (((r14 = 0) → K4 ((x1 + (-1))) σ13) ∧ ((¬ r14 = 0) → wpX7_isWhole x1 σ13 (fun r17 σ16 => (((r17 = 0) → (vp_in x1 4096 ∧ (∀ σ19 : Sg, σ19 = setL σ16 129 (x1).toNatClampNeg ((0 : Int64)) → ∃ nf, BX7_layOrders_59 K4 post nf x1 ((0 : Int32)) σ19))) ∧ ((¬ r17 = 0) → (vp_in x1 4096 ∧ (∀ σ21 : Sg, σ21 = setL σ16 129 (x1).toNatClampNeg ((1 : Int64)) → ∃ nf, BX7_layOrders_59 K4 post nf x1 ((0 : Int32)) σ21))))))))))
def BX7_layOrders_124  (K115 : Int32 → Sg → Prop) (post : Sg → Prop) : Nat → Int32 → Int32 → Sg → Prop
  | 0, _, _, _ => False
  | n + 1, x1, x2, σ => (vp_in ((0 : Int32)) 50 ∧ ((((σ.1 118 ((0 : Int32)).toNatClampNeg) ≤ x2) → K115 ((x1 + 1)) σ) ∧ ((¬ (σ.1 118 ((0 : Int32)).toNatClampNeg) ≤ x2) → (vp_in x1 4096 ∧ ((((lg_cmp (σ.2.1 130 (x1).toNatClampNeg) (0 : Int64)) ≤ 0) → K115 ((x1 + 1)) σ) ∧ ((¬ (lg_cmp (σ.2.1 130 (x1).toNatClampNeg) (0 : Int64)) ≤ 0) → wpX7_may x1 x2 σ (fun r26 σ25 => (((r26 = 0) → BX7_layOrders_124 K115 post n x1 ((x2 + 1)) σ25) ∧ ((¬ r26 = 0) → wpX7_with x1 x2 σ25 (fun r29 σ28 => (vp_in r29 4096 ∧ (vp_in x1 4096 ∧ (vp_in r29 4096 ∧ (∀ σ30 : Sg, σ30 = setL σ28 130 (r29).toNatClampNeg (((σ28.2.1 130 (r29).toNatClampNeg) + (σ28.2.1 130 (x1).toNatClampNeg))) → BX7_layOrders_124 K115 post n x1 ((x2 + 1)) σ30))))))))))))))
def BX7_layOrders_115  (post : Sg → Prop) : Nat → Int32 → Sg → Prop
  | 0, _, _ => False
  | n + 1, x1, σ => ((((4096 : Int32) ≤ x1) → post σ) ∧ ((¬ (4096 : Int32) ≤ x1) → ∃ nf, BX7_layOrders_124 (BX7_layOrders_115 post n) post nf x1 ((0 : Int32)) σ))
def BX7_layOrders_4  (post : Sg → Prop) : Nat → Int32 → Sg → Prop
  | 0, _, _ => False
  | n + 1, x1, σ => (((x1 < 0) → ∃ nf, BX7_layOrders_115 post nf ((0 : Int32)) σ) ∧ ((¬ x1 < 0) → (vp_in x1 4096 ∧ (∀ σ34 : Sg, σ34 = setL σ 129 (x1).toNatClampNeg ((0 : Int64)) → (((¬ x1 = 0) → BX7_layOrders_29 (BX7_layOrders_4 post n) post x1 x1 ((0 : Int64)) σ34) ∧ ((x1 = 0) → BX7_layOrders_29 (BX7_layOrders_4 post n) post x1 x1 ((1 : Int64)) σ34))))))
def wpX7_layOrders  (σ : Sg) (post : Sg → Prop) : Prop := ∃ nf, BX7_layOrders_4 post nf ((4095 : Int32)) σ
set_option maxHeartbeats 4000000 in
set_option maxRecDepth 100000 in
theorem TX7_layOrders_59 (C : s_C G p s args m c RX7 cX7_layOrders) (hml : c.maxLocals = 3) (hcs : cells ≤ (rm_X7_layOrders).cells ∧ slots ≤ (rm_X7_layOrders).slots)  {K4 : Int32 → Sg → Prop} {post : Sg → Prop} (hR : ∀ (σ1 : Sg) (H : Heap) (locs : List Loc) (pc : Nat) (ls : Array Slot), decode cX7_layOrders pc = .ok (.return_, 1) → post σ1 → s_St G σ1 H0 H locs → W p l e rm_X7_layOrders s m args below meth c H locs cells slots Q (F0 m pc ls [])) (hK4 : ∀ (x1 : Int32), ∀ (σ : Sg) (H : Heap) (locs : List Loc) (ls : Array Slot), s_St G σ H0 H locs → lv_has ls 3 [(0, .ref (G.2.2 + 117)), (1, .int x1)] → K4 x1 σ → W p l e rm_X7_layOrders s m args below meth c H locs cells slots Q (F0 m 4 ls [])) : ∀ (n : Nat) (x1 : Int32) (x2 : Int32), ∀ {σ : Sg} {H : Heap} {locs : List Loc} {ls : Array Slot}, s_St G σ H0 H locs → lv_has ls 3 [(0, .ref (G.2.2 + 117)), (1, .int x1), (2, .int x2)] → BX7_layOrders_59 K4 post n x1 x2 σ → W p l e rm_X7_layOrders s m args below meth c H locs cells slots Q (F0 m 59 ls []) := by
  intro n
  induction n with
  | zero =>
    intro x1 x2  σ H locs ls S hl h
    exact absurd h (fun h => h)
  | succ n ih0 =>
    have ih : ∀ (x1 : Int32) (x2 : Int32), ∀ (σ : Sg) (H : Heap) (locs : List Loc) (ls : Array Slot), s_St G σ H0 H locs → lv_has ls 3 [(0, .ref (G.2.2 + 117)), (1, .int x1), (2, .int x2)] → BX7_layOrders_59 K4 post n x1 x2 σ → W p l e rm_X7_layOrders s m args below meth c H locs cells slots Q (F0 m 59 ls []) := fun x1 x2  _ _ _ _ => ih0 x1 x2 
    intro x1 x2  σ H locs ls S hl h
    refine lv_iload_n C.1 C.2.1 dX7_layOrders_59 rfl (lv_at hl 2 rfl) ?_
    refine lv_aload_n C.1 C.2.1 dX7_layOrders_60 rfl (lv_at hl 0 rfl) ?_
    refine g_X7_0 C fl_X7_7 kd_117 S fn_117_0 dX7_layOrders_61 ?_
    refine lv_iconst (v := (0 : Int32)) C.1 C.2.1 dX7_layOrders_64 (by decide) ?_
    refine a_ild C kd_118 S ln_118 h.1 dX7_layOrders_65 ?_
    replace h := h.2
    refine lv_icmp_ge (tgt := 107) C.1 C.2.1 dX7_layOrders_66 (by decide) (fun c1 => ?_) (fun c1 => ?_)
    · replace h := h.1 c1
      refine lv_iinc (v := (x1 + (-1))) (lv' := [(1, .int (x1 + (-1))), (0, .ref (G.2.2 + 117)), (2, .int x2)]) C.1 C.2.1 dX7_layOrders_107 hl (k := 1) rfl rfl (by decide) rfl (fun ls hl => ?_)
      refine lv_goto (tgt := 4) C.1 C.2.1 dX7_layOrders_110 (by decide) ?_
      exact hK4 ((x1 + (-1))) _ _ _ _ S (lv_sub hl [1, 0] rfl) h
    · replace h := h.2 c1
      refine lv_aload_n C.1 C.2.1 dX7_layOrders_69 rfl (lv_at hl 0 rfl) ?_
      refine g_X7_15 C fl_X7_45 kd_117 S fn_117_15 dX7_layOrders_70 ?_
      refine lv_iload_n C.1 C.2.1 dX7_layOrders_73 rfl (lv_at hl 1 rfl) ?_
      refine lv_dup2_11 C.1 C.2.1 dX7_layOrders_74 rfl rfl ?_
      refine a_lld C kd_129 S ln_129 h.1 dX7_layOrders_75 ?_
      replace h := h.2
      refine lv_aload_n C.1 C.2.1 dX7_layOrders_76 rfl (lv_at hl 0 rfl) ?_
      refine lv_iload_n C.1 C.2.1 dX7_layOrders_77 rfl (lv_at hl 1 rfl) ?_
      refine lv_iload_n C.1 C.2.1 dX7_layOrders_78 rfl (lv_at hl 2 rfl) ?_
      refine k_i (r_V (As := [.int x1, .int x2]) (rest := [.long (σ.2.1 129 (x1).toNatClampNeg), .int x1, .ref (G.2.2 + 129)]) C hml (c_X7_may l G x1 x2 σ _ h) kM_X7_may im_X7_may se_X7_may ml_X7_128 ⟨rfl, rfl⟩ ⟨Nat.le_of_ble_eq_true rfl, Nat.le_of_ble_eq_true rfl⟩ hcs S kd_117 (by decide) (T := TX7) (N := 17) rfl rfl hl.1 rfl (Nat.le_of_ble_eq_true rfl) dX7_layOrders_79) S (fun r3 σ2 H locs h S => ?_)
      refine lv_if_eq (tgt := 98) C.1 C.2.1 dX7_layOrders_82 (by decide) (fun c4 => ?_) (fun c4 => ?_)
      · replace h := h.1 c4
        refine lv_lconst (v := (0 : Int64)) C.1 C.2.1 dX7_layOrders_98 (by decide) ?_
        refine lv_ladd C.1 C.2.1 dX7_layOrders_99 ?_
        refine a_lst C kd_129 S ln_129 h.1 dX7_layOrders_100 (fun σ5 H locs e6 S => ?_)
        replace h := h.2 σ5 e6
        refine lv_iinc (v := (x2 + 1)) (lv' := [(2, .int (x2 + 1)), (0, .ref (G.2.2 + 117)), (1, .int x1)]) C.1 C.2.1 dX7_layOrders_101 hl (k := 2) rfl rfl (by decide) rfl (fun ls hl => ?_)
        refine lv_goto (tgt := 59) C.1 C.2.1 dX7_layOrders_104 (by decide) ?_
        exact ih x1 ((x2 + 1)) _ _ _ _ S (lv_sub hl [1, 2, 0] rfl) h
      · replace h := h.2 c4
        refine lv_aload_n C.1 C.2.1 dX7_layOrders_85 rfl (lv_at hl 0 rfl) ?_
        refine g_X7_15 C fl_X7_45 kd_117 S fn_117_15 dX7_layOrders_86 ?_
        refine lv_iload_n C.1 C.2.1 dX7_layOrders_89 rfl (lv_at hl 1 rfl) ?_
        refine lv_iload_n C.1 C.2.1 dX7_layOrders_90 rfl (lv_at hl 2 rfl) ?_
        refine k_i (r_S (As := [.int x1, .int x2]) (rest := [.ref (G.2.2 + 129), .long (σ.2.1 129 (x1).toNatClampNeg), .int x1, .ref (G.2.2 + 129)]) C hml (c_X7_with l G x1 x2 σ2 _ h) kM_X7_with st_X7_with ml_X7_143 ⟨rfl, rfl⟩ ⟨Nat.le_of_ble_eq_true rfl, Nat.le_of_ble_eq_true rfl⟩ hcs S rfl hl.1 rfl (Nat.le_of_ble_eq_true rfl) dX7_layOrders_91) S (fun r8 σ7 H locs h S => ?_)
        refine a_lld C kd_129 S ln_129 h.1 dX7_layOrders_94 ?_
        replace h := h.2
        refine lv_goto (tgt := 99) C.1 C.2.1 dX7_layOrders_95 (by decide) ?_
        refine lv_ladd C.1 C.2.1 dX7_layOrders_99 ?_
        refine a_lst C kd_129 S ln_129 h.1 dX7_layOrders_100 (fun σ9 H locs e10 S => ?_)
        replace h := h.2 σ9 e10
        refine lv_iinc (v := (x2 + 1)) (lv' := [(2, .int (x2 + 1)), (0, .ref (G.2.2 + 117)), (1, .int x1)]) C.1 C.2.1 dX7_layOrders_101 hl (k := 2) rfl rfl (by decide) rfl (fun ls hl => ?_)
        refine lv_goto (tgt := 59) C.1 C.2.1 dX7_layOrders_104 (by decide) ?_
        exact ih x1 ((x2 + 1)) _ _ _ _ S (lv_sub hl [1, 2, 0] rfl) h
set_option maxHeartbeats 4000000 in
set_option maxRecDepth 100000 in
theorem TX7_layOrders_29 (C : s_C G p s args m c RX7 cX7_layOrders) (hml : c.maxLocals = 3) (hcs : cells ≤ (rm_X7_layOrders).cells ∧ slots ≤ (rm_X7_layOrders).slots)  {K4 : Int32 → Sg → Prop} {post : Sg → Prop} (hR : ∀ (σ1 : Sg) (H : Heap) (locs : List Loc) (pc : Nat) (ls : Array Slot), decode cX7_layOrders pc = .ok (.return_, 1) → post σ1 → s_St G σ1 H0 H locs → W p l e rm_X7_layOrders s m args below meth c H locs cells slots Q (F0 m pc ls [])) (hK4 : ∀ (x1 : Int32), ∀ (σ : Sg) (H : Heap) (locs : List Loc) (ls : Array Slot), s_St G σ H0 H locs → lv_has ls 3 [(0, .ref (G.2.2 + 117)), (1, .int x1)] → K4 x1 σ → W p l e rm_X7_layOrders s m args below meth c H locs cells slots Q (F0 m 4 ls [])) : ∀ (x1 : Int32) (y1 : Int32) (y2 : Int64), ∀ {σ : Sg} {H : Heap} {locs : List Loc} {ls : Array Slot}, s_St G σ H0 H locs → lv_has ls 3 [(0, .ref (G.2.2 + 117)), (1, .int x1)] → BX7_layOrders_29 K4 post x1 y1 y2 σ → W p l e rm_X7_layOrders s m args below meth c H locs cells slots Q (F0 m 29 ls [.long y2, .int y1, .ref (G.2.2 + 130)]) := by
  intro x1 y1 y2  σ H locs ls S hl h
  unfold BX7_layOrders_29 at h
  refine a_lst C kd_130 S ln_130 h.1 dX7_layOrders_29 (fun σ11 H locs e12 S => ?_)
  replace h := h.2 σ11 e12
  refine lv_aload_n C.1 C.2.1 dX7_layOrders_30 rfl (lv_at hl 0 rfl) ?_
  refine lv_iload_n C.1 C.2.1 dX7_layOrders_31 rfl (lv_at hl 1 rfl) ?_
  refine k_i (r_V (As := [.int x1]) (rest := []) C hml (c_X7_isState l G x1 σ11 _ h) kM_X7_isState im_X7_isState se_X7_isState ml_X7_178 ⟨rfl, rfl⟩ ⟨Nat.le_of_ble_eq_true rfl, Nat.le_of_ble_eq_true rfl⟩ hcs S kd_117 (by decide) (T := TX7) (N := 17) rfl rfl hl.1 rfl (Nat.le_of_ble_eq_true rfl) dX7_layOrders_32) S (fun r14 σ13 H locs h S => ?_)
  refine lv_if_eq (tgt := 107) C.1 C.2.1 dX7_layOrders_35 (by decide) (fun c15 => ?_) (fun c15 => ?_)
  · replace h := h.1 c15
    refine lv_iinc (v := (x1 + (-1))) (lv' := [(1, .int (x1 + (-1))), (0, .ref (G.2.2 + 117))]) C.1 C.2.1 dX7_layOrders_107 hl (k := 1) rfl rfl (by decide) rfl (fun ls hl => ?_)
    refine lv_goto (tgt := 4) C.1 C.2.1 dX7_layOrders_110 (by decide) ?_
    exact hK4 ((x1 + (-1))) _ _ _ _ S (lv_sub hl [1, 0] rfl) h
  · replace h := h.2 c15
    refine lv_aload_n C.1 C.2.1 dX7_layOrders_38 rfl (lv_at hl 0 rfl) ?_
    refine g_X7_15 C fl_X7_45 kd_117 S fn_117_15 dX7_layOrders_39 ?_
    refine lv_iload_n C.1 C.2.1 dX7_layOrders_42 rfl (lv_at hl 1 rfl) ?_
    refine lv_aload_n C.1 C.2.1 dX7_layOrders_43 rfl (lv_at hl 0 rfl) ?_
    refine lv_iload_n C.1 C.2.1 dX7_layOrders_44 rfl (lv_at hl 1 rfl) ?_
    refine k_i (r_V (As := [.int x1]) (rest := [.int x1, .ref (G.2.2 + 129)]) C hml (c_X7_isWhole l G x1 σ13 _ h) kM_X7_isWhole im_X7_isWhole se_X7_isWhole ml_X7_146 ⟨rfl, rfl⟩ ⟨Nat.le_of_ble_eq_true rfl, Nat.le_of_ble_eq_true rfl⟩ hcs S kd_117 (by decide) (T := TX7) (N := 17) rfl rfl hl.1 rfl (Nat.le_of_ble_eq_true rfl) dX7_layOrders_45) S (fun r17 σ16 H locs h S => ?_)
    refine lv_if_eq (tgt := 55) C.1 C.2.1 dX7_layOrders_48 (by decide) (fun c18 => ?_) (fun c18 => ?_)
    · replace h := h.1 c18
      refine lv_lconst (v := (0 : Int64)) C.1 C.2.1 dX7_layOrders_55 (by decide) ?_
      refine a_lst C kd_129 S ln_129 h.1 dX7_layOrders_56 (fun σ19 H locs e20 S => ?_)
      replace h := h.2 σ19 e20
      refine lv_iconst (v := (0 : Int32)) C.1 C.2.1 dX7_layOrders_57 (by decide) ?_
      refine lv_istore_n (lv' := [(2, .int (0 : Int32)), (0, .ref (G.2.2 + 117)), (1, .int x1)]) C.1 C.2.1 dX7_layOrders_58 rfl hl (by decide) rfl (fun ls hl => ?_)
      obtain ⟨nf, h⟩ := h
      exact TX7_layOrders_59 C hml hcs hR hK4 nf x1 ((0 : Int32)) S (lv_sub hl [1, 2, 0] rfl) h
    · replace h := h.2 c18
      refine lv_lconst (v := (1 : Int64)) C.1 C.2.1 dX7_layOrders_51 (by decide) ?_
      refine lv_goto (tgt := 56) C.1 C.2.1 dX7_layOrders_52 (by decide) ?_
      refine a_lst C kd_129 S ln_129 h.1 dX7_layOrders_56 (fun σ21 H locs e22 S => ?_)
      replace h := h.2 σ21 e22
      refine lv_iconst (v := (0 : Int32)) C.1 C.2.1 dX7_layOrders_57 (by decide) ?_
      refine lv_istore_n (lv' := [(2, .int (0 : Int32)), (0, .ref (G.2.2 + 117)), (1, .int x1)]) C.1 C.2.1 dX7_layOrders_58 rfl hl (by decide) rfl (fun ls hl => ?_)
      obtain ⟨nf, h⟩ := h
      exact TX7_layOrders_59 C hml hcs hR hK4 nf x1 ((0 : Int32)) S (lv_sub hl [1, 2, 0] rfl) h
set_option maxHeartbeats 4000000 in
set_option maxRecDepth 100000 in
theorem TX7_layOrders_124 (C : s_C G p s args m c RX7 cX7_layOrders) (hml : c.maxLocals = 3) (hcs : cells ≤ (rm_X7_layOrders).cells ∧ slots ≤ (rm_X7_layOrders).slots)  {K115 : Int32 → Sg → Prop} {post : Sg → Prop} (hR : ∀ (σ1 : Sg) (H : Heap) (locs : List Loc) (pc : Nat) (ls : Array Slot), decode cX7_layOrders pc = .ok (.return_, 1) → post σ1 → s_St G σ1 H0 H locs → W p l e rm_X7_layOrders s m args below meth c H locs cells slots Q (F0 m pc ls [])) (hK115 : ∀ (x1 : Int32), ∀ (σ : Sg) (H : Heap) (locs : List Loc) (ls : Array Slot), s_St G σ H0 H locs → lv_has ls 3 [(0, .ref (G.2.2 + 117)), (1, .int x1)] → K115 x1 σ → W p l e rm_X7_layOrders s m args below meth c H locs cells slots Q (F0 m 115 ls [])) : ∀ (n : Nat) (x1 : Int32) (x2 : Int32), ∀ {σ : Sg} {H : Heap} {locs : List Loc} {ls : Array Slot}, s_St G σ H0 H locs → lv_has ls 3 [(0, .ref (G.2.2 + 117)), (1, .int x1), (2, .int x2)] → BX7_layOrders_124 K115 post n x1 x2 σ → W p l e rm_X7_layOrders s m args below meth c H locs cells slots Q (F0 m 124 ls []) := by
  intro n
  induction n with
  | zero =>
    intro x1 x2  σ H locs ls S hl h
    exact absurd h (fun h => h)
  | succ n ih0 =>
    have ih : ∀ (x1 : Int32) (x2 : Int32), ∀ (σ : Sg) (H : Heap) (locs : List Loc) (ls : Array Slot), s_St G σ H0 H locs → lv_has ls 3 [(0, .ref (G.2.2 + 117)), (1, .int x1), (2, .int x2)] → BX7_layOrders_124 K115 post n x1 x2 σ → W p l e rm_X7_layOrders s m args below meth c H locs cells slots Q (F0 m 124 ls []) := fun x1 x2  _ _ _ _ => ih0 x1 x2 
    intro x1 x2  σ H locs ls S hl h
    refine lv_iload_n C.1 C.2.1 dX7_layOrders_124 rfl (lv_at hl 2 rfl) ?_
    refine lv_aload_n C.1 C.2.1 dX7_layOrders_125 rfl (lv_at hl 0 rfl) ?_
    refine g_X7_0 C fl_X7_7 kd_117 S fn_117_0 dX7_layOrders_126 ?_
    refine lv_iconst (v := (0 : Int32)) C.1 C.2.1 dX7_layOrders_129 (by decide) ?_
    refine a_ild C kd_118 S ln_118 h.1 dX7_layOrders_130 ?_
    replace h := h.2
    refine lv_icmp_ge (tgt := 179) C.1 C.2.1 dX7_layOrders_131 (by decide) (fun c23 => ?_) (fun c23 => ?_)
    · replace h := h.1 c23
      refine lv_iinc (v := (x1 + 1)) (lv' := [(1, .int (x1 + 1)), (0, .ref (G.2.2 + 117)), (2, .int x2)]) C.1 C.2.1 dX7_layOrders_179 hl (k := 1) rfl rfl (by decide) rfl (fun ls hl => ?_)
      refine lv_goto (tgt := 115) C.1 C.2.1 dX7_layOrders_182 (by decide) ?_
      exact hK115 ((x1 + 1)) _ _ _ _ S (lv_sub hl [1, 0] rfl) h
    · replace h := h.2 c23
      refine lv_aload_n C.1 C.2.1 dX7_layOrders_134 rfl (lv_at hl 0 rfl) ?_
      refine g_X7_16 C fl_X7_49 kd_117 S fn_117_16 dX7_layOrders_135 ?_
      refine lv_iload_n C.1 C.2.1 dX7_layOrders_138 rfl (lv_at hl 1 rfl) ?_
      refine a_lld C kd_130 S ln_130 h.1 dX7_layOrders_139 ?_
      replace h := h.2
      refine lv_lconst (v := (0 : Int64)) C.1 C.2.1 dX7_layOrders_140 (by decide) ?_
      refine W.lcmp C.1 C.2.1 dX7_layOrders_141 ?_
      refine lv_if_le (tgt := 179) C.1 C.2.1 dX7_layOrders_142 (by decide) (fun c24 => ?_) (fun c24 => ?_)
      · replace h := h.1 c24
        refine lv_iinc (v := (x1 + 1)) (lv' := [(1, .int (x1 + 1)), (0, .ref (G.2.2 + 117)), (2, .int x2)]) C.1 C.2.1 dX7_layOrders_179 hl (k := 1) rfl rfl (by decide) rfl (fun ls hl => ?_)
        refine lv_goto (tgt := 115) C.1 C.2.1 dX7_layOrders_182 (by decide) ?_
        exact hK115 ((x1 + 1)) _ _ _ _ S (lv_sub hl [1, 0] rfl) h
      · replace h := h.2 c24
        refine lv_aload_n C.1 C.2.1 dX7_layOrders_145 rfl (lv_at hl 0 rfl) ?_
        refine lv_iload_n C.1 C.2.1 dX7_layOrders_146 rfl (lv_at hl 1 rfl) ?_
        refine lv_iload_n C.1 C.2.1 dX7_layOrders_147 rfl (lv_at hl 2 rfl) ?_
        refine k_i (r_V (As := [.int x1, .int x2]) (rest := []) C hml (c_X7_may l G x1 x2 σ _ h) kM_X7_may im_X7_may se_X7_may ml_X7_128 ⟨rfl, rfl⟩ ⟨Nat.le_of_ble_eq_true rfl, Nat.le_of_ble_eq_true rfl⟩ hcs S kd_117 (by decide) (T := TX7) (N := 17) rfl rfl hl.1 rfl (Nat.le_of_ble_eq_true rfl) dX7_layOrders_148) S (fun r26 σ25 H locs h S => ?_)
        refine lv_if_eq (tgt := 173) C.1 C.2.1 dX7_layOrders_151 (by decide) (fun c27 => ?_) (fun c27 => ?_)
        · replace h := h.1 c27
          refine lv_iinc (v := (x2 + 1)) (lv' := [(2, .int (x2 + 1)), (0, .ref (G.2.2 + 117)), (1, .int x1)]) C.1 C.2.1 dX7_layOrders_173 hl (k := 2) rfl rfl (by decide) rfl (fun ls hl => ?_)
          refine lv_goto (tgt := 124) C.1 C.2.1 dX7_layOrders_176 (by decide) ?_
          exact ih x1 ((x2 + 1)) _ _ _ _ S (lv_sub hl [1, 2, 0] rfl) h
        · replace h := h.2 c27
          refine lv_aload_n C.1 C.2.1 dX7_layOrders_154 rfl (lv_at hl 0 rfl) ?_
          refine g_X7_16 C fl_X7_49 kd_117 S fn_117_16 dX7_layOrders_155 ?_
          refine lv_iload_n C.1 C.2.1 dX7_layOrders_158 rfl (lv_at hl 1 rfl) ?_
          refine lv_iload_n C.1 C.2.1 dX7_layOrders_159 rfl (lv_at hl 2 rfl) ?_
          refine k_i (r_S (As := [.int x1, .int x2]) (rest := [.ref (G.2.2 + 130)]) C hml (c_X7_with l G x1 x2 σ25 _ h) kM_X7_with st_X7_with ml_X7_143 ⟨rfl, rfl⟩ ⟨Nat.le_of_ble_eq_true rfl, Nat.le_of_ble_eq_true rfl⟩ hcs S rfl hl.1 rfl (Nat.le_of_ble_eq_true rfl) dX7_layOrders_160) S (fun r29 σ28 H locs h S => ?_)
          refine lv_dup2_11 C.1 C.2.1 dX7_layOrders_163 rfl rfl ?_
          refine a_lld C kd_130 S ln_130 h.1 dX7_layOrders_164 ?_
          replace h := h.2
          refine lv_aload_n C.1 C.2.1 dX7_layOrders_165 rfl (lv_at hl 0 rfl) ?_
          refine g_X7_16 C fl_X7_49 kd_117 S fn_117_16 dX7_layOrders_166 ?_
          refine lv_iload_n C.1 C.2.1 dX7_layOrders_169 rfl (lv_at hl 1 rfl) ?_
          refine a_lld C kd_130 S ln_130 h.1 dX7_layOrders_170 ?_
          replace h := h.2
          refine lv_ladd C.1 C.2.1 dX7_layOrders_171 ?_
          refine a_lst C kd_130 S ln_130 h.1 dX7_layOrders_172 (fun σ30 H locs e31 S => ?_)
          replace h := h.2 σ30 e31
          refine lv_iinc (v := (x2 + 1)) (lv' := [(2, .int (x2 + 1)), (0, .ref (G.2.2 + 117)), (1, .int x1)]) C.1 C.2.1 dX7_layOrders_173 hl (k := 2) rfl rfl (by decide) rfl (fun ls hl => ?_)
          refine lv_goto (tgt := 124) C.1 C.2.1 dX7_layOrders_176 (by decide) ?_
          exact ih x1 ((x2 + 1)) _ _ _ _ S (lv_sub hl [1, 2, 0] rfl) h
set_option maxHeartbeats 4000000 in
set_option maxRecDepth 100000 in
theorem TX7_layOrders_115 (C : s_C G p s args m c RX7 cX7_layOrders) (hml : c.maxLocals = 3) (hcs : cells ≤ (rm_X7_layOrders).cells ∧ slots ≤ (rm_X7_layOrders).slots)  {post : Sg → Prop} (hR : ∀ (σ1 : Sg) (H : Heap) (locs : List Loc) (pc : Nat) (ls : Array Slot), decode cX7_layOrders pc = .ok (.return_, 1) → post σ1 → s_St G σ1 H0 H locs → W p l e rm_X7_layOrders s m args below meth c H locs cells slots Q (F0 m pc ls [])) : ∀ (n : Nat) (x1 : Int32), ∀ {σ : Sg} {H : Heap} {locs : List Loc} {ls : Array Slot}, s_St G σ H0 H locs → lv_has ls 3 [(0, .ref (G.2.2 + 117)), (1, .int x1)] → BX7_layOrders_115 post n x1 σ → W p l e rm_X7_layOrders s m args below meth c H locs cells slots Q (F0 m 115 ls []) := by
  intro n
  induction n with
  | zero =>
    intro x1  σ H locs ls S hl h
    exact absurd h (fun h => h)
  | succ n ih0 =>
    have ih : ∀ (x1 : Int32), ∀ (σ : Sg) (H : Heap) (locs : List Loc) (ls : Array Slot), s_St G σ H0 H locs → lv_has ls 3 [(0, .ref (G.2.2 + 117)), (1, .int x1)] → BX7_layOrders_115 post n x1 σ → W p l e rm_X7_layOrders s m args below meth c H locs cells slots Q (F0 m 115 ls []) := fun x1  _ _ _ _ => ih0 x1 
    intro x1  σ H locs ls S hl h
    refine lv_iload_n C.1 C.2.1 dX7_layOrders_115 rfl (lv_at hl 1 rfl) ?_
    refine lv_sipush (v := (4096 : Int32)) C.1 C.2.1 dX7_layOrders_116 (by decide) ?_
    refine lv_icmp_ge (tgt := 185) C.1 C.2.1 dX7_layOrders_119 (by decide) (fun c32 => ?_) (fun c32 => ?_)
    · replace h := h.1 c32
      exact hR _ _ _ _ _ dX7_layOrders_185 h S
    · replace h := h.2 c32
      refine lv_iconst (v := (0 : Int32)) C.1 C.2.1 dX7_layOrders_122 (by decide) ?_
      refine lv_istore_n (lv' := [(2, .int (0 : Int32)), (0, .ref (G.2.2 + 117)), (1, .int x1)]) C.1 C.2.1 dX7_layOrders_123 rfl hl (by decide) rfl (fun ls hl => ?_)
      obtain ⟨nf, h⟩ := h
      exact TX7_layOrders_124 C hml hcs hR ih nf x1 ((0 : Int32)) S (lv_sub hl [1, 2, 0] rfl) h
set_option maxHeartbeats 4000000 in
set_option maxRecDepth 100000 in
theorem TX7_layOrders_4 (C : s_C G p s args m c RX7 cX7_layOrders) (hml : c.maxLocals = 3) (hcs : cells ≤ (rm_X7_layOrders).cells ∧ slots ≤ (rm_X7_layOrders).slots)  {post : Sg → Prop} (hR : ∀ (σ1 : Sg) (H : Heap) (locs : List Loc) (pc : Nat) (ls : Array Slot), decode cX7_layOrders pc = .ok (.return_, 1) → post σ1 → s_St G σ1 H0 H locs → W p l e rm_X7_layOrders s m args below meth c H locs cells slots Q (F0 m pc ls [])) : ∀ (n : Nat) (x1 : Int32), ∀ {σ : Sg} {H : Heap} {locs : List Loc} {ls : Array Slot}, s_St G σ H0 H locs → lv_has ls 3 [(0, .ref (G.2.2 + 117)), (1, .int x1)] → BX7_layOrders_4 post n x1 σ → W p l e rm_X7_layOrders s m args below meth c H locs cells slots Q (F0 m 4 ls []) := by
  intro n
  induction n with
  | zero =>
    intro x1  σ H locs ls S hl h
    exact absurd h (fun h => h)
  | succ n ih0 =>
    have ih : ∀ (x1 : Int32), ∀ (σ : Sg) (H : Heap) (locs : List Loc) (ls : Array Slot), s_St G σ H0 H locs → lv_has ls 3 [(0, .ref (G.2.2 + 117)), (1, .int x1)] → BX7_layOrders_4 post n x1 σ → W p l e rm_X7_layOrders s m args below meth c H locs cells slots Q (F0 m 4 ls []) := fun x1  _ _ _ _ => ih0 x1 
    intro x1  σ H locs ls S hl h
    refine lv_iload_n C.1 C.2.1 dX7_layOrders_4 rfl (lv_at hl 1 rfl) ?_
    refine lv_if_lt (tgt := 113) C.1 C.2.1 dX7_layOrders_5 (by decide) (fun c33 => ?_) (fun c33 => ?_)
    · replace h := h.1 c33
      refine lv_iconst (v := (0 : Int32)) C.1 C.2.1 dX7_layOrders_113 (by decide) ?_
      refine lv_istore_n (lv' := [(1, .int (0 : Int32)), (0, .ref (G.2.2 + 117))]) C.1 C.2.1 dX7_layOrders_114 rfl hl (by decide) rfl (fun ls hl => ?_)
      obtain ⟨nf, h⟩ := h
      exact TX7_layOrders_115 C hml hcs hR nf ((0 : Int32)) S (lv_sub hl [1, 0] rfl) h
    · replace h := h.2 c33
      refine lv_aload_n C.1 C.2.1 dX7_layOrders_8 rfl (lv_at hl 0 rfl) ?_
      refine g_X7_15 C fl_X7_45 kd_117 S fn_117_15 dX7_layOrders_9 ?_
      refine lv_iload_n C.1 C.2.1 dX7_layOrders_12 rfl (lv_at hl 1 rfl) ?_
      refine lv_lconst (v := (0 : Int64)) C.1 C.2.1 dX7_layOrders_13 (by decide) ?_
      refine a_lst C kd_129 S ln_129 h.1 dX7_layOrders_14 (fun σ34 H locs e35 S => ?_)
      replace h := h.2 σ34 e35
      refine lv_aload_n C.1 C.2.1 dX7_layOrders_15 rfl (lv_at hl 0 rfl) ?_
      refine g_X7_16 C fl_X7_49 kd_117 S fn_117_16 dX7_layOrders_16 ?_
      refine lv_iload_n C.1 C.2.1 dX7_layOrders_19 rfl (lv_at hl 1 rfl) ?_
      refine lv_iload_n C.1 C.2.1 dX7_layOrders_20 rfl (lv_at hl 1 rfl) ?_
      refine lv_if_ne (tgt := 28) C.1 C.2.1 dX7_layOrders_21 (by decide) (fun c36 => ?_) (fun c36 => ?_)
      · replace h := h.1 c36
        refine lv_lconst (v := (0 : Int64)) C.1 C.2.1 dX7_layOrders_28 (by decide) ?_
        exact TX7_layOrders_29 C hml hcs hR ih x1 x1 ((0 : Int64)) S (lv_sub hl [0, 1] rfl) h
      · replace h := h.2 c36
        refine lv_lconst (v := (1 : Int64)) C.1 C.2.1 dX7_layOrders_24 (by decide) ?_
        refine lv_goto (tgt := 29) C.1 C.2.1 dX7_layOrders_25 (by decide) ?_
        exact TX7_layOrders_29 C hml hcs hR ih x1 x1 ((1 : Int64)) S (lv_sub hl [0, 1] rfl) h
theorem kM_X7_layOrders : s_M yX7_layOrders cX7_layOrders 3 none 0 := ⟨co_X7_layOrders, in_X7, by decide, by decide, by decide +kernel⟩
set_option maxHeartbeats 4000000 in
set_option maxRecDepth 100000 in
theorem c_X7_layOrders (l : Launch) (G : s_G)  (σ : Sg) (post : Sg → Prop) (h : wpX7_layOrders σ post) : Met l yX7_layOrders (wsU yX7_layOrders cX7_layOrders 3 none) rm_X7_layOrders (va_Pc [.ref (G.2.2 + 117)] (s_Pre G σ)) (va_Qv post (s_B G) (s_A G.2.2)) 0 0 (s_A G.2.2) := by
  refine Met.ofW (cc := cX7_layOrders) (maxL := 3) (ret := none) (by decide) rfl ?_
  intro p e s m args below meth c s₁ B hml hv
  obtain ⟨rfl, hP, hrok, hK, hN⟩ := hv
  have C : s_C G p s (([.ref (G.2.2 + 117)] : List Value).toArray) m c RX7 cX7_layOrders := ⟨B.exec, B.bytes, findClass_of_methodNamed B.named, fun w hw => atoms_spec (ws := wsU yX7_layOrders cX7_layOrders 3 none) B.pre w (List.mem_cons_of_mem _ hw), hK, hN⟩
  have hr := B.returns
  have hlocks := B.notSynchronized
  have S : s_St G σ s.heap s.heap [] := ⟨hP, va_S.rf, hrok⟩
  have hcs : 0 ≤ (rm_X7_layOrders).cells ∧ 0 ≤ (rm_X7_layOrders).slots := ⟨Nat.le_refl 0, Nat.le_refl 0⟩
  have hR : ∀ (σ1 : Sg) (H : Heap) (locs : List Loc) (pc : Nat) (ls : Array Slot), decode cX7_layOrders pc = .ok (.return_, 1) → post σ1 → s_St G σ1 s.heap H locs → W p l e rm_X7_layOrders s m ([.ref (G.2.2 + 117)] : List Value).toArray below meth c H locs 0 0 (MQ below (va_Qv post (s_B G) (s_A G.2.2)) ([.ref (G.2.2 + 117)] : List Value).toArray s 0 0 (s_A G.2.2)) (F0 m pc ls []) := fun _ _ _ _ _ hd hp S => ret_v C hr hlocks hd hp S
  have hl := lv_entry ([.ref (G.2.2 + 117)]) (n := 3) (Nat.le_of_ble_eq_true rfl)
  rw [lg_entry_eq]
  generalize (lg_sl ([.ref (G.2.2 + 117)]) ++ List.replicate (3 - (lg_sl ([.ref (G.2.2 + 117)])).length) Slot.unset).toArray = ls at hl ⊢
  have hl : lv_has ls 3 [(0, .ref (G.2.2 + 117))] := hl
  unfold wpX7_layOrders at h
  refine lv_sipush (v := (4095 : Int32)) C.1 C.2.1 dX7_layOrders_0 (by decide) ?_
  refine lv_istore_n (lv' := [(1, .int (4095 : Int32)), (0, .ref (G.2.2 + 117))]) C.1 C.2.1 dX7_layOrders_3 rfl hl (by decide) rfl (fun ls hl => ?_)
  obtain ⟨nf, h⟩ := h
  exact TX7_layOrders_4 C hml hcs hR nf ((4095 : Int32)) S (lv_sub hl [1, 0] rfl) h
/-! X7_valueAt -/
abbrev rm_X7_valueAt : Room := { frames := 2, cells := 0, slots := 0, locals := 44 }
def BX7_valueAt_51 (x1 : Int32) (x2 : Int32) (post : Int32 → Sg → Prop) : Nat → Int32 → Int32 → Int32 → Sg → Prop
  | 0, _, _, _, _ => False
  | n + 1, x3, x4, x5, σ => ((((x3 + (3 : Int32)) ≤ x5) → post x4 σ) ∧ ((¬ (x3 + (3 : Int32)) ≤ x5) → wpX7_isDigitAt x5 σ (fun r3 σ2 => (((r3 = 0) → post x4 σ2) ∧ ((¬ r3 = 0) → (vp_in x5 60 ∧ BX7_valueAt_51 x1 x2 post n x3 (((((10 : Int32) * x4) + (σ2.1 121 (x5).toNatClampNeg)) - (48 : Int32))) ((x5 + 1)) σ2))))))
def wpX7_valueAt (x1 : Int32) (x2 : Int32) (σ : Sg) (post : Int32 → Sg → Prop) : Prop := wpX7_wordLength x1 σ (fun r6 σ5 => (vp_in (((20 : Int32) + x1)) 50 ∧ (((¬ (σ5.1 118 (((20 : Int32) + x1)).toNatClampNeg) = 0) → (vp_in (((20 : Int32) + x1)) 50 ∧ (((¬ (σ5.1 118 (((20 : Int32) + x1)).toNatClampNeg) = (2 : Int32)) → ∃ nf, BX7_valueAt_51 x1 x2 post nf ((x2 + r6)) ((0 : Int32)) ((x2 + r6)) σ5) ∧ (((σ5.1 118 (((20 : Int32) + x1)).toNatClampNeg) = (2 : Int32)) → (vp_in ((x2 + r6)) 60 ∧ post (((σ5.1 121 ((x2 + r6)).toNatClampNeg) - (65 : Int32))) σ5))))) ∧ (((σ5.1 118 (((20 : Int32) + x1)).toNatClampNeg) = 0) → post ((1 : Int32)) σ5))))
set_option maxHeartbeats 4000000 in
set_option maxRecDepth 100000 in
theorem TX7_valueAt_51 (C : s_C G p s args m c RX7 cX7_valueAt) (hml : c.maxLocals = 6) (hcs : cells ≤ (rm_X7_valueAt).cells ∧ slots ≤ (rm_X7_valueAt).slots) {x1 : Int32} {x2 : Int32} {post : Int32 → Sg → Prop} (hR : ∀ (r : Int32) (σ1 : Sg) (H : Heap) (locs : List Loc) (pc : Nat) (ls : Array Slot), decode cX7_valueAt pc = .ok (.ireturn, 1) → post r σ1 → s_St G σ1 H0 H locs → W p l e rm_X7_valueAt s m args below meth c H locs cells slots Q (F0 m pc ls [.int r])) : ∀ (n : Nat) (x3 : Int32) (x4 : Int32) (x5 : Int32), ∀ {σ : Sg} {H : Heap} {locs : List Loc} {ls : Array Slot}, s_St G σ H0 H locs → lv_has ls 6 [(0, .ref (G.2.2 + 117)), (3, .int x3), (4, .int x4), (5, .int x5)] → BX7_valueAt_51 x1 x2 post n x3 x4 x5 σ → W p l e rm_X7_valueAt s m args below meth c H locs cells slots Q (F0 m 51 ls []) := by
  intro n
  induction n with
  | zero =>
    intro x3 x4 x5  σ H locs ls S hl h
    exact absurd h (fun h => h)
  | succ n ih0 =>
    have ih : ∀ (x3 : Int32) (x4 : Int32) (x5 : Int32), ∀ (σ : Sg) (H : Heap) (locs : List Loc) (ls : Array Slot), s_St G σ H0 H locs → lv_has ls 6 [(0, .ref (G.2.2 + 117)), (3, .int x3), (4, .int x4), (5, .int x5)] → BX7_valueAt_51 x1 x2 post n x3 x4 x5 σ → W p l e rm_X7_valueAt s m args below meth c H locs cells slots Q (F0 m 51 ls []) := fun x3 x4 x5  _ _ _ _ => ih0 x3 x4 x5 
    intro x3 x4 x5  σ H locs ls S hl h
    refine lv_iload C.1 C.2.1 dX7_valueAt_51 (lv_at hl 3 rfl) ?_
    refine lv_iload_n C.1 C.2.1 dX7_valueAt_53 rfl (lv_at hl 1 rfl) ?_
    refine lv_iconst (v := (3 : Int32)) C.1 C.2.1 dX7_valueAt_54 (by decide) ?_
    refine lv_iadd C.1 C.2.1 dX7_valueAt_55 ?_
    refine lv_icmp_ge (tgt := 92) C.1 C.2.1 dX7_valueAt_56 (by decide) (fun c1 => ?_) (fun c1 => ?_)
    · replace h := h.1 c1
      refine lv_iload C.1 C.2.1 dX7_valueAt_92 (lv_at hl 2 rfl) ?_
      exact hR _ _ _ _ _ _ dX7_valueAt_94 h S
    · replace h := h.2 c1
      refine lv_aload_n C.1 C.2.1 dX7_valueAt_59 rfl (lv_at hl 0 rfl) ?_
      refine lv_iload C.1 C.2.1 dX7_valueAt_60 (lv_at hl 3 rfl) ?_
      refine k_i (r_V (As := [.int x5]) (rest := []) C hml (c_X7_isDigitAt l G x5 σ _ h) kM_X7_isDigitAt im_X7_isDigitAt se_X7_isDigitAt ml_X7_134 ⟨rfl, rfl⟩ ⟨Nat.le_of_ble_eq_true rfl, Nat.le_of_ble_eq_true rfl⟩ hcs S kd_117 (by decide) (T := TX7) (N := 17) rfl rfl hl.1 rfl (Nat.le_of_ble_eq_true rfl) dX7_valueAt_62) S (fun r3 σ2 H locs h S => ?_)
      refine lv_if_eq (tgt := 92) C.1 C.2.1 dX7_valueAt_65 (by decide) (fun c4 => ?_) (fun c4 => ?_)
      · replace h := h.1 c4
        refine lv_iload C.1 C.2.1 dX7_valueAt_92 (lv_at hl 2 rfl) ?_
        exact hR _ _ _ _ _ _ dX7_valueAt_94 h S
      · replace h := h.2 c4
        refine lv_bipush (v := (10 : Int32)) C.1 C.2.1 dX7_valueAt_68 (by decide) ?_
        refine lv_iload C.1 C.2.1 dX7_valueAt_70 (lv_at hl 2 rfl) ?_
        refine lv_imul C.1 C.2.1 dX7_valueAt_72 ?_
        refine lv_aload_n C.1 C.2.1 dX7_valueAt_73 rfl (lv_at hl 0 rfl) ?_
        refine g_X7_5 C fl_X7_19 kd_117 S fn_117_5 dX7_valueAt_74 ?_
        refine lv_iload C.1 C.2.1 dX7_valueAt_77 (lv_at hl 3 rfl) ?_
        refine a_ild C kd_121 S ln_121 h.1 dX7_valueAt_79 ?_
        replace h := h.2
        refine lv_iadd C.1 C.2.1 dX7_valueAt_80 ?_
        refine lv_bipush (v := (48 : Int32)) C.1 C.2.1 dX7_valueAt_81 (by decide) ?_
        refine lv_isub C.1 C.2.1 dX7_valueAt_83 ?_
        refine lv_istore (lv' := [(4, .int ((((10 : Int32) * x4) + (σ2.1 121 (x5).toNatClampNeg)) - (48 : Int32))), (0, .ref (G.2.2 + 117)), (3, .int x3), (5, .int x5)]) C.1 C.2.1 dX7_valueAt_84 hl (by decide) rfl (fun ls hl => ?_)
        refine lv_iinc (v := (x5 + 1)) (lv' := [(5, .int (x5 + 1)), (4, .int ((((10 : Int32) * x4) + (σ2.1 121 (x5).toNatClampNeg)) - (48 : Int32))), (0, .ref (G.2.2 + 117)), (3, .int x3)]) C.1 C.2.1 dX7_valueAt_86 hl (k := 3) rfl rfl (by decide) rfl (fun ls hl => ?_)
        refine lv_goto (tgt := 51) C.1 C.2.1 dX7_valueAt_89 (by decide) ?_
        exact ih x3 (((((10 : Int32) * x4) + (σ2.1 121 (x5).toNatClampNeg)) - (48 : Int32))) ((x5 + 1)) _ _ _ _ S (lv_sub hl [2, 3, 1, 0] rfl) h
theorem kM_X7_valueAt : s_M yX7_valueAt cX7_valueAt 6 (some .int) 2 := ⟨co_X7_valueAt, in_X7, by decide, by decide, by decide +kernel⟩
set_option maxHeartbeats 4000000 in
set_option maxRecDepth 100000 in
theorem c_X7_valueAt (l : Launch) (G : s_G) (x1 : Int32) (x2 : Int32) (σ : Sg) (post : Int32 → Sg → Prop) (h : wpX7_valueAt x1 x2 σ post) : Met l yX7_valueAt (wsU yX7_valueAt cX7_valueAt 6 (some .int)) rm_X7_valueAt (va_Pc [.ref (G.2.2 + 117), .int x1, .int x2] (s_Pre G σ)) (va_Qi post (s_B G) (s_A G.2.2)) 0 0 (s_A G.2.2) := by
  refine Met.ofW (cc := cX7_valueAt) (maxL := 6) (ret := (some .int)) (by decide) rfl ?_
  intro p e s m args below meth c s₁ B hml hv
  obtain ⟨rfl, hP, hrok, hK, hN⟩ := hv
  have C : s_C G p s (([.ref (G.2.2 + 117), .int x1, .int x2] : List Value).toArray) m c RX7 cX7_valueAt := ⟨B.exec, B.bytes, findClass_of_methodNamed B.named, fun w hw => atoms_spec (ws := wsU yX7_valueAt cX7_valueAt 6 (some .int)) B.pre w (List.mem_cons_of_mem _ hw), hK, hN⟩
  have hr := B.returns
  have hlocks := B.notSynchronized
  have S : s_St G σ s.heap s.heap [] := ⟨hP, va_S.rf, hrok⟩
  have hcs : 0 ≤ (rm_X7_valueAt).cells ∧ 0 ≤ (rm_X7_valueAt).slots := ⟨Nat.le_refl 0, Nat.le_refl 0⟩
  have hR : ∀ (r : Int32) (σ1 : Sg) (H : Heap) (locs : List Loc) (pc : Nat) (ls : Array Slot), decode cX7_valueAt pc = .ok (.ireturn, 1) → post r σ1 → s_St G σ1 s.heap H locs → W p l e rm_X7_valueAt s m ([.ref (G.2.2 + 117), .int x1, .int x2] : List Value).toArray below meth c H locs 0 0 (MQ below (va_Qi post (s_B G) (s_A G.2.2)) ([.ref (G.2.2 + 117), .int x1, .int x2] : List Value).toArray s 0 0 (s_A G.2.2)) (F0 m pc ls [.int r]) := fun _ _ _ _ _ _ hd hp S => ret_i C hr hlocks hd hp S
  have hl := lv_entry ([.ref (G.2.2 + 117), .int x1, .int x2]) (n := 6) (Nat.le_of_ble_eq_true rfl)
  rw [lg_entry_eq]
  generalize (lg_sl ([.ref (G.2.2 + 117), .int x1, .int x2]) ++ List.replicate (6 - (lg_sl ([.ref (G.2.2 + 117), .int x1, .int x2])).length) Slot.unset).toArray = ls at hl ⊢
  have hl : lv_has ls 6 [(0, .ref (G.2.2 + 117)), (1, .int x1), (2, .int x2)] := hl
  unfold wpX7_valueAt at h
  refine lv_iload_n C.1 C.2.1 dX7_valueAt_0 rfl (lv_at hl 2 rfl) ?_
  refine lv_aload_n C.1 C.2.1 dX7_valueAt_1 rfl (lv_at hl 0 rfl) ?_
  refine lv_iload_n C.1 C.2.1 dX7_valueAt_2 rfl (lv_at hl 1 rfl) ?_
  refine k_i (r_V (As := [.int x1]) (rest := [.int x2]) C hml (c_X7_wordLength l G x1 σ _ h) kM_X7_wordLength im_X7_wordLength se_X7_wordLength ml_X7_71 ⟨rfl, rfl⟩ ⟨Nat.le_of_ble_eq_true rfl, Nat.le_of_ble_eq_true rfl⟩ hcs S kd_117 (by decide) (T := TX7) (N := 17) rfl rfl hl.1 rfl (Nat.le_of_ble_eq_true rfl) dX7_valueAt_3) S (fun r6 σ5 H locs h S => ?_)
  refine lv_iadd C.1 C.2.1 dX7_valueAt_6 ?_
  refine lv_istore_n (lv' := [(3, .int (x2 + r6)), (0, .ref (G.2.2 + 117)), (1, .int x1), (2, .int x2)]) C.1 C.2.1 dX7_valueAt_7 rfl hl (by decide) rfl (fun ls hl => ?_)
  refine lv_aload_n C.1 C.2.1 dX7_valueAt_8 rfl (lv_at hl 1 rfl) ?_
  refine g_X7_0 C fl_X7_7 kd_117 S fn_117_0 dX7_valueAt_9 ?_
  refine lv_bipush (v := (20 : Int32)) C.1 C.2.1 dX7_valueAt_12 (by decide) ?_
  refine lv_iload_n C.1 C.2.1 dX7_valueAt_14 rfl (lv_at hl 2 rfl) ?_
  refine lv_iadd C.1 C.2.1 dX7_valueAt_15 ?_
  refine a_ild C kd_118 S ln_118 h.1 dX7_valueAt_16 ?_
  replace h := h.2
  refine lv_if_ne (tgt := 22) C.1 C.2.1 dX7_valueAt_17 (by decide) (fun c7 => ?_) (fun c7 => ?_)
  · replace h := h.1 c7
    refine lv_aload_n C.1 C.2.1 dX7_valueAt_22 rfl (lv_at hl 1 rfl) ?_
    refine g_X7_0 C fl_X7_7 kd_117 S fn_117_0 dX7_valueAt_23 ?_
    refine lv_bipush (v := (20 : Int32)) C.1 C.2.1 dX7_valueAt_26 (by decide) ?_
    refine lv_iload_n C.1 C.2.1 dX7_valueAt_28 rfl (lv_at hl 2 rfl) ?_
    refine lv_iadd C.1 C.2.1 dX7_valueAt_29 ?_
    refine a_ild C kd_118 S ln_118 h.1 dX7_valueAt_30 ?_
    replace h := h.2
    refine lv_iconst (v := (2 : Int32)) C.1 C.2.1 dX7_valueAt_31 (by decide) ?_
    refine lv_icmp_ne (tgt := 45) C.1 C.2.1 dX7_valueAt_32 (by decide) (fun c8 => ?_) (fun c8 => ?_)
    · replace h := h.1 c8
      refine lv_iconst (v := (0 : Int32)) C.1 C.2.1 dX7_valueAt_45 (by decide) ?_
      refine lv_istore (lv' := [(4, .int (0 : Int32)), (3, .int (x2 + r6)), (0, .ref (G.2.2 + 117)), (1, .int x1), (2, .int x2)]) C.1 C.2.1 dX7_valueAt_46 hl (by decide) rfl (fun ls hl => ?_)
      refine lv_iload_n C.1 C.2.1 dX7_valueAt_48 rfl (lv_at hl 1 rfl) ?_
      refine lv_istore (lv' := [(5, .int (x2 + r6)), (4, .int (0 : Int32)), (3, .int (x2 + r6)), (0, .ref (G.2.2 + 117)), (1, .int x1), (2, .int x2)]) C.1 C.2.1 dX7_valueAt_49 hl (by decide) rfl (fun ls hl => ?_)
      obtain ⟨nf, h⟩ := h
      exact TX7_valueAt_51 C hml hcs hR nf ((x2 + r6)) ((0 : Int32)) ((x2 + r6)) S (lv_sub hl [3, 2, 1, 0] rfl) h
    · replace h := h.2 c8
      refine lv_aload_n C.1 C.2.1 dX7_valueAt_35 rfl (lv_at hl 1 rfl) ?_
      refine g_X7_5 C fl_X7_19 kd_117 S fn_117_5 dX7_valueAt_36 ?_
      refine lv_iload_n C.1 C.2.1 dX7_valueAt_39 rfl (lv_at hl 0 rfl) ?_
      refine a_ild C kd_121 S ln_121 h.1 dX7_valueAt_40 ?_
      replace h := h.2
      refine lv_bipush (v := (65 : Int32)) C.1 C.2.1 dX7_valueAt_41 (by decide) ?_
      refine lv_isub C.1 C.2.1 dX7_valueAt_43 ?_
      exact hR _ _ _ _ _ _ dX7_valueAt_44 h S
  · replace h := h.2 c7
    refine lv_iconst (v := (1 : Int32)) C.1 C.2.1 dX7_valueAt_20 (by decide) ?_
    exact hR _ _ _ _ _ _ dX7_valueAt_21 h S
/-! X7_layReading -/
abbrev rm_X7_layReading : Room := { frames := 6, cells := 0, slots := 0, locals := 139 }
def BX7_layReading_41  (K22 : Int32 → Int32 → Int32 → Sg → Prop) (post : Int32 → Sg → Prop) : Nat → Int32 → Int32 → Int32 → Int32 → Sg → Prop
  | 0, _, _, _, _, _ => False
  | n + 1, x2, x3, x4, x5, σ => wpX7_may x2 x5 σ (fun r2 σ1 => (((r2 = 0) → BX7_layReading_41 K22 post n x2 x3 x4 ((x5 + 1)) σ1) ∧ ((¬ r2 = 0) → wpX7_endOf x5 x4 σ1 (fun r5 σ4 => (((r5 = (-9 : Int32)) → BX7_layReading_41 K22 post n x2 x3 x4 ((x5 + 1)) σ4) ∧ ((¬ r5 = (-9 : Int32)) → wpX7_endOf x5 x4 σ4 (fun r8 σ7 => wpX7_with x2 x5 σ7 (fun r10 σ9 => (vp_in ((((4096 : Int32) * r8) + r10)) 249856 ∧ (((¬ (σ9.1 124 ((((4096 : Int32) * r8) + r10)).toNatClampNeg) = 0) → (vp_in x3 20 ∧ (∀ σ12 : Sg, σ12 = setI σ9 125 (x3).toNatClampNeg x5 → (vp_in x3 20 ∧ (∀ σ14 : Sg, σ14 = setI σ12 126 (x3).toNatClampNeg x4 → wpX7_valueAt x5 x4 σ14 (fun r17 σ16 => (vp_in x3 20 ∧ (∀ σ18 : Sg, σ18 = setI σ16 127 (x3).toNatClampNeg r17 → wpX7_endOf x5 x4 σ18 (fun r21 σ20 => wpX7_with x2 x5 σ20 (fun r23 σ22 => K22 r21 r23 ((x3 + 1)) σ22)))))))))) ∧ (((σ9.1 124 ((((4096 : Int32) * r8) + r10)).toNatClampNeg) = 0) → BX7_layReading_41 K22 post n x2 x3 x4 ((x5 + 1)) σ9)))))))))))
def BX7_layReading_22  (post : Int32 → Sg → Prop) : Nat → Int32 → Int32 → Int32 → Sg → Prop
  | 0, _, _, _, _ => False
  | n + 1, x1, x2, x3, σ => ((((σ.1 117 6) ≤ x1) → post x3 σ) ∧ ((¬ (σ.1 117 6) ≤ x1) → wpX7_startOf x1 x2 σ (fun r26 σ25 => ∃ nf, BX7_layReading_41 (BX7_layReading_22 post n) post nf x2 x3 r26 ((0 : Int32)) σ25)))
def wpX7_layReading  (σ : Sg) (post : Int32 → Sg → Prop) : Prop := wpX7_layWays σ (fun σ27 => (vp_in ((0 : Int32)) 249856 ∧ (((¬ (σ27.1 124 ((0 : Int32)).toNatClampNeg) = 0) → ∃ nf, BX7_layReading_22 post nf ((0 : Int32)) ((0 : Int32)) ((0 : Int32)) σ27) ∧ (((σ27.1 124 ((0 : Int32)).toNatClampNeg) = 0) → post ((-9 : Int32)) σ27))))
set_option maxHeartbeats 4000000 in
set_option maxRecDepth 100000 in
theorem TX7_layReading_41 (C : s_C G p s args m c RX7 cX7_layReading) (hml : c.maxLocals = 6) (hcs : cells ≤ (rm_X7_layReading).cells ∧ slots ≤ (rm_X7_layReading).slots)  {K22 : Int32 → Int32 → Int32 → Sg → Prop} {post : Int32 → Sg → Prop} (hR : ∀ (r : Int32) (σ1 : Sg) (H : Heap) (locs : List Loc) (pc : Nat) (ls : Array Slot), decode cX7_layReading pc = .ok (.ireturn, 1) → post r σ1 → s_St G σ1 H0 H locs → W p l e rm_X7_layReading s m args below meth c H locs cells slots Q (F0 m pc ls [.int r])) (hK22 : ∀ (x1 : Int32) (x2 : Int32) (x3 : Int32), ∀ (σ : Sg) (H : Heap) (locs : List Loc) (ls : Array Slot), s_St G σ H0 H locs → lv_has ls 6 [(0, .ref (G.2.2 + 117)), (1, .int x1), (2, .int x2), (3, .int x3)] → K22 x1 x2 x3 σ → W p l e rm_X7_layReading s m args below meth c H locs cells slots Q (F0 m 22 ls [])) : ∀ (n : Nat) (x2 : Int32) (x3 : Int32) (x4 : Int32) (x5 : Int32), ∀ {σ : Sg} {H : Heap} {locs : List Loc} {ls : Array Slot}, s_St G σ H0 H locs → lv_has ls 6 [(0, .ref (G.2.2 + 117)), (2, .int x2), (3, .int x3), (4, .int x4), (5, .int x5)] → BX7_layReading_41 K22 post n x2 x3 x4 x5 σ → W p l e rm_X7_layReading s m args below meth c H locs cells slots Q (F0 m 41 ls []) := by
  intro n
  induction n with
  | zero =>
    intro x2 x3 x4 x5  σ H locs ls S hl h
    exact absurd h (fun h => h)
  | succ n ih0 =>
    have ih : ∀ (x2 : Int32) (x3 : Int32) (x4 : Int32) (x5 : Int32), ∀ (σ : Sg) (H : Heap) (locs : List Loc) (ls : Array Slot), s_St G σ H0 H locs → lv_has ls 6 [(0, .ref (G.2.2 + 117)), (2, .int x2), (3, .int x3), (4, .int x4), (5, .int x5)] → BX7_layReading_41 K22 post n x2 x3 x4 x5 σ → W p l e rm_X7_layReading s m args below meth c H locs cells slots Q (F0 m 41 ls []) := fun x2 x3 x4 x5  _ _ _ _ => ih0 x2 x3 x4 x5 
    intro x2 x3 x4 x5  σ H locs ls S hl h
    refine lv_aload_n C.1 C.2.1 dX7_layReading_41 rfl (lv_at hl 0 rfl) ?_
    refine lv_iload_n C.1 C.2.1 dX7_layReading_42 rfl (lv_at hl 1 rfl) ?_
    refine lv_iload C.1 C.2.1 dX7_layReading_43 (lv_at hl 4 rfl) ?_
    refine k_i (r_V (As := [.int x2, .int x5]) (rest := []) C hml (c_X7_may l G x2 x5 σ _ h) kM_X7_may im_X7_may se_X7_may ml_X7_128 ⟨rfl, rfl⟩ ⟨Nat.le_of_ble_eq_true rfl, Nat.le_of_ble_eq_true rfl⟩ hcs S kd_117 (by decide) (T := TX7) (N := 17) rfl rfl hl.1 rfl (Nat.le_of_ble_eq_true rfl) dX7_layReading_45) S (fun r2 σ1 H locs h S => ?_)
    refine lv_if_eq (tgt := 91) C.1 C.2.1 dX7_layReading_48 (by decide) (fun c3 => ?_) (fun c3 => ?_)
    · replace h := h.1 c3
      refine lv_iinc (v := (x5 + 1)) (lv' := [(5, .int (x5 + 1)), (0, .ref (G.2.2 + 117)), (2, .int x2), (3, .int x3), (4, .int x4)]) C.1 C.2.1 dX7_layReading_91 hl (k := 4) rfl rfl (by decide) rfl (fun ls hl => ?_)
      refine lv_goto (tgt := 41) C.1 C.2.1 dX7_layReading_94 (by decide) ?_
      exact ih x2 x3 x4 ((x5 + 1)) _ _ _ _ S (lv_sub hl [1, 2, 3, 4, 0] rfl) h
    · replace h := h.2 c3
      refine lv_aload_n C.1 C.2.1 dX7_layReading_51 rfl (lv_at hl 0 rfl) ?_
      refine lv_iload C.1 C.2.1 dX7_layReading_52 (lv_at hl 4 rfl) ?_
      refine lv_iload C.1 C.2.1 dX7_layReading_54 (lv_at hl 3 rfl) ?_
      refine k_i (r_V (As := [.int x5, .int x4]) (rest := []) C hml (c_X7_endOf l G x5 x4 σ1 _ h) kM_X7_endOf im_X7_endOf se_X7_endOf ml_X7_140 ⟨rfl, rfl⟩ ⟨Nat.le_of_ble_eq_true rfl, Nat.le_of_ble_eq_true rfl⟩ hcs S kd_117 (by decide) (T := TX7) (N := 17) rfl rfl hl.1 rfl (Nat.le_of_ble_eq_true rfl) dX7_layReading_56) S (fun r5 σ4 H locs h S => ?_)
      refine lv_bipush (v := (-9 : Int32)) C.1 C.2.1 dX7_layReading_59 (by decide) ?_
      refine lv_icmp_eq (tgt := 91) C.1 C.2.1 dX7_layReading_61 (by decide) (fun c6 => ?_) (fun c6 => ?_)
      · replace h := h.1 c6
        refine lv_iinc (v := (x5 + 1)) (lv' := [(5, .int (x5 + 1)), (0, .ref (G.2.2 + 117)), (2, .int x2), (3, .int x3), (4, .int x4)]) C.1 C.2.1 dX7_layReading_91 hl (k := 4) rfl rfl (by decide) rfl (fun ls hl => ?_)
        refine lv_goto (tgt := 41) C.1 C.2.1 dX7_layReading_94 (by decide) ?_
        exact ih x2 x3 x4 ((x5 + 1)) _ _ _ _ S (lv_sub hl [1, 2, 3, 4, 0] rfl) h
      · replace h := h.2 c6
        refine lv_aload_n C.1 C.2.1 dX7_layReading_64 rfl (lv_at hl 0 rfl) ?_
        refine g_X7_9 C fl_X7_30 kd_117 S fn_117_9 dX7_layReading_65 ?_
        refine lv_sipush (v := (4096 : Int32)) C.1 C.2.1 dX7_layReading_68 (by decide) ?_
        refine lv_aload_n C.1 C.2.1 dX7_layReading_71 rfl (lv_at hl 0 rfl) ?_
        refine lv_iload C.1 C.2.1 dX7_layReading_72 (lv_at hl 4 rfl) ?_
        refine lv_iload C.1 C.2.1 dX7_layReading_74 (lv_at hl 3 rfl) ?_
        refine k_i (r_V (As := [.int x5, .int x4]) (rest := [.int (4096 : Int32), .ref (G.2.2 + 124)]) C hml (c_X7_endOf l G x5 x4 σ4 _ h) kM_X7_endOf im_X7_endOf se_X7_endOf ml_X7_140 ⟨rfl, rfl⟩ ⟨Nat.le_of_ble_eq_true rfl, Nat.le_of_ble_eq_true rfl⟩ hcs S kd_117 (by decide) (T := TX7) (N := 17) rfl rfl hl.1 rfl (Nat.le_of_ble_eq_true rfl) dX7_layReading_76) S (fun r8 σ7 H locs h S => ?_)
        refine lv_imul C.1 C.2.1 dX7_layReading_79 ?_
        refine lv_iload_n C.1 C.2.1 dX7_layReading_80 rfl (lv_at hl 1 rfl) ?_
        refine lv_iload C.1 C.2.1 dX7_layReading_81 (lv_at hl 4 rfl) ?_
        refine k_i (r_S (As := [.int x2, .int x5]) (rest := [.int ((4096 : Int32) * r8), .ref (G.2.2 + 124)]) C hml (c_X7_with l G x2 x5 σ7 _ h) kM_X7_with st_X7_with ml_X7_143 ⟨rfl, rfl⟩ ⟨Nat.le_of_ble_eq_true rfl, Nat.le_of_ble_eq_true rfl⟩ hcs S rfl hl.1 rfl (Nat.le_of_ble_eq_true rfl) dX7_layReading_83) S (fun r10 σ9 H locs h S => ?_)
        refine lv_iadd C.1 C.2.1 dX7_layReading_86 ?_
        refine a_ild C kd_124 S ln_124 h.1 dX7_layReading_87 ?_
        replace h := h.2
        refine lv_if_ne (tgt := 97) C.1 C.2.1 dX7_layReading_88 (by decide) (fun c11 => ?_) (fun c11 => ?_)
        · replace h := h.1 c11
          refine lv_aload_n C.1 C.2.1 dX7_layReading_97 rfl (lv_at hl 0 rfl) ?_
          refine g_X7_11 C fl_X7_33 kd_117 S fn_117_11 dX7_layReading_98 ?_
          refine lv_iload_n C.1 C.2.1 dX7_layReading_101 rfl (lv_at hl 2 rfl) ?_
          refine lv_iload C.1 C.2.1 dX7_layReading_102 (lv_at hl 4 rfl) ?_
          refine a_ist C kd_125 S ln_125 h.1 dX7_layReading_104 (fun σ12 H locs e13 S => ?_)
          replace h := h.2 σ12 e13
          refine lv_aload_n C.1 C.2.1 dX7_layReading_105 rfl (lv_at hl 0 rfl) ?_
          refine g_X7_12 C fl_X7_36 kd_117 S fn_117_12 dX7_layReading_106 ?_
          refine lv_iload_n C.1 C.2.1 dX7_layReading_109 rfl (lv_at hl 2 rfl) ?_
          refine lv_iload C.1 C.2.1 dX7_layReading_110 (lv_at hl 3 rfl) ?_
          refine a_ist C kd_126 S ln_126 h.1 dX7_layReading_112 (fun σ14 H locs e15 S => ?_)
          replace h := h.2 σ14 e15
          refine lv_aload_n C.1 C.2.1 dX7_layReading_113 rfl (lv_at hl 0 rfl) ?_
          refine g_X7_13 C fl_X7_39 kd_117 S fn_117_13 dX7_layReading_114 ?_
          refine lv_iload_n C.1 C.2.1 dX7_layReading_117 rfl (lv_at hl 2 rfl) ?_
          refine lv_aload_n C.1 C.2.1 dX7_layReading_118 rfl (lv_at hl 0 rfl) ?_
          refine lv_iload C.1 C.2.1 dX7_layReading_119 (lv_at hl 4 rfl) ?_
          refine lv_iload C.1 C.2.1 dX7_layReading_121 (lv_at hl 3 rfl) ?_
          refine k_i (r_V (As := [.int x5, .int x4]) (rest := [.int x3, .ref (G.2.2 + 127)]) C hml (c_X7_valueAt l G x5 x4 σ14 _ h) kM_X7_valueAt im_X7_valueAt se_X7_valueAt ml_X7_162 ⟨rfl, rfl⟩ ⟨Nat.le_of_ble_eq_true rfl, Nat.le_of_ble_eq_true rfl⟩ hcs S kd_117 (by decide) (T := TX7) (N := 17) rfl rfl hl.1 rfl (Nat.le_of_ble_eq_true rfl) dX7_layReading_123) S (fun r17 σ16 H locs h S => ?_)
          refine a_ist C kd_127 S ln_127 h.1 dX7_layReading_126 (fun σ18 H locs e19 S => ?_)
          replace h := h.2 σ18 e19
          refine lv_iinc (v := (x3 + 1)) (lv' := [(3, .int (x3 + 1)), (0, .ref (G.2.2 + 117)), (2, .int x2), (4, .int x4), (5, .int x5)]) C.1 C.2.1 dX7_layReading_127 hl (k := 2) rfl rfl (by decide) rfl (fun ls hl => ?_)
          refine lv_aload_n C.1 C.2.1 dX7_layReading_130 rfl (lv_at hl 1 rfl) ?_
          refine lv_iload C.1 C.2.1 dX7_layReading_131 (lv_at hl 4 rfl) ?_
          refine lv_iload C.1 C.2.1 dX7_layReading_133 (lv_at hl 3 rfl) ?_
          refine k_i (r_V (As := [.int x5, .int x4]) (rest := []) C hml (c_X7_endOf l G x5 x4 σ18 _ h) kM_X7_endOf im_X7_endOf se_X7_endOf ml_X7_140 ⟨rfl, rfl⟩ ⟨Nat.le_of_ble_eq_true rfl, Nat.le_of_ble_eq_true rfl⟩ hcs S kd_117 (by decide) (T := TX7) (N := 17) rfl rfl hl.1 rfl (Nat.le_of_ble_eq_true rfl) dX7_layReading_135) S (fun r21 σ20 H locs h S => ?_)
          refine lv_istore_n (lv' := [(1, .int r21), (3, .int (x3 + 1)), (0, .ref (G.2.2 + 117)), (2, .int x2), (4, .int x4), (5, .int x5)]) C.1 C.2.1 dX7_layReading_138 rfl hl (by decide) rfl (fun ls hl => ?_)
          refine lv_iload_n C.1 C.2.1 dX7_layReading_139 rfl (lv_at hl 3 rfl) ?_
          refine lv_iload C.1 C.2.1 dX7_layReading_140 (lv_at hl 5 rfl) ?_
          refine k_i (r_S (As := [.int x2, .int x5]) (rest := []) C hml (c_X7_with l G x2 x5 σ20 _ h) kM_X7_with st_X7_with ml_X7_143 ⟨rfl, rfl⟩ ⟨Nat.le_of_ble_eq_true rfl, Nat.le_of_ble_eq_true rfl⟩ hcs S rfl hl.1 rfl (Nat.le_of_ble_eq_true rfl) dX7_layReading_142) S (fun r23 σ22 H locs h S => ?_)
          refine lv_istore_n (lv' := [(2, .int r23), (1, .int r21), (3, .int (x3 + 1)), (0, .ref (G.2.2 + 117)), (4, .int x4), (5, .int x5)]) C.1 C.2.1 dX7_layReading_145 rfl hl (by decide) rfl (fun ls hl => ?_)
          refine lv_goto (tgt := 22) C.1 C.2.1 dX7_layReading_146 (by decide) ?_
          exact hK22 r21 r23 ((x3 + 1)) _ _ _ _ S (lv_sub hl [3, 1, 0, 2] rfl) h
        · replace h := h.2 c11
          refine lv_iinc (v := (x5 + 1)) (lv' := [(5, .int (x5 + 1)), (0, .ref (G.2.2 + 117)), (2, .int x2), (3, .int x3), (4, .int x4)]) C.1 C.2.1 dX7_layReading_91 hl (k := 4) rfl rfl (by decide) rfl (fun ls hl => ?_)
          refine lv_goto (tgt := 41) C.1 C.2.1 dX7_layReading_94 (by decide) ?_
          exact ih x2 x3 x4 ((x5 + 1)) _ _ _ _ S (lv_sub hl [1, 2, 3, 4, 0] rfl) h
set_option maxHeartbeats 4000000 in
set_option maxRecDepth 100000 in
theorem TX7_layReading_22 (C : s_C G p s args m c RX7 cX7_layReading) (hml : c.maxLocals = 6) (hcs : cells ≤ (rm_X7_layReading).cells ∧ slots ≤ (rm_X7_layReading).slots)  {post : Int32 → Sg → Prop} (hR : ∀ (r : Int32) (σ1 : Sg) (H : Heap) (locs : List Loc) (pc : Nat) (ls : Array Slot), decode cX7_layReading pc = .ok (.ireturn, 1) → post r σ1 → s_St G σ1 H0 H locs → W p l e rm_X7_layReading s m args below meth c H locs cells slots Q (F0 m pc ls [.int r])) : ∀ (n : Nat) (x1 : Int32) (x2 : Int32) (x3 : Int32), ∀ {σ : Sg} {H : Heap} {locs : List Loc} {ls : Array Slot}, s_St G σ H0 H locs → lv_has ls 6 [(0, .ref (G.2.2 + 117)), (1, .int x1), (2, .int x2), (3, .int x3)] → BX7_layReading_22 post n x1 x2 x3 σ → W p l e rm_X7_layReading s m args below meth c H locs cells slots Q (F0 m 22 ls []) := by
  intro n
  induction n with
  | zero =>
    intro x1 x2 x3  σ H locs ls S hl h
    exact absurd h (fun h => h)
  | succ n ih0 =>
    have ih : ∀ (x1 : Int32) (x2 : Int32) (x3 : Int32), ∀ (σ : Sg) (H : Heap) (locs : List Loc) (ls : Array Slot), s_St G σ H0 H locs → lv_has ls 6 [(0, .ref (G.2.2 + 117)), (1, .int x1), (2, .int x2), (3, .int x3)] → BX7_layReading_22 post n x1 x2 x3 σ → W p l e rm_X7_layReading s m args below meth c H locs cells slots Q (F0 m 22 ls []) := fun x1 x2 x3  _ _ _ _ => ih0 x1 x2 x3 
    intro x1 x2 x3  σ H locs ls S hl h
    refine lv_iload_n C.1 C.2.1 dX7_layReading_22 rfl (lv_at hl 1 rfl) ?_
    refine lv_aload_n C.1 C.2.1 dX7_layReading_23 rfl (lv_at hl 0 rfl) ?_
    refine g_X7_6 C fl_X7_64 kd_117 S dX7_layReading_24 ?_
    refine lv_icmp_ge (tgt := 149) C.1 C.2.1 dX7_layReading_27 (by decide) (fun c24 => ?_) (fun c24 => ?_)
    · replace h := h.1 c24
      refine lv_iload_n C.1 C.2.1 dX7_layReading_149 rfl (lv_at hl 3 rfl) ?_
      exact hR _ _ _ _ _ _ dX7_layReading_150 h S
    · replace h := h.2 c24
      refine lv_aload_n C.1 C.2.1 dX7_layReading_30 rfl (lv_at hl 0 rfl) ?_
      refine lv_iload_n C.1 C.2.1 dX7_layReading_31 rfl (lv_at hl 1 rfl) ?_
      refine lv_iload_n C.1 C.2.1 dX7_layReading_32 rfl (lv_at hl 2 rfl) ?_
      refine k_i (r_V (As := [.int x1, .int x2]) (rest := []) C hml (c_X7_startOf l G x1 x2 σ _ h) kM_X7_startOf im_X7_startOf se_X7_startOf ml_X7_137 ⟨rfl, rfl⟩ ⟨Nat.le_of_ble_eq_true rfl, Nat.le_of_ble_eq_true rfl⟩ hcs S kd_117 (by decide) (T := TX7) (N := 17) rfl rfl hl.1 rfl (Nat.le_of_ble_eq_true rfl) dX7_layReading_33) S (fun r26 σ25 H locs h S => ?_)
      refine lv_istore (lv' := [(4, .int r26), (0, .ref (G.2.2 + 117)), (1, .int x1), (2, .int x2), (3, .int x3)]) C.1 C.2.1 dX7_layReading_36 hl (by decide) rfl (fun ls hl => ?_)
      refine lv_iconst (v := (0 : Int32)) C.1 C.2.1 dX7_layReading_38 (by decide) ?_
      refine lv_istore (lv' := [(5, .int (0 : Int32)), (4, .int r26), (0, .ref (G.2.2 + 117)), (1, .int x1), (2, .int x2), (3, .int x3)]) C.1 C.2.1 dX7_layReading_39 hl (by decide) rfl (fun ls hl => ?_)
      obtain ⟨nf, h⟩ := h
      exact TX7_layReading_41 C hml hcs hR ih nf x2 x3 r26 ((0 : Int32)) S (lv_sub hl [2, 4, 5, 1, 0] rfl) h
theorem kM_X7_layReading : s_M yX7_layReading cX7_layReading 6 (some .int) 0 := ⟨co_X7_layReading, in_X7, by decide, by decide, by decide +kernel⟩
set_option maxHeartbeats 4000000 in
set_option maxRecDepth 100000 in
theorem c_X7_layReading (l : Launch) (G : s_G)  (σ : Sg) (post : Int32 → Sg → Prop) (h : wpX7_layReading σ post) : Met l yX7_layReading (wsU yX7_layReading cX7_layReading 6 (some .int)) rm_X7_layReading (va_Pc [.ref (G.2.2 + 117)] (s_Pre G σ)) (va_Qi post (s_B G) (s_A G.2.2)) 0 0 (s_A G.2.2) := by
  refine Met.ofW (cc := cX7_layReading) (maxL := 6) (ret := (some .int)) (by decide) rfl ?_
  intro p e s m args below meth c s₁ B hml hv
  obtain ⟨rfl, hP, hrok, hK, hN⟩ := hv
  have C : s_C G p s (([.ref (G.2.2 + 117)] : List Value).toArray) m c RX7 cX7_layReading := ⟨B.exec, B.bytes, findClass_of_methodNamed B.named, fun w hw => atoms_spec (ws := wsU yX7_layReading cX7_layReading 6 (some .int)) B.pre w (List.mem_cons_of_mem _ hw), hK, hN⟩
  have hr := B.returns
  have hlocks := B.notSynchronized
  have S : s_St G σ s.heap s.heap [] := ⟨hP, va_S.rf, hrok⟩
  have hcs : 0 ≤ (rm_X7_layReading).cells ∧ 0 ≤ (rm_X7_layReading).slots := ⟨Nat.le_refl 0, Nat.le_refl 0⟩
  have hR : ∀ (r : Int32) (σ1 : Sg) (H : Heap) (locs : List Loc) (pc : Nat) (ls : Array Slot), decode cX7_layReading pc = .ok (.ireturn, 1) → post r σ1 → s_St G σ1 s.heap H locs → W p l e rm_X7_layReading s m ([.ref (G.2.2 + 117)] : List Value).toArray below meth c H locs 0 0 (MQ below (va_Qi post (s_B G) (s_A G.2.2)) ([.ref (G.2.2 + 117)] : List Value).toArray s 0 0 (s_A G.2.2)) (F0 m pc ls [.int r]) := fun _ _ _ _ _ _ hd hp S => ret_i C hr hlocks hd hp S
  have hl := lv_entry ([.ref (G.2.2 + 117)]) (n := 6) (Nat.le_of_ble_eq_true rfl)
  rw [lg_entry_eq]
  generalize (lg_sl ([.ref (G.2.2 + 117)]) ++ List.replicate (6 - (lg_sl ([.ref (G.2.2 + 117)])).length) Slot.unset).toArray = ls at hl ⊢
  have hl : lv_has ls 6 [(0, .ref (G.2.2 + 117))] := hl
  unfold wpX7_layReading at h
  refine lv_aload_n C.1 C.2.1 dX7_layReading_0 rfl (lv_at hl 0 rfl) ?_
  refine k_v (r_V (As := []) (rest := []) C hml (c_X7_layWays l G σ _ h) kM_X7_layWays im_X7_layWays se_X7_layWays ml_X7_156 ⟨rfl, rfl⟩ ⟨Nat.le_of_ble_eq_true rfl, Nat.le_of_ble_eq_true rfl⟩ hcs S kd_117 (by decide) (T := TX7) (N := 17) rfl rfl hl.1 rfl (Nat.le_of_ble_eq_true rfl) dX7_layReading_1) S (fun σ27 H locs h S => ?_)
  refine lv_aload_n C.1 C.2.1 dX7_layReading_4 rfl (lv_at hl 0 rfl) ?_
  refine g_X7_9 C fl_X7_30 kd_117 S fn_117_9 dX7_layReading_5 ?_
  refine lv_iconst (v := (0 : Int32)) C.1 C.2.1 dX7_layReading_8 (by decide) ?_
  refine a_ild C kd_124 S ln_124 h.1 dX7_layReading_9 ?_
  replace h := h.2
  refine lv_if_ne (tgt := 16) C.1 C.2.1 dX7_layReading_10 (by decide) (fun c28 => ?_) (fun c28 => ?_)
  · replace h := h.1 c28
    refine lv_iconst (v := (0 : Int32)) C.1 C.2.1 dX7_layReading_16 (by decide) ?_
    refine lv_istore_n (lv' := [(1, .int (0 : Int32)), (0, .ref (G.2.2 + 117))]) C.1 C.2.1 dX7_layReading_17 rfl hl (by decide) rfl (fun ls hl => ?_)
    refine lv_iconst (v := (0 : Int32)) C.1 C.2.1 dX7_layReading_18 (by decide) ?_
    refine lv_istore_n (lv' := [(2, .int (0 : Int32)), (1, .int (0 : Int32)), (0, .ref (G.2.2 + 117))]) C.1 C.2.1 dX7_layReading_19 rfl hl (by decide) rfl (fun ls hl => ?_)
    refine lv_iconst (v := (0 : Int32)) C.1 C.2.1 dX7_layReading_20 (by decide) ?_
    refine lv_istore_n (lv' := [(3, .int (0 : Int32)), (2, .int (0 : Int32)), (1, .int (0 : Int32)), (0, .ref (G.2.2 + 117))]) C.1 C.2.1 dX7_layReading_21 rfl hl (by decide) rfl (fun ls hl => ?_)
    obtain ⟨nf, h⟩ := h
    exact TX7_layReading_22 C hml hcs hR nf ((0 : Int32)) ((0 : Int32)) ((0 : Int32)) S (lv_sub hl [3, 2, 1, 0] rfl) h
  · replace h := h.2 c28
    refine lv_bipush (v := (-9 : Int32)) C.1 C.2.1 dX7_layReading_13 (by decide) ?_
    exact hR _ _ _ _ _ _ dX7_layReading_15 h S
/-! X7_mayFollow -/
abbrev rm_X7_mayFollow : Room := { frames := 2, cells := 0, slots := 0, locals := 44 }
def BX7_mayFollow_4 (x1 : Int32) (post : Int32 → Sg → Prop) : Nat → Int32 → Int32 → Sg → Prop
  | 0, _, _, _ => False
  | n + 1, x2, x3, σ => (vp_in ((0 : Int32)) 50 ∧ ((((σ.1 118 ((0 : Int32)).toNatClampNeg) ≤ x3) → post x2 σ) ∧ ((¬ (σ.1 118 ((0 : Int32)).toNatClampNeg) ≤ x3) → wpX7_may x1 x3 σ (fun r3 σ2 => (((r3 = 0) → BX7_mayFollow_4 x1 post n ((x2 ||| (0 : Int32))) ((x3 + 1)) σ2) ∧ ((¬ r3 = 0) → BX7_mayFollow_4 x1 post n ((x2 ||| ((1 : Int32) <<< (x3 &&& 31)))) ((x3 + 1)) σ2))))))
def wpX7_mayFollow (x1 : Int32) (σ : Sg) (post : Int32 → Sg → Prop) : Prop := ∃ nf, BX7_mayFollow_4 x1 post nf ((0 : Int32)) ((0 : Int32)) σ
set_option maxHeartbeats 4000000 in
set_option maxRecDepth 100000 in
theorem TX7_mayFollow_4 (C : s_C G p s args m c RX7 cX7_mayFollow) (hml : c.maxLocals = 4) (hcs : cells ≤ (rm_X7_mayFollow).cells ∧ slots ≤ (rm_X7_mayFollow).slots) {x1 : Int32} {post : Int32 → Sg → Prop} (hR : ∀ (r : Int32) (σ1 : Sg) (H : Heap) (locs : List Loc) (pc : Nat) (ls : Array Slot), decode cX7_mayFollow pc = .ok (.ireturn, 1) → post r σ1 → s_St G σ1 H0 H locs → W p l e rm_X7_mayFollow s m args below meth c H locs cells slots Q (F0 m pc ls [.int r])) : ∀ (n : Nat) (x2 : Int32) (x3 : Int32), ∀ {σ : Sg} {H : Heap} {locs : List Loc} {ls : Array Slot}, s_St G σ H0 H locs → lv_has ls 4 [(0, .ref (G.2.2 + 117)), (1, .int x1), (2, .int x2), (3, .int x3)] → BX7_mayFollow_4 x1 post n x2 x3 σ → W p l e rm_X7_mayFollow s m args below meth c H locs cells slots Q (F0 m 4 ls []) := by
  intro n
  induction n with
  | zero =>
    intro x2 x3  σ H locs ls S hl h
    exact absurd h (fun h => h)
  | succ n ih0 =>
    have ih : ∀ (x2 : Int32) (x3 : Int32), ∀ (σ : Sg) (H : Heap) (locs : List Loc) (ls : Array Slot), s_St G σ H0 H locs → lv_has ls 4 [(0, .ref (G.2.2 + 117)), (1, .int x1), (2, .int x2), (3, .int x3)] → BX7_mayFollow_4 x1 post n x2 x3 σ → W p l e rm_X7_mayFollow s m args below meth c H locs cells slots Q (F0 m 4 ls []) := fun x2 x3  _ _ _ _ => ih0 x2 x3 
    intro x2 x3  σ H locs ls S hl h
    refine lv_iload_n C.1 C.2.1 dX7_mayFollow_4 rfl (lv_at hl 3 rfl) ?_
    refine lv_aload_n C.1 C.2.1 dX7_mayFollow_5 rfl (lv_at hl 0 rfl) ?_
    refine g_X7_0 C fl_X7_7 kd_117 S fn_117_0 dX7_mayFollow_6 ?_
    refine lv_iconst (v := (0 : Int32)) C.1 C.2.1 dX7_mayFollow_9 (by decide) ?_
    refine a_ild C kd_118 S ln_118 h.1 dX7_mayFollow_10 ?_
    replace h := h.2
    refine lv_icmp_ge (tgt := 39) C.1 C.2.1 dX7_mayFollow_11 (by decide) (fun c1 => ?_) (fun c1 => ?_)
    · replace h := h.1 c1
      refine lv_iload_n C.1 C.2.1 dX7_mayFollow_39 rfl (lv_at hl 2 rfl) ?_
      exact hR _ _ _ _ _ _ dX7_mayFollow_40 h S
    · replace h := h.2 c1
      refine lv_iload_n C.1 C.2.1 dX7_mayFollow_14 rfl (lv_at hl 2 rfl) ?_
      refine lv_aload_n C.1 C.2.1 dX7_mayFollow_15 rfl (lv_at hl 0 rfl) ?_
      refine lv_iload_n C.1 C.2.1 dX7_mayFollow_16 rfl (lv_at hl 1 rfl) ?_
      refine lv_iload_n C.1 C.2.1 dX7_mayFollow_17 rfl (lv_at hl 3 rfl) ?_
      refine k_i (r_V (As := [.int x1, .int x3]) (rest := [.int x2]) C hml (c_X7_may l G x1 x3 σ _ h) kM_X7_may im_X7_may se_X7_may ml_X7_128 ⟨rfl, rfl⟩ ⟨Nat.le_of_ble_eq_true rfl, Nat.le_of_ble_eq_true rfl⟩ hcs S kd_117 (by decide) (T := TX7) (N := 17) rfl rfl hl.1 rfl (Nat.le_of_ble_eq_true rfl) dX7_mayFollow_18) S (fun r3 σ2 H locs h S => ?_)
      refine lv_if_eq (tgt := 30) C.1 C.2.1 dX7_mayFollow_21 (by decide) (fun c4 => ?_) (fun c4 => ?_)
      · replace h := h.1 c4
        refine lv_iconst (v := (0 : Int32)) C.1 C.2.1 dX7_mayFollow_30 (by decide) ?_
        refine lv_ior C.1 C.2.1 dX7_mayFollow_31 ?_
        refine lv_istore_n (lv' := [(2, .int (x2 ||| (0 : Int32))), (0, .ref (G.2.2 + 117)), (1, .int x1), (3, .int x3)]) C.1 C.2.1 dX7_mayFollow_32 rfl hl (by decide) rfl (fun ls hl => ?_)
        refine lv_iinc (v := (x3 + 1)) (lv' := [(3, .int (x3 + 1)), (2, .int (x2 ||| (0 : Int32))), (0, .ref (G.2.2 + 117)), (1, .int x1)]) C.1 C.2.1 dX7_mayFollow_33 hl (k := 3) rfl rfl (by decide) rfl (fun ls hl => ?_)
        refine lv_goto (tgt := 4) C.1 C.2.1 dX7_mayFollow_36 (by decide) ?_
        exact ih ((x2 ||| (0 : Int32))) ((x3 + 1)) _ _ _ _ S (lv_sub hl [2, 3, 1, 0] rfl) h
      · replace h := h.2 c4
        refine lv_iconst (v := (1 : Int32)) C.1 C.2.1 dX7_mayFollow_24 (by decide) ?_
        refine lv_iload_n C.1 C.2.1 dX7_mayFollow_25 rfl (lv_at hl 3 rfl) ?_
        refine lv_ishl C.1 C.2.1 dX7_mayFollow_26 ?_
        refine lv_goto (tgt := 31) C.1 C.2.1 dX7_mayFollow_27 (by decide) ?_
        refine lv_ior C.1 C.2.1 dX7_mayFollow_31 ?_
        refine lv_istore_n (lv' := [(2, .int (x2 ||| ((1 : Int32) <<< (x3 &&& 31)))), (0, .ref (G.2.2 + 117)), (1, .int x1), (3, .int x3)]) C.1 C.2.1 dX7_mayFollow_32 rfl hl (by decide) rfl (fun ls hl => ?_)
        refine lv_iinc (v := (x3 + 1)) (lv' := [(3, .int (x3 + 1)), (2, .int (x2 ||| ((1 : Int32) <<< (x3 &&& 31)))), (0, .ref (G.2.2 + 117)), (1, .int x1)]) C.1 C.2.1 dX7_mayFollow_33 hl (k := 3) rfl rfl (by decide) rfl (fun ls hl => ?_)
        refine lv_goto (tgt := 4) C.1 C.2.1 dX7_mayFollow_36 (by decide) ?_
        exact ih ((x2 ||| ((1 : Int32) <<< (x3 &&& 31)))) ((x3 + 1)) _ _ _ _ S (lv_sub hl [2, 3, 1, 0] rfl) h
theorem kM_X7_mayFollow : s_M yX7_mayFollow cX7_mayFollow 4 (some .int) 1 := ⟨co_X7_mayFollow, in_X7, by decide, by decide, by decide +kernel⟩
set_option maxHeartbeats 4000000 in
set_option maxRecDepth 100000 in
theorem c_X7_mayFollow (l : Launch) (G : s_G) (x1 : Int32) (σ : Sg) (post : Int32 → Sg → Prop) (h : wpX7_mayFollow x1 σ post) : Met l yX7_mayFollow (wsU yX7_mayFollow cX7_mayFollow 4 (some .int)) rm_X7_mayFollow (va_Pc [.ref (G.2.2 + 117), .int x1] (s_Pre G σ)) (va_Qi post (s_B G) (s_A G.2.2)) 0 0 (s_A G.2.2) := by
  refine Met.ofW (cc := cX7_mayFollow) (maxL := 4) (ret := (some .int)) (by decide) rfl ?_
  intro p e s m args below meth c s₁ B hml hv
  obtain ⟨rfl, hP, hrok, hK, hN⟩ := hv
  have C : s_C G p s (([.ref (G.2.2 + 117), .int x1] : List Value).toArray) m c RX7 cX7_mayFollow := ⟨B.exec, B.bytes, findClass_of_methodNamed B.named, fun w hw => atoms_spec (ws := wsU yX7_mayFollow cX7_mayFollow 4 (some .int)) B.pre w (List.mem_cons_of_mem _ hw), hK, hN⟩
  have hr := B.returns
  have hlocks := B.notSynchronized
  have S : s_St G σ s.heap s.heap [] := ⟨hP, va_S.rf, hrok⟩
  have hcs : 0 ≤ (rm_X7_mayFollow).cells ∧ 0 ≤ (rm_X7_mayFollow).slots := ⟨Nat.le_refl 0, Nat.le_refl 0⟩
  have hR : ∀ (r : Int32) (σ1 : Sg) (H : Heap) (locs : List Loc) (pc : Nat) (ls : Array Slot), decode cX7_mayFollow pc = .ok (.ireturn, 1) → post r σ1 → s_St G σ1 s.heap H locs → W p l e rm_X7_mayFollow s m ([.ref (G.2.2 + 117), .int x1] : List Value).toArray below meth c H locs 0 0 (MQ below (va_Qi post (s_B G) (s_A G.2.2)) ([.ref (G.2.2 + 117), .int x1] : List Value).toArray s 0 0 (s_A G.2.2)) (F0 m pc ls [.int r]) := fun _ _ _ _ _ _ hd hp S => ret_i C hr hlocks hd hp S
  have hl := lv_entry ([.ref (G.2.2 + 117), .int x1]) (n := 4) (Nat.le_of_ble_eq_true rfl)
  rw [lg_entry_eq]
  generalize (lg_sl ([.ref (G.2.2 + 117), .int x1]) ++ List.replicate (4 - (lg_sl ([.ref (G.2.2 + 117), .int x1])).length) Slot.unset).toArray = ls at hl ⊢
  have hl : lv_has ls 4 [(0, .ref (G.2.2 + 117)), (1, .int x1)] := hl
  unfold wpX7_mayFollow at h
  refine lv_iconst (v := (0 : Int32)) C.1 C.2.1 dX7_mayFollow_0 (by decide) ?_
  refine lv_istore_n (lv' := [(2, .int (0 : Int32)), (0, .ref (G.2.2 + 117)), (1, .int x1)]) C.1 C.2.1 dX7_mayFollow_1 rfl hl (by decide) rfl (fun ls hl => ?_)
  refine lv_iconst (v := (0 : Int32)) C.1 C.2.1 dX7_mayFollow_2 (by decide) ?_
  refine lv_istore_n (lv' := [(3, .int (0 : Int32)), (2, .int (0 : Int32)), (0, .ref (G.2.2 + 117)), (1, .int x1)]) C.1 C.2.1 dX7_mayFollow_3 rfl hl (by decide) rfl (fun ls hl => ?_)
  obtain ⟨nf, h⟩ := h
  exact TX7_mayFollow_4 C hml hcs hR nf ((0 : Int32)) ((0 : Int32)) S (lv_sub hl [2, 3, 1, 0] rfl) h
/-! X7_member -/
abbrev rm_X7_member : Room := { frames := 4, cells := 0, slots := 0, locals := 91 }
def wpX7_member (x1 : Int32) (x2 : Int32) (σ : Sg) (post : Int32 → Sg → Prop) : Prop := wpX7_isMember x1 σ (fun r2 σ1 => (((r2 = 0) → post ((-1 : Int32)) σ1) ∧ ((¬ r2 = 0) → wpX7_isIn x2 ((0 : Int32)) ((9 : Int32)) σ1 (fun r5 σ4 => (((¬ r5 = 0) → ((((4 : Int32) ≤ x2) → (((¬ x2 = (4 : Int32)) → ((((8 : Int32) ≤ x2) → (((¬ x2 = (8 : Int32)) → wpX7_clashing x1 σ4 (fun r12 σ11 => post r12 σ11)) ∧ ((x2 = (8 : Int32)) → (vp_in (((44 : Int32) + x1)) 50 ∧ post ((σ4.1 118 (((44 : Int32) + x1)).toNatClampNeg)) σ4)))) ∧ ((¬ (8 : Int32) ≤ x2) → wpX7_letter x1 ((x2 - (5 : Int32))) σ4 (fun r14 σ13 => (((¬ r14 = 0) → wpX7_letter x1 ((x2 - (5 : Int32))) σ13 (fun r17 σ16 => post r17 σ16)) ∧ ((r14 = 0) → post ((-9 : Int32)) σ13)))))) ∧ ((x2 = (4 : Int32)) → wpX7_wordLength x1 σ4 (fun r19 σ18 => post r19 σ18)))) ∧ ((¬ (4 : Int32) ≤ x2) → (vp_in ((((20 : Int32) + ((6 : Int32) * x2)) + x1)) 50 ∧ post ((σ4.1 118 ((((20 : Int32) + ((6 : Int32) * x2)) + x1)).toNatClampNeg)) σ4)))) ∧ ((r5 = 0) → post ((-1 : Int32)) σ4))))))
theorem kM_X7_member : s_M yX7_member cX7_member 3 (some .int) 2 := ⟨co_X7_member, in_X7, by decide, by decide, by decide +kernel⟩
set_option maxHeartbeats 4000000 in
set_option maxRecDepth 100000 in
theorem c_X7_member (l : Launch) (G : s_G) (x1 : Int32) (x2 : Int32) (σ : Sg) (post : Int32 → Sg → Prop) (h : wpX7_member x1 x2 σ post) : Met l yX7_member (wsU yX7_member cX7_member 3 (some .int)) rm_X7_member (va_Pc [.ref (G.2.2 + 117), .int x1, .int x2] (s_Pre G σ)) (va_Qi post (s_B G) (s_A G.2.2)) 0 0 (s_A G.2.2) := by
  refine Met.ofW (cc := cX7_member) (maxL := 3) (ret := (some .int)) (by decide) rfl ?_
  intro p e s m args below meth c s₁ B hml hv
  obtain ⟨rfl, hP, hrok, hK, hN⟩ := hv
  have C : s_C G p s (([.ref (G.2.2 + 117), .int x1, .int x2] : List Value).toArray) m c RX7 cX7_member := ⟨B.exec, B.bytes, findClass_of_methodNamed B.named, fun w hw => atoms_spec (ws := wsU yX7_member cX7_member 3 (some .int)) B.pre w (List.mem_cons_of_mem _ hw), hK, hN⟩
  have hr := B.returns
  have hlocks := B.notSynchronized
  have S : s_St G σ s.heap s.heap [] := ⟨hP, va_S.rf, hrok⟩
  have hcs : 0 ≤ (rm_X7_member).cells ∧ 0 ≤ (rm_X7_member).slots := ⟨Nat.le_refl 0, Nat.le_refl 0⟩
  have hR : ∀ (r : Int32) (σ1 : Sg) (H : Heap) (locs : List Loc) (pc : Nat) (ls : Array Slot), decode cX7_member pc = .ok (.ireturn, 1) → post r σ1 → s_St G σ1 s.heap H locs → W p l e rm_X7_member s m ([.ref (G.2.2 + 117), .int x1, .int x2] : List Value).toArray below meth c H locs 0 0 (MQ below (va_Qi post (s_B G) (s_A G.2.2)) ([.ref (G.2.2 + 117), .int x1, .int x2] : List Value).toArray s 0 0 (s_A G.2.2)) (F0 m pc ls [.int r]) := fun _ _ _ _ _ _ hd hp S => ret_i C hr hlocks hd hp S
  have hl := lv_entry ([.ref (G.2.2 + 117), .int x1, .int x2]) (n := 3) (Nat.le_of_ble_eq_true rfl)
  rw [lg_entry_eq]
  generalize (lg_sl ([.ref (G.2.2 + 117), .int x1, .int x2]) ++ List.replicate (3 - (lg_sl ([.ref (G.2.2 + 117), .int x1, .int x2])).length) Slot.unset).toArray = ls at hl ⊢
  have hl : lv_has ls 3 [(0, .ref (G.2.2 + 117)), (1, .int x1), (2, .int x2)] := hl
  unfold wpX7_member at h
  refine lv_aload_n C.1 C.2.1 dX7_member_0 rfl (lv_at hl 0 rfl) ?_
  refine lv_iload_n C.1 C.2.1 dX7_member_1 rfl (lv_at hl 1 rfl) ?_
  refine k_i (r_V (As := [.int x1]) (rest := []) C hml (c_X7_isMember l G x1 σ _ h) kM_X7_isMember im_X7_isMember se_X7_isMember ml_X7_99 ⟨rfl, rfl⟩ ⟨Nat.le_of_ble_eq_true rfl, Nat.le_of_ble_eq_true rfl⟩ hcs S kd_117 (by decide) (T := TX7) (N := 17) rfl rfl hl.1 rfl (Nat.le_of_ble_eq_true rfl) dX7_member_2) S (fun r2 σ1 H locs h S => ?_)
  refine lv_if_eq (tgt := 18) C.1 C.2.1 dX7_member_5 (by decide) (fun c3 => ?_) (fun c3 => ?_)
  · replace h := h.1 c3
    refine lv_iconst (v := (-1 : Int32)) C.1 C.2.1 dX7_member_18 (by decide) ?_
    exact hR _ _ _ _ _ _ dX7_member_19 h S
  · replace h := h.2 c3
    refine lv_iload_n C.1 C.2.1 dX7_member_8 rfl (lv_at hl 2 rfl) ?_
    refine lv_iconst (v := (0 : Int32)) C.1 C.2.1 dX7_member_9 (by decide) ?_
    refine lv_bipush (v := (9 : Int32)) C.1 C.2.1 dX7_member_10 (by decide) ?_
    refine k_i (r_S (As := [.int x2, .int (0 : Int32), .int (9 : Int32)]) (rest := []) C hml (c_X7_isIn l G x2 ((0 : Int32)) ((9 : Int32)) σ1 _ h) kM_X7_isIn st_X7_isIn ml_X7_60 ⟨rfl, rfl⟩ ⟨Nat.le_of_ble_eq_true rfl, Nat.le_of_ble_eq_true rfl⟩ hcs S rfl hl.1 rfl (Nat.le_of_ble_eq_true rfl) dX7_member_12) S (fun r5 σ4 H locs h S => ?_)
    refine lv_if_ne (tgt := 20) C.1 C.2.1 dX7_member_15 (by decide) (fun c6 => ?_) (fun c6 => ?_)
    · replace h := h.1 c6
      refine lv_iload_n C.1 C.2.1 dX7_member_20 rfl (lv_at hl 2 rfl) ?_
      refine lv_iconst (v := (4 : Int32)) C.1 C.2.1 dX7_member_21 (by decide) ?_
      refine lv_icmp_ge (tgt := 40) C.1 C.2.1 dX7_member_22 (by decide) (fun c7 => ?_) (fun c7 => ?_)
      · replace h := h.1 c7
        refine lv_iload_n C.1 C.2.1 dX7_member_40 rfl (lv_at hl 2 rfl) ?_
        refine lv_iconst (v := (4 : Int32)) C.1 C.2.1 dX7_member_41 (by decide) ?_
        refine lv_icmp_ne (tgt := 51) C.1 C.2.1 dX7_member_42 (by decide) (fun c8 => ?_) (fun c8 => ?_)
        · replace h := h.1 c8
          refine lv_iload_n C.1 C.2.1 dX7_member_51 rfl (lv_at hl 2 rfl) ?_
          refine lv_bipush (v := (8 : Int32)) C.1 C.2.1 dX7_member_52 (by decide) ?_
          refine lv_icmp_ge (tgt := 82) C.1 C.2.1 dX7_member_54 (by decide) (fun c9 => ?_) (fun c9 => ?_)
          · replace h := h.1 c9
            refine lv_iload_n C.1 C.2.1 dX7_member_82 rfl (lv_at hl 2 rfl) ?_
            refine lv_bipush (v := (8 : Int32)) C.1 C.2.1 dX7_member_83 (by decide) ?_
            refine lv_icmp_ne (tgt := 100) C.1 C.2.1 dX7_member_85 (by decide) (fun c10 => ?_) (fun c10 => ?_)
            · replace h := h.1 c10
              refine lv_aload_n C.1 C.2.1 dX7_member_100 rfl (lv_at hl 0 rfl) ?_
              refine lv_iload_n C.1 C.2.1 dX7_member_101 rfl (lv_at hl 1 rfl) ?_
              refine k_i (r_V (As := [.int x1]) (rest := []) C hml (c_X7_clashing l G x1 σ4 _ h) kM_X7_clashing im_X7_clashing se_X7_clashing ml_X7_112 ⟨rfl, rfl⟩ ⟨Nat.le_of_ble_eq_true rfl, Nat.le_of_ble_eq_true rfl⟩ hcs S kd_117 (by decide) (T := TX7) (N := 17) rfl rfl hl.1 rfl (Nat.le_of_ble_eq_true rfl) dX7_member_102) S (fun r12 σ11 H locs h S => ?_)
              exact hR _ _ _ _ _ _ dX7_member_105 h S
            · replace h := h.2 c10
              refine lv_aload_n C.1 C.2.1 dX7_member_88 rfl (lv_at hl 0 rfl) ?_
              refine g_X7_0 C fl_X7_7 kd_117 S fn_117_0 dX7_member_89 ?_
              refine lv_bipush (v := (44 : Int32)) C.1 C.2.1 dX7_member_92 (by decide) ?_
              refine lv_iload_n C.1 C.2.1 dX7_member_94 rfl (lv_at hl 1 rfl) ?_
              refine lv_iadd C.1 C.2.1 dX7_member_95 ?_
              refine a_ild C kd_118 S ln_118 h.1 dX7_member_96 ?_
              replace h := h.2
              refine lv_goto (tgt := 105) C.1 C.2.1 dX7_member_97 (by decide) ?_
              exact hR _ _ _ _ _ _ dX7_member_105 h S
          · replace h := h.2 c9
            refine lv_aload_n C.1 C.2.1 dX7_member_57 rfl (lv_at hl 0 rfl) ?_
            refine lv_iload_n C.1 C.2.1 dX7_member_58 rfl (lv_at hl 1 rfl) ?_
            refine lv_iload_n C.1 C.2.1 dX7_member_59 rfl (lv_at hl 2 rfl) ?_
            refine lv_iconst (v := (5 : Int32)) C.1 C.2.1 dX7_member_60 (by decide) ?_
            refine lv_isub C.1 C.2.1 dX7_member_61 ?_
            refine k_i (r_V (As := [.int x1, .int (x2 - (5 : Int32))]) (rest := []) C hml (c_X7_letter l G x1 ((x2 - (5 : Int32))) σ4 _ h) kM_X7_letter im_X7_letter se_X7_letter ml_X7_67 ⟨rfl, rfl⟩ ⟨Nat.le_of_ble_eq_true rfl, Nat.le_of_ble_eq_true rfl⟩ hcs S kd_117 (by decide) (T := TX7) (N := 17) rfl rfl hl.1 rfl (Nat.le_of_ble_eq_true rfl) dX7_member_62) S (fun r14 σ13 H locs h S => ?_)
            refine lv_if_ne (tgt := 73) C.1 C.2.1 dX7_member_65 (by decide) (fun c15 => ?_) (fun c15 => ?_)
            · replace h := h.1 c15
              refine lv_aload_n C.1 C.2.1 dX7_member_73 rfl (lv_at hl 0 rfl) ?_
              refine lv_iload_n C.1 C.2.1 dX7_member_74 rfl (lv_at hl 1 rfl) ?_
              refine lv_iload_n C.1 C.2.1 dX7_member_75 rfl (lv_at hl 2 rfl) ?_
              refine lv_iconst (v := (5 : Int32)) C.1 C.2.1 dX7_member_76 (by decide) ?_
              refine lv_isub C.1 C.2.1 dX7_member_77 ?_
              refine k_i (r_V (As := [.int x1, .int (x2 - (5 : Int32))]) (rest := []) C hml (c_X7_letter l G x1 ((x2 - (5 : Int32))) σ13 _ h) kM_X7_letter im_X7_letter se_X7_letter ml_X7_67 ⟨rfl, rfl⟩ ⟨Nat.le_of_ble_eq_true rfl, Nat.le_of_ble_eq_true rfl⟩ hcs S kd_117 (by decide) (T := TX7) (N := 17) rfl rfl hl.1 rfl (Nat.le_of_ble_eq_true rfl) dX7_member_78) S (fun r17 σ16 H locs h S => ?_)
              exact hR _ _ _ _ _ _ dX7_member_81 h S
            · replace h := h.2 c15
              refine lv_bipush (v := (-9 : Int32)) C.1 C.2.1 dX7_member_68 (by decide) ?_
              refine lv_goto (tgt := 81) C.1 C.2.1 dX7_member_70 (by decide) ?_
              exact hR _ _ _ _ _ _ dX7_member_81 h S
        · replace h := h.2 c8
          refine lv_aload_n C.1 C.2.1 dX7_member_45 rfl (lv_at hl 0 rfl) ?_
          refine lv_iload_n C.1 C.2.1 dX7_member_46 rfl (lv_at hl 1 rfl) ?_
          refine k_i (r_V (As := [.int x1]) (rest := []) C hml (c_X7_wordLength l G x1 σ4 _ h) kM_X7_wordLength im_X7_wordLength se_X7_wordLength ml_X7_71 ⟨rfl, rfl⟩ ⟨Nat.le_of_ble_eq_true rfl, Nat.le_of_ble_eq_true rfl⟩ hcs S kd_117 (by decide) (T := TX7) (N := 17) rfl rfl hl.1 rfl (Nat.le_of_ble_eq_true rfl) dX7_member_47) S (fun r19 σ18 H locs h S => ?_)
          exact hR _ _ _ _ _ _ dX7_member_50 h S
      · replace h := h.2 c7
        refine lv_aload_n C.1 C.2.1 dX7_member_25 rfl (lv_at hl 0 rfl) ?_
        refine g_X7_0 C fl_X7_7 kd_117 S fn_117_0 dX7_member_26 ?_
        refine lv_bipush (v := (20 : Int32)) C.1 C.2.1 dX7_member_29 (by decide) ?_
        refine lv_bipush (v := (6 : Int32)) C.1 C.2.1 dX7_member_31 (by decide) ?_
        refine lv_iload_n C.1 C.2.1 dX7_member_33 rfl (lv_at hl 2 rfl) ?_
        refine lv_imul C.1 C.2.1 dX7_member_34 ?_
        refine lv_iadd C.1 C.2.1 dX7_member_35 ?_
        refine lv_iload_n C.1 C.2.1 dX7_member_36 rfl (lv_at hl 1 rfl) ?_
        refine lv_iadd C.1 C.2.1 dX7_member_37 ?_
        refine a_ild C kd_118 S ln_118 h.1 dX7_member_38 ?_
        replace h := h.2
        exact hR _ _ _ _ _ _ dX7_member_39 h S
    · replace h := h.2 c6
      refine lv_iconst (v := (-1 : Int32)) C.1 C.2.1 dX7_member_18 (by decide) ?_
      exact hR _ _ _ _ _ _ dX7_member_19 h S
/-! X7_move -/
abbrev rm_X7_move : Room := { frames := 3, cells := 0, slots := 0, locals := 69 }
def BX7_move_63 (x1 : Int32) (x2 : Int32) (K27 : Int32 → Int32 → Sg → Prop) (post : Int32 → Sg → Prop) (x3 : Int32) (x4 : Int32) (y1 : Int32) (y2 : Int32) (σ : Sg) : Prop := (vp_in y1 6 ∧ (∀ σ1 : Sg, σ1 = setI σ 122 (y1).toNatClampNeg y2 → (((¬ x4 = x2) → K27 ((x3 + (1 : Int32))) ((x4 + 1)) σ1) ∧ ((x4 = x2) → K27 ((x3 + (0 : Int32))) ((x4 + 1)) σ1))))
def BX7_move_46 (x1 : Int32) (x2 : Int32) (K27 : Int32 → Int32 → Sg → Prop) (post : Int32 → Sg → Prop) (x3 : Int32) (x4 : Int32) (σ : Sg) : Prop := (((¬ x4 = x2) → BX7_move_63 x1 x2 K27 post x3 x4 x4 x3 σ) ∧ ((x4 = x2) → BX7_move_63 x1 x2 K27 post x3 x4 x4 x1 σ))
def BX7_move_27 (x1 : Int32) (x2 : Int32) (post : Int32 → Sg → Prop) : Nat → Int32 → Int32 → Sg → Prop
  | 0, _, _, _ => False
  | n + 1, x3, x4, σ => (vp_in ((0 : Int32)) 50 ∧ ((((σ.1 118 ((0 : Int32)).toNatClampNeg) ≤ x4) → (vp_in ((0 : Int32)) 50 ∧ wpX7_arrange ((σ.1 118 ((0 : Int32)).toNatClampNeg)) σ (fun σ6 => post x2 σ6))) ∧ ((¬ (σ.1 118 ((0 : Int32)).toNatClampNeg) ≤ x4) → (((¬ x3 = x1) → BX7_move_46 x1 x2 (BX7_move_27 x1 x2 post n) post x3 x4 σ) ∧ ((x3 = x1) → BX7_move_46 x1 x2 (BX7_move_27 x1 x2 post n) post ((x3 + 1)) x4 σ)))))
def wpX7_move (x1 : Int32) (x2 : Int32) (σ : Sg) (post : Int32 → Sg → Prop) : Prop := wpX7_isMember x1 σ (fun r9 σ8 => (((r9 = 0) → post ((-1 : Int32)) σ8) ∧ ((¬ r9 = 0) → wpX7_isMember x2 σ8 (fun r12 σ11 => (((¬ r12 = 0) → wpX7_remember σ11 (fun σ14 => ∃ nf, BX7_move_27 x1 x2 post nf ((0 : Int32)) ((0 : Int32)) σ14)) ∧ ((r12 = 0) → post ((-1 : Int32)) σ11))))))
set_option maxHeartbeats 4000000 in
set_option maxRecDepth 100000 in
theorem TX7_move_63 (C : s_C G p s args m c RX7 cX7_move) (hml : c.maxLocals = 5) (hcs : cells ≤ (rm_X7_move).cells ∧ slots ≤ (rm_X7_move).slots) {x1 : Int32} {x2 : Int32} {K27 : Int32 → Int32 → Sg → Prop} {post : Int32 → Sg → Prop} (hR : ∀ (r : Int32) (σ1 : Sg) (H : Heap) (locs : List Loc) (pc : Nat) (ls : Array Slot), decode cX7_move pc = .ok (.ireturn, 1) → post r σ1 → s_St G σ1 H0 H locs → W p l e rm_X7_move s m args below meth c H locs cells slots Q (F0 m pc ls [.int r])) (hK27 : ∀ (x3 : Int32) (x4 : Int32), ∀ (σ : Sg) (H : Heap) (locs : List Loc) (ls : Array Slot), s_St G σ H0 H locs → lv_has ls 5 [(0, .ref (G.2.2 + 117)), (1, .int x1), (2, .int x2), (3, .int x3), (4, .int x4)] → K27 x3 x4 σ → W p l e rm_X7_move s m args below meth c H locs cells slots Q (F0 m 27 ls [])) : ∀ (x3 : Int32) (x4 : Int32) (y1 : Int32) (y2 : Int32), ∀ {σ : Sg} {H : Heap} {locs : List Loc} {ls : Array Slot}, s_St G σ H0 H locs → lv_has ls 5 [(0, .ref (G.2.2 + 117)), (1, .int x1), (2, .int x2), (3, .int x3), (4, .int x4)] → BX7_move_63 x1 x2 K27 post x3 x4 y1 y2 σ → W p l e rm_X7_move s m args below meth c H locs cells slots Q (F0 m 63 ls [.int y2, .int y1, .ref (G.2.2 + 122)]) := by
  intro x3 x4 y1 y2  σ H locs ls S hl h
  unfold BX7_move_63 at h
  refine a_ist C kd_122 S ln_122 h.1 dX7_move_63 (fun σ1 H locs e2 S => ?_)
  replace h := h.2 σ1 e2
  refine lv_iload_n C.1 C.2.1 dX7_move_64 rfl (lv_at hl 3 rfl) ?_
  refine lv_iload C.1 C.2.1 dX7_move_65 (lv_at hl 4 rfl) ?_
  refine lv_iload_n C.1 C.2.1 dX7_move_67 rfl (lv_at hl 2 rfl) ?_
  refine lv_icmp_ne (tgt := 75) C.1 C.2.1 dX7_move_68 (by decide) (fun c3 => ?_) (fun c3 => ?_)
  · replace h := h.1 c3
    refine lv_iconst (v := (1 : Int32)) C.1 C.2.1 dX7_move_75 (by decide) ?_
    refine lv_iadd C.1 C.2.1 dX7_move_76 ?_
    refine lv_istore_n (lv' := [(3, .int (x3 + (1 : Int32))), (0, .ref (G.2.2 + 117)), (1, .int x1), (2, .int x2), (4, .int x4)]) C.1 C.2.1 dX7_move_77 rfl hl (by decide) rfl (fun ls hl => ?_)
    refine lv_iinc (v := (x4 + 1)) (lv' := [(4, .int (x4 + 1)), (3, .int (x3 + (1 : Int32))), (0, .ref (G.2.2 + 117)), (1, .int x1), (2, .int x2)]) C.1 C.2.1 dX7_move_78 hl (k := 4) rfl rfl (by decide) rfl (fun ls hl => ?_)
    refine lv_goto (tgt := 27) C.1 C.2.1 dX7_move_81 (by decide) ?_
    exact hK27 ((x3 + (1 : Int32))) ((x4 + 1)) _ _ _ _ S (lv_sub hl [2, 3, 4, 1, 0] rfl) h
  · replace h := h.2 c3
    refine lv_iconst (v := (0 : Int32)) C.1 C.2.1 dX7_move_71 (by decide) ?_
    refine lv_goto (tgt := 76) C.1 C.2.1 dX7_move_72 (by decide) ?_
    refine lv_iadd C.1 C.2.1 dX7_move_76 ?_
    refine lv_istore_n (lv' := [(3, .int (x3 + (0 : Int32))), (0, .ref (G.2.2 + 117)), (1, .int x1), (2, .int x2), (4, .int x4)]) C.1 C.2.1 dX7_move_77 rfl hl (by decide) rfl (fun ls hl => ?_)
    refine lv_iinc (v := (x4 + 1)) (lv' := [(4, .int (x4 + 1)), (3, .int (x3 + (0 : Int32))), (0, .ref (G.2.2 + 117)), (1, .int x1), (2, .int x2)]) C.1 C.2.1 dX7_move_78 hl (k := 4) rfl rfl (by decide) rfl (fun ls hl => ?_)
    refine lv_goto (tgt := 27) C.1 C.2.1 dX7_move_81 (by decide) ?_
    exact hK27 ((x3 + (0 : Int32))) ((x4 + 1)) _ _ _ _ S (lv_sub hl [2, 3, 4, 1, 0] rfl) h
set_option maxHeartbeats 4000000 in
set_option maxRecDepth 100000 in
theorem TX7_move_46 (C : s_C G p s args m c RX7 cX7_move) (hml : c.maxLocals = 5) (hcs : cells ≤ (rm_X7_move).cells ∧ slots ≤ (rm_X7_move).slots) {x1 : Int32} {x2 : Int32} {K27 : Int32 → Int32 → Sg → Prop} {post : Int32 → Sg → Prop} (hR : ∀ (r : Int32) (σ1 : Sg) (H : Heap) (locs : List Loc) (pc : Nat) (ls : Array Slot), decode cX7_move pc = .ok (.ireturn, 1) → post r σ1 → s_St G σ1 H0 H locs → W p l e rm_X7_move s m args below meth c H locs cells slots Q (F0 m pc ls [.int r])) (hK27 : ∀ (x3 : Int32) (x4 : Int32), ∀ (σ : Sg) (H : Heap) (locs : List Loc) (ls : Array Slot), s_St G σ H0 H locs → lv_has ls 5 [(0, .ref (G.2.2 + 117)), (1, .int x1), (2, .int x2), (3, .int x3), (4, .int x4)] → K27 x3 x4 σ → W p l e rm_X7_move s m args below meth c H locs cells slots Q (F0 m 27 ls [])) : ∀ (x3 : Int32) (x4 : Int32), ∀ {σ : Sg} {H : Heap} {locs : List Loc} {ls : Array Slot}, s_St G σ H0 H locs → lv_has ls 5 [(0, .ref (G.2.2 + 117)), (1, .int x1), (2, .int x2), (3, .int x3), (4, .int x4)] → BX7_move_46 x1 x2 K27 post x3 x4 σ → W p l e rm_X7_move s m args below meth c H locs cells slots Q (F0 m 46 ls []) := by
  intro x3 x4  σ H locs ls S hl h
  unfold BX7_move_46 at h
  refine lv_aload_n C.1 C.2.1 dX7_move_46 rfl (lv_at hl 0 rfl) ?_
  refine g_X7_7 C fl_X7_22 kd_117 S fn_117_7 dX7_move_47 ?_
  refine lv_iload C.1 C.2.1 dX7_move_50 (lv_at hl 4 rfl) ?_
  refine lv_iload C.1 C.2.1 dX7_move_52 (lv_at hl 4 rfl) ?_
  refine lv_iload_n C.1 C.2.1 dX7_move_54 rfl (lv_at hl 2 rfl) ?_
  refine lv_icmp_ne (tgt := 62) C.1 C.2.1 dX7_move_55 (by decide) (fun c4 => ?_) (fun c4 => ?_)
  · replace h := h.1 c4
    refine lv_iload_n C.1 C.2.1 dX7_move_62 rfl (lv_at hl 3 rfl) ?_
    exact TX7_move_63 C hml hcs hR hK27 x3 x4 x4 x3 S (lv_sub hl [0, 1, 2, 3, 4] rfl) h
  · replace h := h.2 c4
    refine lv_iload_n C.1 C.2.1 dX7_move_58 rfl (lv_at hl 1 rfl) ?_
    refine lv_goto (tgt := 63) C.1 C.2.1 dX7_move_59 (by decide) ?_
    exact TX7_move_63 C hml hcs hR hK27 x3 x4 x4 x1 S (lv_sub hl [0, 1, 2, 3, 4] rfl) h
set_option maxHeartbeats 4000000 in
set_option maxRecDepth 100000 in
theorem TX7_move_27 (C : s_C G p s args m c RX7 cX7_move) (hml : c.maxLocals = 5) (hcs : cells ≤ (rm_X7_move).cells ∧ slots ≤ (rm_X7_move).slots) {x1 : Int32} {x2 : Int32} {post : Int32 → Sg → Prop} (hR : ∀ (r : Int32) (σ1 : Sg) (H : Heap) (locs : List Loc) (pc : Nat) (ls : Array Slot), decode cX7_move pc = .ok (.ireturn, 1) → post r σ1 → s_St G σ1 H0 H locs → W p l e rm_X7_move s m args below meth c H locs cells slots Q (F0 m pc ls [.int r])) : ∀ (n : Nat) (x3 : Int32) (x4 : Int32), ∀ {σ : Sg} {H : Heap} {locs : List Loc} {ls : Array Slot}, s_St G σ H0 H locs → lv_has ls 5 [(0, .ref (G.2.2 + 117)), (1, .int x1), (2, .int x2), (3, .int x3), (4, .int x4)] → BX7_move_27 x1 x2 post n x3 x4 σ → W p l e rm_X7_move s m args below meth c H locs cells slots Q (F0 m 27 ls []) := by
  intro n
  induction n with
  | zero =>
    intro x3 x4  σ H locs ls S hl h
    exact absurd h (fun h => h)
  | succ n ih0 =>
    have ih : ∀ (x3 : Int32) (x4 : Int32), ∀ (σ : Sg) (H : Heap) (locs : List Loc) (ls : Array Slot), s_St G σ H0 H locs → lv_has ls 5 [(0, .ref (G.2.2 + 117)), (1, .int x1), (2, .int x2), (3, .int x3), (4, .int x4)] → BX7_move_27 x1 x2 post n x3 x4 σ → W p l e rm_X7_move s m args below meth c H locs cells slots Q (F0 m 27 ls []) := fun x3 x4  _ _ _ _ => ih0 x3 x4 
    intro x3 x4  σ H locs ls S hl h
    refine lv_iload C.1 C.2.1 dX7_move_27 (lv_at hl 4 rfl) ?_
    refine lv_aload_n C.1 C.2.1 dX7_move_29 rfl (lv_at hl 0 rfl) ?_
    refine g_X7_0 C fl_X7_7 kd_117 S fn_117_0 dX7_move_30 ?_
    refine lv_iconst (v := (0 : Int32)) C.1 C.2.1 dX7_move_33 (by decide) ?_
    refine a_ild C kd_118 S ln_118 h.1 dX7_move_34 ?_
    replace h := h.2
    refine lv_icmp_ge (tgt := 84) C.1 C.2.1 dX7_move_35 (by decide) (fun c5 => ?_) (fun c5 => ?_)
    · replace h := h.1 c5
      refine lv_aload_n C.1 C.2.1 dX7_move_84 rfl (lv_at hl 0 rfl) ?_
      refine lv_aload_n C.1 C.2.1 dX7_move_85 rfl (lv_at hl 0 rfl) ?_
      refine g_X7_0 C fl_X7_7 kd_117 S fn_117_0 dX7_move_86 ?_
      refine lv_iconst (v := (0 : Int32)) C.1 C.2.1 dX7_move_89 (by decide) ?_
      refine a_ild C kd_118 S ln_118 h.1 dX7_move_90 ?_
      replace h := h.2
      refine k_v (r_V (As := [.int (σ.1 118 ((0 : Int32)).toNatClampNeg)]) (rest := []) C hml (c_X7_arrange l G ((σ.1 118 ((0 : Int32)).toNatClampNeg)) σ _ h) kM_X7_arrange im_X7_arrange se_X7_arrange ml_X7_102 ⟨rfl, rfl⟩ ⟨Nat.le_of_ble_eq_true rfl, Nat.le_of_ble_eq_true rfl⟩ hcs S kd_117 (by decide) (T := TX7) (N := 17) rfl rfl hl.1 rfl (Nat.le_of_ble_eq_true rfl) dX7_move_91) S (fun σ6 H locs h S => ?_)
      refine lv_iload_n C.1 C.2.1 dX7_move_94 rfl (lv_at hl 2 rfl) ?_
      exact hR _ _ _ _ _ _ dX7_move_95 h S
    · replace h := h.2 c5
      refine lv_iload_n C.1 C.2.1 dX7_move_38 rfl (lv_at hl 3 rfl) ?_
      refine lv_iload_n C.1 C.2.1 dX7_move_39 rfl (lv_at hl 1 rfl) ?_
      refine lv_icmp_ne (tgt := 46) C.1 C.2.1 dX7_move_40 (by decide) (fun c7 => ?_) (fun c7 => ?_)
      · replace h := h.1 c7
        exact TX7_move_46 C hml hcs hR ih x3 x4 S (lv_sub hl [0, 1, 2, 3, 4] rfl) h
      · replace h := h.2 c7
        refine lv_iinc (v := (x3 + 1)) (lv' := [(3, .int (x3 + 1)), (0, .ref (G.2.2 + 117)), (1, .int x1), (2, .int x2), (4, .int x4)]) C.1 C.2.1 dX7_move_43 hl (k := 3) rfl rfl (by decide) rfl (fun ls hl => ?_)
        exact TX7_move_46 C hml hcs hR ih ((x3 + 1)) x4 S (lv_sub hl [1, 2, 3, 0, 4] rfl) h
theorem kM_X7_move : s_M yX7_move cX7_move 5 (some .int) 2 := ⟨co_X7_move, in_X7, by decide, by decide, by decide +kernel⟩
set_option maxHeartbeats 4000000 in
set_option maxRecDepth 100000 in
theorem c_X7_move (l : Launch) (G : s_G) (x1 : Int32) (x2 : Int32) (σ : Sg) (post : Int32 → Sg → Prop) (h : wpX7_move x1 x2 σ post) : Met l yX7_move (wsU yX7_move cX7_move 5 (some .int)) rm_X7_move (va_Pc [.ref (G.2.2 + 117), .int x1, .int x2] (s_Pre G σ)) (va_Qi post (s_B G) (s_A G.2.2)) 0 0 (s_A G.2.2) := by
  refine Met.ofW (cc := cX7_move) (maxL := 5) (ret := (some .int)) (by decide) rfl ?_
  intro p e s m args below meth c s₁ B hml hv
  obtain ⟨rfl, hP, hrok, hK, hN⟩ := hv
  have C : s_C G p s (([.ref (G.2.2 + 117), .int x1, .int x2] : List Value).toArray) m c RX7 cX7_move := ⟨B.exec, B.bytes, findClass_of_methodNamed B.named, fun w hw => atoms_spec (ws := wsU yX7_move cX7_move 5 (some .int)) B.pre w (List.mem_cons_of_mem _ hw), hK, hN⟩
  have hr := B.returns
  have hlocks := B.notSynchronized
  have S : s_St G σ s.heap s.heap [] := ⟨hP, va_S.rf, hrok⟩
  have hcs : 0 ≤ (rm_X7_move).cells ∧ 0 ≤ (rm_X7_move).slots := ⟨Nat.le_refl 0, Nat.le_refl 0⟩
  have hR : ∀ (r : Int32) (σ1 : Sg) (H : Heap) (locs : List Loc) (pc : Nat) (ls : Array Slot), decode cX7_move pc = .ok (.ireturn, 1) → post r σ1 → s_St G σ1 s.heap H locs → W p l e rm_X7_move s m ([.ref (G.2.2 + 117), .int x1, .int x2] : List Value).toArray below meth c H locs 0 0 (MQ below (va_Qi post (s_B G) (s_A G.2.2)) ([.ref (G.2.2 + 117), .int x1, .int x2] : List Value).toArray s 0 0 (s_A G.2.2)) (F0 m pc ls [.int r]) := fun _ _ _ _ _ _ hd hp S => ret_i C hr hlocks hd hp S
  have hl := lv_entry ([.ref (G.2.2 + 117), .int x1, .int x2]) (n := 5) (Nat.le_of_ble_eq_true rfl)
  rw [lg_entry_eq]
  generalize (lg_sl ([.ref (G.2.2 + 117), .int x1, .int x2]) ++ List.replicate (5 - (lg_sl ([.ref (G.2.2 + 117), .int x1, .int x2])).length) Slot.unset).toArray = ls at hl ⊢
  have hl : lv_has ls 5 [(0, .ref (G.2.2 + 117)), (1, .int x1), (2, .int x2)] := hl
  unfold wpX7_move at h
  refine lv_aload_n C.1 C.2.1 dX7_move_0 rfl (lv_at hl 0 rfl) ?_
  refine lv_iload_n C.1 C.2.1 dX7_move_1 rfl (lv_at hl 1 rfl) ?_
  refine k_i (r_V (As := [.int x1]) (rest := []) C hml (c_X7_isMember l G x1 σ _ h) kM_X7_isMember im_X7_isMember se_X7_isMember ml_X7_99 ⟨rfl, rfl⟩ ⟨Nat.le_of_ble_eq_true rfl, Nat.le_of_ble_eq_true rfl⟩ hcs S kd_117 (by decide) (T := TX7) (N := 17) rfl rfl hl.1 rfl (Nat.le_of_ble_eq_true rfl) dX7_move_2) S (fun r9 σ8 H locs h S => ?_)
  refine lv_if_eq (tgt := 16) C.1 C.2.1 dX7_move_5 (by decide) (fun c10 => ?_) (fun c10 => ?_)
  · replace h := h.1 c10
    refine lv_iconst (v := (-1 : Int32)) C.1 C.2.1 dX7_move_16 (by decide) ?_
    exact hR _ _ _ _ _ _ dX7_move_17 h S
  · replace h := h.2 c10
    refine lv_aload_n C.1 C.2.1 dX7_move_8 rfl (lv_at hl 0 rfl) ?_
    refine lv_iload_n C.1 C.2.1 dX7_move_9 rfl (lv_at hl 2 rfl) ?_
    refine k_i (r_V (As := [.int x2]) (rest := []) C hml (c_X7_isMember l G x2 σ8 _ h) kM_X7_isMember im_X7_isMember se_X7_isMember ml_X7_99 ⟨rfl, rfl⟩ ⟨Nat.le_of_ble_eq_true rfl, Nat.le_of_ble_eq_true rfl⟩ hcs S kd_117 (by decide) (T := TX7) (N := 17) rfl rfl hl.1 rfl (Nat.le_of_ble_eq_true rfl) dX7_move_10) S (fun r12 σ11 H locs h S => ?_)
    refine lv_if_ne (tgt := 18) C.1 C.2.1 dX7_move_13 (by decide) (fun c13 => ?_) (fun c13 => ?_)
    · replace h := h.1 c13
      refine lv_aload_n C.1 C.2.1 dX7_move_18 rfl (lv_at hl 0 rfl) ?_
      refine k_v (r_V (As := []) (rest := []) C hml (c_X7_remember l G σ11 _ h) kM_X7_remember im_X7_remember se_X7_remember ml_X7_86 ⟨rfl, rfl⟩ ⟨Nat.le_of_ble_eq_true rfl, Nat.le_of_ble_eq_true rfl⟩ hcs S kd_117 (by decide) (T := TX7) (N := 17) rfl rfl hl.1 rfl (Nat.le_of_ble_eq_true rfl) dX7_move_19) S (fun σ14 H locs h S => ?_)
      refine lv_iconst (v := (0 : Int32)) C.1 C.2.1 dX7_move_22 (by decide) ?_
      refine lv_istore_n (lv' := [(3, .int (0 : Int32)), (0, .ref (G.2.2 + 117)), (1, .int x1), (2, .int x2)]) C.1 C.2.1 dX7_move_23 rfl hl (by decide) rfl (fun ls hl => ?_)
      refine lv_iconst (v := (0 : Int32)) C.1 C.2.1 dX7_move_24 (by decide) ?_
      refine lv_istore (lv' := [(4, .int (0 : Int32)), (3, .int (0 : Int32)), (0, .ref (G.2.2 + 117)), (1, .int x1), (2, .int x2)]) C.1 C.2.1 dX7_move_25 hl (by decide) rfl (fun ls hl => ?_)
      obtain ⟨nf, h⟩ := h
      exact TX7_move_27 C hml hcs hR nf ((0 : Int32)) ((0 : Int32)) S (lv_sub hl [2, 3, 4, 1, 0] rfl) h
    · replace h := h.2 c13
      refine lv_iconst (v := (-1 : Int32)) C.1 C.2.1 dX7_move_16 (by decide) ?_
      exact hR _ _ _ _ _ _ dX7_move_17 h S
/-! X7_next -/
abbrev rm_X7_next : Room := { frames := 6, cells := 0, slots := 0, locals := 139 }
def BX7_next_10  (post : Int32 → Sg → Prop) : Nat → Int32 → Int32 → Int32 → Sg → Prop
  | 0, _, _, _, _ => False
  | n + 1, x1, x2, x3, σ => ((((4096 : Int32) ≤ x3) → (((x2 = 0) → post ((-9 : Int32)) σ) ∧ ((¬ x2 = 0) → post x1 σ))) ∧ ((¬ (4096 : Int32) ≤ x3) → (vp_in ((((4096 : Int32) * (σ.1 117 6)) + x3)) 249856 ∧ ((((σ.1 123 ((((4096 : Int32) * (σ.1 117 6)) + x3)).toNatClampNeg) = 0) → BX7_next_10 post n x1 x2 ((x3 + 1)) σ) ∧ ((¬ (σ.1 123 ((((4096 : Int32) * (σ.1 117 6)) + x3)).toNatClampNeg) = 0) → wpX7_mayFollow x3 σ (fun r5 σ4 => BX7_next_10 post n ((x1 ||| r5)) ((1 : Int32)) ((x3 + 1)) σ4))))))
def wpX7_next  (σ : Sg) (post : Int32 → Sg → Prop) : Prop := wpX7_layWays σ (fun σ6 => ∃ nf, BX7_next_10 post nf ((0 : Int32)) ((0 : Int32)) ((0 : Int32)) σ6)
set_option maxHeartbeats 4000000 in
set_option maxRecDepth 100000 in
theorem TX7_next_10 (C : s_C G p s args m c RX7 cX7_next) (hml : c.maxLocals = 4) (hcs : cells ≤ (rm_X7_next).cells ∧ slots ≤ (rm_X7_next).slots)  {post : Int32 → Sg → Prop} (hR : ∀ (r : Int32) (σ1 : Sg) (H : Heap) (locs : List Loc) (pc : Nat) (ls : Array Slot), decode cX7_next pc = .ok (.ireturn, 1) → post r σ1 → s_St G σ1 H0 H locs → W p l e rm_X7_next s m args below meth c H locs cells slots Q (F0 m pc ls [.int r])) : ∀ (n : Nat) (x1 : Int32) (x2 : Int32) (x3 : Int32), ∀ {σ : Sg} {H : Heap} {locs : List Loc} {ls : Array Slot}, s_St G σ H0 H locs → lv_has ls 4 [(0, .ref (G.2.2 + 117)), (1, .int x1), (2, .int x2), (3, .int x3)] → BX7_next_10 post n x1 x2 x3 σ → W p l e rm_X7_next s m args below meth c H locs cells slots Q (F0 m 10 ls []) := by
  intro n
  induction n with
  | zero =>
    intro x1 x2 x3  σ H locs ls S hl h
    exact absurd h (fun h => h)
  | succ n ih0 =>
    have ih : ∀ (x1 : Int32) (x2 : Int32) (x3 : Int32), ∀ (σ : Sg) (H : Heap) (locs : List Loc) (ls : Array Slot), s_St G σ H0 H locs → lv_has ls 4 [(0, .ref (G.2.2 + 117)), (1, .int x1), (2, .int x2), (3, .int x3)] → BX7_next_10 post n x1 x2 x3 σ → W p l e rm_X7_next s m args below meth c H locs cells slots Q (F0 m 10 ls []) := fun x1 x2 x3  _ _ _ _ => ih0 x1 x2 x3 
    intro x1 x2 x3  σ H locs ls S hl h
    refine lv_iload_n C.1 C.2.1 dX7_next_10 rfl (lv_at hl 3 rfl) ?_
    refine lv_sipush (v := (4096 : Int32)) C.1 C.2.1 dX7_next_11 (by decide) ?_
    refine lv_icmp_ge (tgt := 51) C.1 C.2.1 dX7_next_14 (by decide) (fun c1 => ?_) (fun c1 => ?_)
    · replace h := h.1 c1
      refine lv_iload_n C.1 C.2.1 dX7_next_51 rfl (lv_at hl 2 rfl) ?_
      refine lv_if_eq (tgt := 59) C.1 C.2.1 dX7_next_52 (by decide) (fun c2 => ?_) (fun c2 => ?_)
      · replace h := h.1 c2
        refine lv_bipush (v := (-9 : Int32)) C.1 C.2.1 dX7_next_59 (by decide) ?_
        exact hR _ _ _ _ _ _ dX7_next_61 h S
      · replace h := h.2 c2
        refine lv_iload_n C.1 C.2.1 dX7_next_55 rfl (lv_at hl 1 rfl) ?_
        refine lv_goto (tgt := 61) C.1 C.2.1 dX7_next_56 (by decide) ?_
        exact hR _ _ _ _ _ _ dX7_next_61 h S
    · replace h := h.2 c1
      refine lv_aload_n C.1 C.2.1 dX7_next_17 rfl (lv_at hl 0 rfl) ?_
      refine g_X7_8 C fl_X7_26 kd_117 S fn_117_8 dX7_next_18 ?_
      refine lv_sipush (v := (4096 : Int32)) C.1 C.2.1 dX7_next_21 (by decide) ?_
      refine lv_aload_n C.1 C.2.1 dX7_next_24 rfl (lv_at hl 0 rfl) ?_
      refine g_X7_6 C fl_X7_64 kd_117 S dX7_next_25 ?_
      refine lv_imul C.1 C.2.1 dX7_next_28 ?_
      refine lv_iload_n C.1 C.2.1 dX7_next_29 rfl (lv_at hl 3 rfl) ?_
      refine lv_iadd C.1 C.2.1 dX7_next_30 ?_
      refine a_zld C kd_123 S ln_123 h.1 dX7_next_31 ?_
      replace h := h.2
      refine lv_if_eq (tgt := 45) C.1 C.2.1 dX7_next_32 (by decide) (fun c3 => ?_) (fun c3 => ?_)
      · replace h := h.1 c3
        refine lv_iinc (v := (x3 + 1)) (lv' := [(3, .int (x3 + 1)), (0, .ref (G.2.2 + 117)), (1, .int x1), (2, .int x2)]) C.1 C.2.1 dX7_next_45 hl (k := 3) rfl rfl (by decide) rfl (fun ls hl => ?_)
        refine lv_goto (tgt := 10) C.1 C.2.1 dX7_next_48 (by decide) ?_
        exact ih x1 x2 ((x3 + 1)) _ _ _ _ S (lv_sub hl [1, 2, 3, 0] rfl) h
      · replace h := h.2 c3
        refine lv_iconst (v := (1 : Int32)) C.1 C.2.1 dX7_next_35 (by decide) ?_
        refine lv_istore_n (lv' := [(2, .int (1 : Int32)), (0, .ref (G.2.2 + 117)), (1, .int x1), (3, .int x3)]) C.1 C.2.1 dX7_next_36 rfl hl (by decide) rfl (fun ls hl => ?_)
        refine lv_iload_n C.1 C.2.1 dX7_next_37 rfl (lv_at hl 2 rfl) ?_
        refine lv_aload_n C.1 C.2.1 dX7_next_38 rfl (lv_at hl 1 rfl) ?_
        refine lv_iload_n C.1 C.2.1 dX7_next_39 rfl (lv_at hl 3 rfl) ?_
        refine k_i (r_V (As := [.int x3]) (rest := [.int x1]) C hml (c_X7_mayFollow l G x3 σ _ h) kM_X7_mayFollow im_X7_mayFollow se_X7_mayFollow ml_X7_168 ⟨rfl, rfl⟩ ⟨Nat.le_of_ble_eq_true rfl, Nat.le_of_ble_eq_true rfl⟩ hcs S kd_117 (by decide) (T := TX7) (N := 17) rfl rfl hl.1 rfl (Nat.le_of_ble_eq_true rfl) dX7_next_40) S (fun r5 σ4 H locs h S => ?_)
        refine lv_ior C.1 C.2.1 dX7_next_43 ?_
        refine lv_istore_n (lv' := [(1, .int (x1 ||| r5)), (2, .int (1 : Int32)), (0, .ref (G.2.2 + 117)), (3, .int x3)]) C.1 C.2.1 dX7_next_44 rfl hl (by decide) rfl (fun ls hl => ?_)
        refine lv_iinc (v := (x3 + 1)) (lv' := [(3, .int (x3 + 1)), (1, .int (x1 ||| r5)), (2, .int (1 : Int32)), (0, .ref (G.2.2 + 117))]) C.1 C.2.1 dX7_next_45 hl (k := 3) rfl rfl (by decide) rfl (fun ls hl => ?_)
        refine lv_goto (tgt := 10) C.1 C.2.1 dX7_next_48 (by decide) ?_
        exact ih ((x1 ||| r5)) ((1 : Int32)) ((x3 + 1)) _ _ _ _ S (lv_sub hl [3, 1, 2, 0] rfl) h
theorem kM_X7_next : s_M yX7_next cX7_next 4 (some .int) 0 := ⟨co_X7_next, in_X7, by decide, by decide, by decide +kernel⟩
set_option maxHeartbeats 4000000 in
set_option maxRecDepth 100000 in
theorem c_X7_next (l : Launch) (G : s_G)  (σ : Sg) (post : Int32 → Sg → Prop) (h : wpX7_next σ post) : Met l yX7_next (wsU yX7_next cX7_next 4 (some .int)) rm_X7_next (va_Pc [.ref (G.2.2 + 117)] (s_Pre G σ)) (va_Qi post (s_B G) (s_A G.2.2)) 0 0 (s_A G.2.2) := by
  refine Met.ofW (cc := cX7_next) (maxL := 4) (ret := (some .int)) (by decide) rfl ?_
  intro p e s m args below meth c s₁ B hml hv
  obtain ⟨rfl, hP, hrok, hK, hN⟩ := hv
  have C : s_C G p s (([.ref (G.2.2 + 117)] : List Value).toArray) m c RX7 cX7_next := ⟨B.exec, B.bytes, findClass_of_methodNamed B.named, fun w hw => atoms_spec (ws := wsU yX7_next cX7_next 4 (some .int)) B.pre w (List.mem_cons_of_mem _ hw), hK, hN⟩
  have hr := B.returns
  have hlocks := B.notSynchronized
  have S : s_St G σ s.heap s.heap [] := ⟨hP, va_S.rf, hrok⟩
  have hcs : 0 ≤ (rm_X7_next).cells ∧ 0 ≤ (rm_X7_next).slots := ⟨Nat.le_refl 0, Nat.le_refl 0⟩
  have hR : ∀ (r : Int32) (σ1 : Sg) (H : Heap) (locs : List Loc) (pc : Nat) (ls : Array Slot), decode cX7_next pc = .ok (.ireturn, 1) → post r σ1 → s_St G σ1 s.heap H locs → W p l e rm_X7_next s m ([.ref (G.2.2 + 117)] : List Value).toArray below meth c H locs 0 0 (MQ below (va_Qi post (s_B G) (s_A G.2.2)) ([.ref (G.2.2 + 117)] : List Value).toArray s 0 0 (s_A G.2.2)) (F0 m pc ls [.int r]) := fun _ _ _ _ _ _ hd hp S => ret_i C hr hlocks hd hp S
  have hl := lv_entry ([.ref (G.2.2 + 117)]) (n := 4) (Nat.le_of_ble_eq_true rfl)
  rw [lg_entry_eq]
  generalize (lg_sl ([.ref (G.2.2 + 117)]) ++ List.replicate (4 - (lg_sl ([.ref (G.2.2 + 117)])).length) Slot.unset).toArray = ls at hl ⊢
  have hl : lv_has ls 4 [(0, .ref (G.2.2 + 117))] := hl
  unfold wpX7_next at h
  refine lv_aload_n C.1 C.2.1 dX7_next_0 rfl (lv_at hl 0 rfl) ?_
  refine k_v (r_V (As := []) (rest := []) C hml (c_X7_layWays l G σ _ h) kM_X7_layWays im_X7_layWays se_X7_layWays ml_X7_156 ⟨rfl, rfl⟩ ⟨Nat.le_of_ble_eq_true rfl, Nat.le_of_ble_eq_true rfl⟩ hcs S kd_117 (by decide) (T := TX7) (N := 17) rfl rfl hl.1 rfl (Nat.le_of_ble_eq_true rfl) dX7_next_1) S (fun σ6 H locs h S => ?_)
  refine lv_iconst (v := (0 : Int32)) C.1 C.2.1 dX7_next_4 (by decide) ?_
  refine lv_istore_n (lv' := [(1, .int (0 : Int32)), (0, .ref (G.2.2 + 117))]) C.1 C.2.1 dX7_next_5 rfl hl (by decide) rfl (fun ls hl => ?_)
  refine lv_iconst (v := (0 : Int32)) C.1 C.2.1 dX7_next_6 (by decide) ?_
  refine lv_istore_n (lv' := [(2, .int (0 : Int32)), (1, .int (0 : Int32)), (0, .ref (G.2.2 + 117))]) C.1 C.2.1 dX7_next_7 rfl hl (by decide) rfl (fun ls hl => ?_)
  refine lv_iconst (v := (0 : Int32)) C.1 C.2.1 dX7_next_8 (by decide) ?_
  refine lv_istore_n (lv' := [(3, .int (0 : Int32)), (2, .int (0 : Int32)), (1, .int (0 : Int32)), (0, .ref (G.2.2 + 117))]) C.1 C.2.1 dX7_next_9 rfl hl (by decide) rfl (fun ls hl => ?_)
  obtain ⟨nf, h⟩ := h
  exact TX7_next_10 C hml hcs hR nf ((0 : Int32)) ((0 : Int32)) ((0 : Int32)) S (lv_sub hl [3, 2, 1, 0] rfl) h
end M10
