section M3
variable {p : Program} {l : Launch} {e : Env} {R : Room} {s : State} {m : MethodId} {args : Array Value} {below : List Frame} {meth : Method} {c : Code} {H0 : Heap} {cells slots : Nat} {Q : State → Prop} {G : s_G}
/-! X4_countFrom -/
abbrev rm_X4_countFrom : Room := { frames := 0, cells := 0, slots := 0, locals := 0 }
def wpX4_countFrom (x1 : Int32) (σ : Sg) (post : Int64 → Sg → Prop) : Prop := (((x1 < 0) → post ((0 : Int64)) σ) ∧ ((¬ x1 < 0) → ((((4096 : Int32) ≤ x1) → post ((0 : Int64)) σ) ∧ ((¬ (4096 : Int32) ≤ x1) → (vp_in x1 4096 ∧ post ((σ.2.1 98 (x1).toNatClampNeg)) σ)))))
theorem kM_X4_countFrom : s_M yX4_countFrom cX4_countFrom 2 (some .long) 1 := ⟨co_X4_countFrom, in_X4, by decide, by decide, by decide +kernel⟩
set_option maxHeartbeats 4000000 in
set_option maxRecDepth 100000 in
theorem c_X4_countFrom (l : Launch) (G : s_G) (x1 : Int32) (σ : Sg) (post : Int64 → Sg → Prop) (h : wpX4_countFrom x1 σ post) : Met l yX4_countFrom (wsU yX4_countFrom cX4_countFrom 2 (some .long)) rm_X4_countFrom (va_Pc [.ref (G.2.2 + 97), .int x1] (s_Pre G σ)) (va_Ql post (s_B G) (s_A G.2.2)) 0 0 (s_A G.2.2) := by
  refine Met.ofW (cc := cX4_countFrom) (maxL := 2) (ret := (some .long)) (by decide) rfl ?_
  intro p e s m args below meth c s₁ B hml hv
  obtain ⟨rfl, hP, hrok, hK, hN⟩ := hv
  have C : s_C G p s (([.ref (G.2.2 + 97), .int x1] : List Value).toArray) m c RX4 cX4_countFrom := ⟨B.exec, B.bytes, findClass_of_methodNamed B.named, fun w hw => atoms_spec (ws := wsU yX4_countFrom cX4_countFrom 2 (some .long)) B.pre w (List.mem_cons_of_mem _ hw), hK, hN⟩
  have hr := B.returns
  have hlocks := B.notSynchronized
  have S : s_St G σ s.heap s.heap [] := ⟨hP, va_S.rf, hrok⟩
  have hcs : 0 ≤ (rm_X4_countFrom).cells ∧ 0 ≤ (rm_X4_countFrom).slots := ⟨Nat.le_refl 0, Nat.le_refl 0⟩
  have hR : ∀ (r : Int64) (σ1 : Sg) (H : Heap) (locs : List Loc) (pc : Nat) (ls : Array Slot), decode cX4_countFrom pc = .ok (.lreturn, 1) → post r σ1 → s_St G σ1 s.heap H locs → W p l e rm_X4_countFrom s m ([.ref (G.2.2 + 97), .int x1] : List Value).toArray below meth c H locs 0 0 (MQ below (va_Ql post (s_B G) (s_A G.2.2)) ([.ref (G.2.2 + 97), .int x1] : List Value).toArray s 0 0 (s_A G.2.2)) (F0 m pc ls [.long r]) := fun _ _ _ _ _ _ hd hp S => ret_l C hr hlocks hd hp S
  have hl := lv_entry ([.ref (G.2.2 + 97), .int x1]) (n := 2) (Nat.le_of_ble_eq_true rfl)
  rw [lg_entry_eq]
  generalize (lg_sl ([.ref (G.2.2 + 97), .int x1]) ++ List.replicate (2 - (lg_sl ([.ref (G.2.2 + 97), .int x1])).length) Slot.unset).toArray = ls at hl ⊢
  have hl : lv_has ls 2 [(0, .ref (G.2.2 + 97)), (1, .int x1)] := hl
  unfold wpX4_countFrom at h
  refine lv_iload_n C.1 C.2.1 dX4_countFrom_0 rfl (lv_at hl 1 rfl) ?_
  refine lv_if_lt (tgt := 22) C.1 C.2.1 dX4_countFrom_1 (by decide) (fun c1 => ?_) (fun c1 => ?_)
  · replace h := h.1 c1
    refine lv_lconst (v := (0 : Int64)) C.1 C.2.1 dX4_countFrom_22 (by decide) ?_
    exact hR _ _ _ _ _ _ dX4_countFrom_23 h S
  · replace h := h.2 c1
    refine lv_iload_n C.1 C.2.1 dX4_countFrom_4 rfl (lv_at hl 1 rfl) ?_
    refine lv_aload_n C.1 C.2.1 dX4_countFrom_5 rfl (lv_at hl 0 rfl) ?_
    refine g_X4_0 C fl_X4_9 kd_97 S fn_97_0 dX4_countFrom_6 ?_
    refine a_len9 C kd_98 S (v := (4096 : Int32)) (by rw [ln_98]; rfl) dX4_countFrom_9 ?_
    refine lv_icmp_ge (tgt := 22) C.1 C.2.1 dX4_countFrom_10 (by decide) (fun c2 => ?_) (fun c2 => ?_)
    · replace h := h.1 c2
      refine lv_lconst (v := (0 : Int64)) C.1 C.2.1 dX4_countFrom_22 (by decide) ?_
      exact hR _ _ _ _ _ _ dX4_countFrom_23 h S
    · replace h := h.2 c2
      refine lv_aload_n C.1 C.2.1 dX4_countFrom_13 rfl (lv_at hl 0 rfl) ?_
      refine g_X4_0 C fl_X4_9 kd_97 S fn_97_0 dX4_countFrom_14 ?_
      refine lv_iload_n C.1 C.2.1 dX4_countFrom_17 rfl (lv_at hl 1 rfl) ?_
      refine a_lld C kd_98 S ln_98 h.1 dX4_countFrom_18 ?_
      replace h := h.2
      refine lv_goto (tgt := 23) C.1 C.2.1 dX4_countFrom_19 (by decide) ?_
      exact hR _ _ _ _ _ _ dX4_countFrom_23 h S
/-! X6_withOneMore -/
abbrev rm_X6_withOneMore : Room := { frames := 0, cells := 0, slots := 0, locals := 0 }
def wpX6_withOneMore (x0 : Int32) (x1 : Int32) (σ : Sg) (post : Int32 → Sg → Prop) : Prop := post ((x0 + ((1 : Int32) <<< (((2 : Int32) * x1) &&& 31)))) σ
theorem kM_X6_withOneMore : s_M yX6_withOneMore cX6_withOneMore 2 (some .int) 2 := ⟨co_X6_withOneMore, in_X6, by decide, by decide, by decide +kernel⟩
set_option maxHeartbeats 4000000 in
set_option maxRecDepth 100000 in
theorem c_X6_withOneMore (l : Launch) (G : s_G) (x0 : Int32) (x1 : Int32) (σ : Sg) (post : Int32 → Sg → Prop) (h : wpX6_withOneMore x0 x1 σ post) : Met l yX6_withOneMore (wsU yX6_withOneMore cX6_withOneMore 2 (some .int)) rm_X6_withOneMore (va_Pc [.int x0, .int x1] (s_Pre G σ)) (va_Qi post (s_B G) (s_A G.2.2)) 0 0 (s_A G.2.2) := by
  refine Met.ofW (cc := cX6_withOneMore) (maxL := 2) (ret := (some .int)) (by decide) rfl ?_
  intro p e s m args below meth c s₁ B hml hv
  obtain ⟨rfl, hP, hrok, hK, hN⟩ := hv
  have C : s_C G p s (([.int x0, .int x1] : List Value).toArray) m c RX6 cX6_withOneMore := ⟨B.exec, B.bytes, findClass_of_methodNamed B.named, fun w hw => atoms_spec (ws := wsU yX6_withOneMore cX6_withOneMore 2 (some .int)) B.pre w (List.mem_cons_of_mem _ hw), hK, hN⟩
  have hr := B.returns
  have hlocks := B.notSynchronized
  have S : s_St G σ s.heap s.heap [] := ⟨hP, va_S.rf, hrok⟩
  have hcs : 0 ≤ (rm_X6_withOneMore).cells ∧ 0 ≤ (rm_X6_withOneMore).slots := ⟨Nat.le_refl 0, Nat.le_refl 0⟩
  have hR : ∀ (r : Int32) (σ1 : Sg) (H : Heap) (locs : List Loc) (pc : Nat) (ls : Array Slot), decode cX6_withOneMore pc = .ok (.ireturn, 1) → post r σ1 → s_St G σ1 s.heap H locs → W p l e rm_X6_withOneMore s m ([.int x0, .int x1] : List Value).toArray below meth c H locs 0 0 (MQ below (va_Qi post (s_B G) (s_A G.2.2)) ([.int x0, .int x1] : List Value).toArray s 0 0 (s_A G.2.2)) (F0 m pc ls [.int r]) := fun _ _ _ _ _ _ hd hp S => ret_i C hr hlocks hd hp S
  have hl := lv_entry ([.int x0, .int x1]) (n := 2) (Nat.le_of_ble_eq_true rfl)
  rw [lg_entry_eq]
  generalize (lg_sl ([.int x0, .int x1]) ++ List.replicate (2 - (lg_sl ([.int x0, .int x1])).length) Slot.unset).toArray = ls at hl ⊢
  have hl : lv_has ls 2 [(0, .int x0), (1, .int x1)] := hl
  unfold wpX6_withOneMore at h
  refine lv_iload_n C.1 C.2.1 dX6_withOneMore_0 rfl (lv_at hl 0 rfl) ?_
  refine lv_iconst (v := (1 : Int32)) C.1 C.2.1 dX6_withOneMore_1 (by decide) ?_
  refine lv_iconst (v := (2 : Int32)) C.1 C.2.1 dX6_withOneMore_2 (by decide) ?_
  refine lv_iload_n C.1 C.2.1 dX6_withOneMore_3 rfl (lv_at hl 1 rfl) ?_
  refine lv_imul C.1 C.2.1 dX6_withOneMore_4 ?_
  refine lv_ishl C.1 C.2.1 dX6_withOneMore_5 ?_
  refine lv_iadd C.1 C.2.1 dX6_withOneMore_6 ?_
  exact hR _ _ _ _ _ _ dX6_withOneMore_7 h S
/-! X4_countBehind -/
abbrev rm_X4_countBehind : Room := { frames := 3, cells := 0, slots := 0, locals := 68 }
def BX4_countBehind_13 (x1 : Int32) (x2 : Int32) (post : Int64 → Sg → Prop) : Nat → Int32 → Int64 → Int32 → Sg → Prop
  | 0, _, _, _, _ => False
  | n + 1, x4, x5, x7, σ => (((x2 ≤ x7) → post x5 σ) ∧ ((¬ x2 ≤ x7) → wpX6_bitOf x4 x7 σ (fun r3 σ2 => (((¬ r3 = (1 : Int32)) → BX4_countBehind_13 x1 x2 post n x4 x5 ((x7 + 1)) σ2) ∧ ((r3 = (1 : Int32)) → wpX6_withOneMore x1 x7 σ2 (fun r6 σ5 => wpX4_countFrom r6 σ5 (fun r8 σ7 => BX4_countBehind_13 x1 x2 post n x4 ((x5 + r8)) ((x7 + 1)) σ7)))))))
def wpX4_countBehind (x1 : Int32) (x2 : Int32) (σ : Sg) (post : Int64 → Sg → Prop) : Prop := wpX1_followers 5 x1 σ (fun r10 σ9 => ∃ nf, BX4_countBehind_13 x1 x2 post nf r10 ((0 : Int64)) ((0 : Int32)) σ9)
set_option maxHeartbeats 4000000 in
set_option maxRecDepth 100000 in
theorem TX4_countBehind_13 (C : s_C G p s args m c RX4 cX4_countBehind) (hml : c.maxLocals = 8) (hcs : cells ≤ (rm_X4_countBehind).cells ∧ slots ≤ (rm_X4_countBehind).slots) {x1 : Int32} {x2 : Int32} {post : Int64 → Sg → Prop} (hR : ∀ (r : Int64) (σ1 : Sg) (H : Heap) (locs : List Loc) (pc : Nat) (ls : Array Slot), decode cX4_countBehind pc = .ok (.lreturn, 1) → post r σ1 → s_St G σ1 H0 H locs → W p l e rm_X4_countBehind s m args below meth c H locs cells slots Q (F0 m pc ls [.long r])) : ∀ (n : Nat) (x4 : Int32) (x5 : Int64) (x7 : Int32), ∀ {σ : Sg} {H : Heap} {locs : List Loc} {ls : Array Slot}, s_St G σ H0 H locs → lv_has ls 8 [(0, .ref (G.2.2 + 97)), (1, .int x1), (2, .int x2), (4, .int x4), (5, .long x5), (7, .int x7)] → BX4_countBehind_13 x1 x2 post n x4 x5 x7 σ → W p l e rm_X4_countBehind s m args below meth c H locs cells slots Q (F0 m 13 ls []) := by
  intro n
  induction n with
  | zero =>
    intro x4 x5 x7  σ H locs ls S hl h
    exact absurd h (fun h => h)
  | succ n ih0 =>
    have ih : ∀ (x4 : Int32) (x5 : Int64) (x7 : Int32), ∀ (σ : Sg) (H : Heap) (locs : List Loc) (ls : Array Slot), s_St G σ H0 H locs → lv_has ls 8 [(0, .ref (G.2.2 + 97)), (1, .int x1), (2, .int x2), (4, .int x4), (5, .long x5), (7, .int x7)] → BX4_countBehind_13 x1 x2 post n x4 x5 x7 σ → W p l e rm_X4_countBehind s m args below meth c H locs cells slots Q (F0 m 13 ls []) := fun x4 x5 x7  _ _ _ _ => ih0 x4 x5 x7 
    intro x4 x5 x7  σ H locs ls S hl h
    refine lv_iload C.1 C.2.1 dX4_countBehind_13 (lv_at hl 5 rfl) ?_
    refine lv_iload_n C.1 C.2.1 dX4_countBehind_15 rfl (lv_at hl 2 rfl) ?_
    refine lv_icmp_ge (tgt := 51) C.1 C.2.1 dX4_countBehind_16 (by decide) (fun c1 => ?_) (fun c1 => ?_)
    · replace h := h.1 c1
      refine lv_lload C.1 C.2.1 dX4_countBehind_51 (lv_at hl 4 rfl) ?_
      exact hR _ _ _ _ _ _ dX4_countBehind_53 h S
    · replace h := h.2 c1
      refine lv_iload C.1 C.2.1 dX4_countBehind_19 (lv_at hl 3 rfl) ?_
      refine lv_iload C.1 C.2.1 dX4_countBehind_21 (lv_at hl 5 rfl) ?_
      refine k_i (r_SN (As := [.int x4, .int x7]) (rest := []) C hml (c_X6_bitOf l G x4 x7 σ _ h) kM_X6_bitOf st_X6_bitOf nm_X4_49 ⟨rfl, rfl⟩ ⟨Nat.le_of_ble_eq_true rfl, Nat.le_of_ble_eq_true rfl⟩ hcs S rfl hl.1 rfl (Nat.le_of_ble_eq_true rfl) dX4_countBehind_23) S (fun r3 σ2 H locs h S => ?_)
      refine lv_iconst (v := (1 : Int32)) C.1 C.2.1 dX4_countBehind_26 (by decide) ?_
      refine lv_icmp_ne (tgt := 45) C.1 C.2.1 dX4_countBehind_27 (by decide) (fun c4 => ?_) (fun c4 => ?_)
      · replace h := h.1 c4
        refine lv_iinc (v := (x7 + 1)) (lv' := [(7, .int (x7 + 1)), (0, .ref (G.2.2 + 97)), (1, .int x1), (2, .int x2), (4, .int x4), (5, .long x5)]) C.1 C.2.1 dX4_countBehind_45 hl (k := 5) rfl rfl (by decide) rfl (fun ls hl => ?_)
        refine lv_goto (tgt := 13) C.1 C.2.1 dX4_countBehind_48 (by decide) ?_
        exact ih x4 x5 ((x7 + 1)) _ _ _ _ S (lv_sub hl [1, 2, 3, 4, 5, 0] rfl) h
      · replace h := h.2 c4
        refine lv_lload C.1 C.2.1 dX4_countBehind_30 (lv_at hl 4 rfl) ?_
        refine lv_aload_n C.1 C.2.1 dX4_countBehind_32 rfl (lv_at hl 0 rfl) ?_
        refine lv_iload_n C.1 C.2.1 dX4_countBehind_33 rfl (lv_at hl 1 rfl) ?_
        refine lv_iload C.1 C.2.1 dX4_countBehind_34 (lv_at hl 5 rfl) ?_
        refine k_i (r_SN (As := [.int x1, .int x7]) (rest := [.ref (G.2.2 + 97), .long x5]) C hml (c_X6_withOneMore l G x1 x7 σ2 _ h) kM_X6_withOneMore st_X6_withOneMore nm_X4_52 ⟨rfl, rfl⟩ ⟨Nat.le_of_ble_eq_true rfl, Nat.le_of_ble_eq_true rfl⟩ hcs S rfl hl.1 rfl (Nat.le_of_ble_eq_true rfl) dX4_countBehind_36) S (fun r6 σ5 H locs h S => ?_)
        refine k_l (r_V (As := [.int r6]) (rest := [.long x5]) C hml (c_X4_countFrom l G r6 σ5 _ h) kM_X4_countFrom im_X4_countFrom se_X4_countFrom ml_X4_55 ⟨rfl, rfl⟩ ⟨Nat.le_of_ble_eq_true rfl, Nat.le_of_ble_eq_true rfl⟩ hcs S kd_97 (by decide) (T := TX4) (N := 2) rfl rfl hl.1 rfl (Nat.le_of_ble_eq_true rfl) dX4_countBehind_39) S (fun r8 σ7 H locs h S => ?_)
        refine lv_ladd C.1 C.2.1 dX4_countBehind_42 ?_
        refine lv_lstore (lv' := [(5, .long (x5 + r8)), (0, .ref (G.2.2 + 97)), (1, .int x1), (2, .int x2), (4, .int x4), (7, .int x7)]) C.1 C.2.1 dX4_countBehind_43 hl (by decide) rfl (fun ls hl => ?_)
        refine lv_iinc (v := (x7 + 1)) (lv' := [(7, .int (x7 + 1)), (5, .long (x5 + r8)), (0, .ref (G.2.2 + 97)), (1, .int x1), (2, .int x2), (4, .int x4)]) C.1 C.2.1 dX4_countBehind_45 hl (k := 5) rfl rfl (by decide) rfl (fun ls hl => ?_)
        refine lv_goto (tgt := 13) C.1 C.2.1 dX4_countBehind_48 (by decide) ?_
        exact ih x4 ((x5 + r8)) ((x7 + 1)) _ _ _ _ S (lv_sub hl [2, 3, 4, 5, 1, 0] rfl) h
theorem kM_X4_countBehind : s_M yX4_countBehind cX4_countBehind 8 (some .long) 3 := ⟨co_X4_countBehind, in_X4, by decide, by decide, by decide +kernel⟩
set_option maxHeartbeats 4000000 in
set_option maxRecDepth 100000 in
theorem c_X4_countBehind (l : Launch) (G : s_G) (x1 : Int32) (x2 : Int32) (σ : Sg) (post : Int64 → Sg → Prop) (h : wpX4_countBehind x1 x2 σ post) : Met l yX4_countBehind (wsU yX4_countBehind cX4_countBehind 8 (some .long)) rm_X4_countBehind (va_Pc [.ref (G.2.2 + 97), .int x1, .int x2, .ref (G.2.2 + 5)] (s_Pre G σ)) (va_Ql post (s_B G) (s_A G.2.2)) 0 0 (s_A G.2.2) := by
  refine Met.ofW (cc := cX4_countBehind) (maxL := 8) (ret := (some .long)) (by decide) rfl ?_
  intro p e s m args below meth c s₁ B hml hv
  obtain ⟨rfl, hP, hrok, hK, hN⟩ := hv
  have C : s_C G p s (([.ref (G.2.2 + 97), .int x1, .int x2, .ref (G.2.2 + 5)] : List Value).toArray) m c RX4 cX4_countBehind := ⟨B.exec, B.bytes, findClass_of_methodNamed B.named, fun w hw => atoms_spec (ws := wsU yX4_countBehind cX4_countBehind 8 (some .long)) B.pre w (List.mem_cons_of_mem _ hw), hK, hN⟩
  have hr := B.returns
  have hlocks := B.notSynchronized
  have S : s_St G σ s.heap s.heap [] := ⟨hP, va_S.rf, hrok⟩
  have hcs : 0 ≤ (rm_X4_countBehind).cells ∧ 0 ≤ (rm_X4_countBehind).slots := ⟨Nat.le_refl 0, Nat.le_refl 0⟩
  have hR : ∀ (r : Int64) (σ1 : Sg) (H : Heap) (locs : List Loc) (pc : Nat) (ls : Array Slot), decode cX4_countBehind pc = .ok (.lreturn, 1) → post r σ1 → s_St G σ1 s.heap H locs → W p l e rm_X4_countBehind s m ([.ref (G.2.2 + 97), .int x1, .int x2, .ref (G.2.2 + 5)] : List Value).toArray below meth c H locs 0 0 (MQ below (va_Ql post (s_B G) (s_A G.2.2)) ([.ref (G.2.2 + 97), .int x1, .int x2, .ref (G.2.2 + 5)] : List Value).toArray s 0 0 (s_A G.2.2)) (F0 m pc ls [.long r]) := fun _ _ _ _ _ _ hd hp S => ret_l C hr hlocks hd hp S
  have hl := lv_entry ([.ref (G.2.2 + 97), .int x1, .int x2, .ref (G.2.2 + 5)]) (n := 8) (Nat.le_of_ble_eq_true rfl)
  rw [lg_entry_eq]
  generalize (lg_sl ([.ref (G.2.2 + 97), .int x1, .int x2, .ref (G.2.2 + 5)]) ++ List.replicate (8 - (lg_sl ([.ref (G.2.2 + 97), .int x1, .int x2, .ref (G.2.2 + 5)])).length) Slot.unset).toArray = ls at hl ⊢
  have hl : lv_has ls 8 [(0, .ref (G.2.2 + 97)), (1, .int x1), (2, .int x2), (3, .ref (G.2.2 + 5))] := hl
  unfold wpX4_countBehind at h
  refine lv_aload_n C.1 C.2.1 dX4_countBehind_0 rfl (lv_at hl 3 rfl) ?_
  refine lv_iload_n C.1 C.2.1 dX4_countBehind_1 rfl (lv_at hl 1 rfl) ?_
  refine k_i (r_VN (As := [.int x1]) (rest := []) C hml (c_X1_followers l G 5 x1 σ _ kd_5 h) kM_X1_followers im_X1_followers se_X1_followers nm_X4_46 ⟨rfl, rfl⟩ ⟨Nat.le_of_ble_eq_true rfl, Nat.le_of_ble_eq_true rfl⟩ hcs S kd_5 (by decide) (T := TX1) (N := 4) rfl rfl hl.1 rfl (Nat.le_of_ble_eq_true rfl) dX4_countBehind_2) S (fun r10 σ9 H locs h S => ?_)
  refine lv_istore (lv' := [(4, .int r10), (0, .ref (G.2.2 + 97)), (1, .int x1), (2, .int x2), (3, .ref (G.2.2 + 5))]) C.1 C.2.1 dX4_countBehind_5 hl (by decide) rfl (fun ls hl => ?_)
  refine lv_lconst (v := (0 : Int64)) C.1 C.2.1 dX4_countBehind_7 (by decide) ?_
  refine lv_lstore (lv' := [(5, .long (0 : Int64)), (4, .int r10), (0, .ref (G.2.2 + 97)), (1, .int x1), (2, .int x2), (3, .ref (G.2.2 + 5))]) C.1 C.2.1 dX4_countBehind_8 hl (by decide) rfl (fun ls hl => ?_)
  refine lv_iconst (v := (0 : Int32)) C.1 C.2.1 dX4_countBehind_10 (by decide) ?_
  refine lv_istore (lv' := [(7, .int (0 : Int32)), (5, .long (0 : Int64)), (4, .int r10), (0, .ref (G.2.2 + 97)), (1, .int x1), (2, .int x2), (3, .ref (G.2.2 + 5))]) C.1 C.2.1 dX4_countBehind_11 hl (by decide) rfl (fun ls hl => ?_)
  obtain ⟨nf, h⟩ := h
  exact TX4_countBehind_13 C hml hcs hR nf r10 ((0 : Int64)) ((0 : Int32)) S (lv_sub hl [3, 4, 5, 2, 1, 0] rfl) h
/-! X4_forget -/
abbrev rm_X4_forget : Room := { frames := 0, cells := 0, slots := 0, locals := 0 }
def wpX4_forget  (σ : Sg) (post : Sg → Prop) : Prop := (∀ σ1 : Sg, σ1 = setI σ 97 1 ((-2 : Int32)) → post σ1)
theorem kM_X4_forget : s_M yX4_forget cX4_forget 1 none 0 := ⟨co_X4_forget, in_X4, by decide, by decide, by decide +kernel⟩
set_option maxHeartbeats 4000000 in
set_option maxRecDepth 100000 in
theorem c_X4_forget (l : Launch) (G : s_G)  (σ : Sg) (post : Sg → Prop) (h : wpX4_forget σ post) : Met l yX4_forget (wsU yX4_forget cX4_forget 1 none) rm_X4_forget (va_Pc [.ref (G.2.2 + 97)] (s_Pre G σ)) (va_Qv post (s_B G) (s_A G.2.2)) 0 0 (s_A G.2.2) := by
  refine Met.ofW (cc := cX4_forget) (maxL := 1) (ret := none) (by decide) rfl ?_
  intro p e s m args below meth c s₁ B hml hv
  obtain ⟨rfl, hP, hrok, hK, hN⟩ := hv
  have C : s_C G p s (([.ref (G.2.2 + 97)] : List Value).toArray) m c RX4 cX4_forget := ⟨B.exec, B.bytes, findClass_of_methodNamed B.named, fun w hw => atoms_spec (ws := wsU yX4_forget cX4_forget 1 none) B.pre w (List.mem_cons_of_mem _ hw), hK, hN⟩
  have hr := B.returns
  have hlocks := B.notSynchronized
  have S : s_St G σ s.heap s.heap [] := ⟨hP, va_S.rf, hrok⟩
  have hcs : 0 ≤ (rm_X4_forget).cells ∧ 0 ≤ (rm_X4_forget).slots := ⟨Nat.le_refl 0, Nat.le_refl 0⟩
  have hR : ∀ (σ1 : Sg) (H : Heap) (locs : List Loc) (pc : Nat) (ls : Array Slot), decode cX4_forget pc = .ok (.return_, 1) → post σ1 → s_St G σ1 s.heap H locs → W p l e rm_X4_forget s m ([.ref (G.2.2 + 97)] : List Value).toArray below meth c H locs 0 0 (MQ below (va_Qv post (s_B G) (s_A G.2.2)) ([.ref (G.2.2 + 97)] : List Value).toArray s 0 0 (s_A G.2.2)) (F0 m pc ls []) := fun _ _ _ _ _ hd hp S => ret_v C hr hlocks hd hp S
  have hl := lv_entry ([.ref (G.2.2 + 97)]) (n := 1) (Nat.le_of_ble_eq_true rfl)
  rw [lg_entry_eq]
  generalize (lg_sl ([.ref (G.2.2 + 97)]) ++ List.replicate (1 - (lg_sl ([.ref (G.2.2 + 97)])).length) Slot.unset).toArray = ls at hl ⊢
  have hl : lv_has ls 1 [(0, .ref (G.2.2 + 97))] := hl
  unfold wpX4_forget at h
  refine lv_aload_n C.1 C.2.1 dX4_forget_0 rfl (lv_at hl 0 rfl) ?_
  refine lv_bipush (v := (-2 : Int32)) C.1 C.2.1 dX4_forget_1 (by decide) ?_
  refine p_X4_1 C fl_X4_15 kd_97 S dX4_forget_3 (fun σ1 H locs e2 S => ?_)
  replace h := h σ1 e2
  exact hR _ _ _ _ _ dX4_forget_6 h S
/-! X4_learn -/
abbrev rm_X4_learn : Room := { frames := 4, cells := 0, slots := 0, locals := 95 }
def BX4_learn_67 (x2 : Int32) (K24 : Int32 → Sg → Prop) (post : Sg → Prop) (x3 : Int32) (y0 : Int64) (σ : Sg) : Prop := wpX4_countBehind x3 ((σ.1 5 2)) σ (fun r2 σ1 => (vp_in x3 4096 ∧ (∀ σ3 : Sg, σ3 = setL σ1 98 (x3).toNatClampNeg ((y0 + r2)) → K24 ((x3 + (-1))) σ3)))
def BX4_learn_47 (x2 : Int32) (K24 : Int32 → Sg → Prop) (post : Sg → Prop) (x3 : Int32) (y0 : Int32) (σ : Sg) : Prop := (((y0 = 0) → BX4_learn_67 x2 K24 post x3 ((0 : Int64)) σ) ∧ ((¬ y0 = 0) → wpX1_isEnough 5 x3 σ (fun r7 σ6 => (((r7 = 0) → BX4_learn_67 x2 K24 post x3 ((0 : Int64)) σ6) ∧ ((¬ r7 = 0) → BX4_learn_67 x2 K24 post x3 ((1 : Int64)) σ6)))))
def BX4_learn_24 (x2 : Int32) (post : Sg → Prop) : Nat → Int32 → Sg → Prop
  | 0, _, _ => False
  | n + 1, x3, σ => (((x3 < 0) → (∀ σ10 : Sg, σ10 = setI σ 97 1 x2 → post σ10)) ∧ ((¬ x3 < 0) → (((x2 = (-1 : Int32)) → BX4_learn_47 x2 (BX4_learn_24 x2 post n) post x3 ((1 : Int32)) σ) ∧ ((¬ x2 = (-1 : Int32)) → wpX1_lengthOf 5 x3 σ (fun r14 σ13 => (((¬ r14 = x2) → BX4_learn_47 x2 (BX4_learn_24 x2 post n) post x3 ((0 : Int32)) σ13) ∧ ((r14 = x2) → BX4_learn_47 x2 (BX4_learn_24 x2 post n) post x3 ((1 : Int32)) σ13)))))))
def wpX4_learn (x2 : Int32) (σ : Sg) (post : Sg → Prop) : Prop := (((¬ (σ.1 97 1) = x2) → wpX1_tallies 5 σ (fun r18 σ17 => ∃ nf, BX4_learn_24 x2 post nf (((if (4096 : Int32) < r18 then (4096 : Int32) else r18) - (1 : Int32))) σ17)) ∧ (((σ.1 97 1) = x2) → post σ))
set_option maxHeartbeats 4000000 in
set_option maxRecDepth 100000 in
theorem TX4_learn_67 (C : s_C G p s args m c RX4 cX4_learn) (hml : c.maxLocals = 7) (hcs : cells ≤ (rm_X4_learn).cells ∧ slots ≤ (rm_X4_learn).slots) {x2 : Int32} {K24 : Int32 → Sg → Prop} {post : Sg → Prop} (hR : ∀ (σ1 : Sg) (H : Heap) (locs : List Loc) (pc : Nat) (ls : Array Slot), decode cX4_learn pc = .ok (.return_, 1) → post σ1 → s_St G σ1 H0 H locs → W p l e rm_X4_learn s m args below meth c H locs cells slots Q (F0 m pc ls [])) (hK24 : ∀ (x3 : Int32), ∀ (σ : Sg) (H : Heap) (locs : List Loc) (ls : Array Slot), s_St G σ H0 H locs → lv_has ls 7 [(0, .ref (G.2.2 + 97)), (1, .ref (G.2.2 + 5)), (2, .int x2), (3, .int x3)] → K24 x3 σ → W p l e rm_X4_learn s m args below meth c H locs cells slots Q (F0 m 24 ls [])) : ∀ (x3 : Int32) (y0 : Int64), ∀ {σ : Sg} {H : Heap} {locs : List Loc} {ls : Array Slot}, s_St G σ H0 H locs → lv_has ls 7 [(0, .ref (G.2.2 + 97)), (1, .ref (G.2.2 + 5)), (2, .int x2), (3, .int x3)] → BX4_learn_67 x2 K24 post x3 y0 σ → W p l e rm_X4_learn s m args below meth c H locs cells slots Q (F0 m 67 ls [.long y0]) := by
  intro x3 y0  σ H locs ls S hl h
  unfold BX4_learn_67 at h
  refine lv_lstore (lv' := [(5, .long y0), (0, .ref (G.2.2 + 97)), (1, .ref (G.2.2 + 5)), (2, .int x2), (3, .int x3)]) C.1 C.2.1 dX4_learn_67 hl (by decide) rfl (fun ls hl => ?_)
  refine lv_aload_n C.1 C.2.1 dX4_learn_69 rfl (lv_at hl 1 rfl) ?_
  refine g_X4_0 C fl_X4_9 kd_97 S fn_97_0 dX4_learn_70 ?_
  refine lv_iload_n C.1 C.2.1 dX4_learn_73 rfl (lv_at hl 4 rfl) ?_
  refine lv_lload C.1 C.2.1 dX4_learn_74 (lv_at hl 0 rfl) ?_
  refine lv_aload_n C.1 C.2.1 dX4_learn_76 rfl (lv_at hl 1 rfl) ?_
  refine lv_iload_n C.1 C.2.1 dX4_learn_77 rfl (lv_at hl 4 rfl) ?_
  refine lv_aload_n C.1 C.2.1 dX4_learn_78 rfl (lv_at hl 2 rfl) ?_
  refine gn_X1_2 C nf_X4_39 kd_5 S dX4_learn_79 ?_
  refine lv_aload_n C.1 C.2.1 dX4_learn_82 rfl (lv_at hl 2 rfl) ?_
  refine k_l (r_V (As := [.int x3, .int (σ.1 5 2), .ref (G.2.2 + 5)]) (rest := [.long y0, .int x3, .ref (G.2.2 + 98)]) C hml (c_X4_countBehind l G x3 ((σ.1 5 2)) σ _ h) kM_X4_countBehind im_X4_countBehind se_X4_countBehind ml_X4_42 ⟨rfl, rfl⟩ ⟨Nat.le_of_ble_eq_true rfl, Nat.le_of_ble_eq_true rfl⟩ hcs S kd_97 (by decide) (T := TX4) (N := 2) rfl rfl hl.1 rfl (Nat.le_of_ble_eq_true rfl) dX4_learn_83) S (fun r2 σ1 H locs h S => ?_)
  refine lv_ladd C.1 C.2.1 dX4_learn_86 ?_
  refine a_lst C kd_98 S ln_98 h.1 dX4_learn_87 (fun σ3 H locs e4 S => ?_)
  replace h := h.2 σ3 e4
  refine lv_iinc (v := (x3 + (-1))) (lv' := [(3, .int (x3 + (-1))), (5, .long y0), (0, .ref (G.2.2 + 97)), (1, .ref (G.2.2 + 5)), (2, .int x2)]) C.1 C.2.1 dX4_learn_88 hl (k := 4) rfl rfl (by decide) rfl (fun ls hl => ?_)
  refine lv_goto (tgt := 24) C.1 C.2.1 dX4_learn_91 (by decide) ?_
  exact hK24 ((x3 + (-1))) _ _ _ _ S (lv_sub hl [2, 3, 4, 0] rfl) h
set_option maxHeartbeats 4000000 in
set_option maxRecDepth 100000 in
theorem TX4_learn_47 (C : s_C G p s args m c RX4 cX4_learn) (hml : c.maxLocals = 7) (hcs : cells ≤ (rm_X4_learn).cells ∧ slots ≤ (rm_X4_learn).slots) {x2 : Int32} {K24 : Int32 → Sg → Prop} {post : Sg → Prop} (hR : ∀ (σ1 : Sg) (H : Heap) (locs : List Loc) (pc : Nat) (ls : Array Slot), decode cX4_learn pc = .ok (.return_, 1) → post σ1 → s_St G σ1 H0 H locs → W p l e rm_X4_learn s m args below meth c H locs cells slots Q (F0 m pc ls [])) (hK24 : ∀ (x3 : Int32), ∀ (σ : Sg) (H : Heap) (locs : List Loc) (ls : Array Slot), s_St G σ H0 H locs → lv_has ls 7 [(0, .ref (G.2.2 + 97)), (1, .ref (G.2.2 + 5)), (2, .int x2), (3, .int x3)] → K24 x3 σ → W p l e rm_X4_learn s m args below meth c H locs cells slots Q (F0 m 24 ls [])) : ∀ (x3 : Int32) (y0 : Int32), ∀ {σ : Sg} {H : Heap} {locs : List Loc} {ls : Array Slot}, s_St G σ H0 H locs → lv_has ls 7 [(0, .ref (G.2.2 + 97)), (1, .ref (G.2.2 + 5)), (2, .int x2), (3, .int x3)] → BX4_learn_47 x2 K24 post x3 y0 σ → W p l e rm_X4_learn s m args below meth c H locs cells slots Q (F0 m 47 ls [.int y0]) := by
  intro x3 y0  σ H locs ls S hl h
  unfold BX4_learn_47 at h
  refine lv_istore (lv' := [(4, .int y0), (0, .ref (G.2.2 + 97)), (1, .ref (G.2.2 + 5)), (2, .int x2), (3, .int x3)]) C.1 C.2.1 dX4_learn_47 hl (by decide) rfl (fun ls hl => ?_)
  refine lv_iload C.1 C.2.1 dX4_learn_49 (lv_at hl 0 rfl) ?_
  refine lv_if_eq (tgt := 66) C.1 C.2.1 dX4_learn_51 (by decide) (fun c5 => ?_) (fun c5 => ?_)
  · replace h := h.1 c5
    refine lv_lconst (v := (0 : Int64)) C.1 C.2.1 dX4_learn_66 (by decide) ?_
    exact TX4_learn_67 C hml hcs hR hK24 x3 ((0 : Int64)) S (lv_sub hl [1, 2, 3, 4] rfl) h
  · replace h := h.2 c5
    refine lv_aload_n C.1 C.2.1 dX4_learn_54 rfl (lv_at hl 2 rfl) ?_
    refine lv_iload_n C.1 C.2.1 dX4_learn_55 rfl (lv_at hl 4 rfl) ?_
    refine k_i (r_VN (As := [.int x3]) (rest := []) C hml (c_X1_isEnough l G 5 x3 σ _ kd_5 h) kM_X1_isEnough im_X1_isEnough se_X1_isEnough nm_X4_35 ⟨rfl, rfl⟩ ⟨Nat.le_of_ble_eq_true rfl, Nat.le_of_ble_eq_true rfl⟩ hcs S kd_5 (by decide) (T := TX1) (N := 4) rfl rfl hl.1 rfl (Nat.le_of_ble_eq_true rfl) dX4_learn_56) S (fun r7 σ6 H locs h S => ?_)
    refine lv_if_eq (tgt := 66) C.1 C.2.1 dX4_learn_59 (by decide) (fun c8 => ?_) (fun c8 => ?_)
    · replace h := h.1 c8
      refine lv_lconst (v := (0 : Int64)) C.1 C.2.1 dX4_learn_66 (by decide) ?_
      exact TX4_learn_67 C hml hcs hR hK24 x3 ((0 : Int64)) S (lv_sub hl [1, 2, 3, 4] rfl) h
    · replace h := h.2 c8
      refine lv_lconst (v := (1 : Int64)) C.1 C.2.1 dX4_learn_62 (by decide) ?_
      refine lv_goto (tgt := 67) C.1 C.2.1 dX4_learn_63 (by decide) ?_
      exact TX4_learn_67 C hml hcs hR hK24 x3 ((1 : Int64)) S (lv_sub hl [1, 2, 3, 4] rfl) h
set_option maxHeartbeats 4000000 in
set_option maxRecDepth 100000 in
theorem TX4_learn_24 (C : s_C G p s args m c RX4 cX4_learn) (hml : c.maxLocals = 7) (hcs : cells ≤ (rm_X4_learn).cells ∧ slots ≤ (rm_X4_learn).slots) {x2 : Int32} {post : Sg → Prop} (hR : ∀ (σ1 : Sg) (H : Heap) (locs : List Loc) (pc : Nat) (ls : Array Slot), decode cX4_learn pc = .ok (.return_, 1) → post σ1 → s_St G σ1 H0 H locs → W p l e rm_X4_learn s m args below meth c H locs cells slots Q (F0 m pc ls [])) : ∀ (n : Nat) (x3 : Int32), ∀ {σ : Sg} {H : Heap} {locs : List Loc} {ls : Array Slot}, s_St G σ H0 H locs → lv_has ls 7 [(0, .ref (G.2.2 + 97)), (1, .ref (G.2.2 + 5)), (2, .int x2), (3, .int x3)] → BX4_learn_24 x2 post n x3 σ → W p l e rm_X4_learn s m args below meth c H locs cells slots Q (F0 m 24 ls []) := by
  intro n
  induction n with
  | zero =>
    intro x3  σ H locs ls S hl h
    exact absurd h (fun h => h)
  | succ n ih0 =>
    have ih : ∀ (x3 : Int32), ∀ (σ : Sg) (H : Heap) (locs : List Loc) (ls : Array Slot), s_St G σ H0 H locs → lv_has ls 7 [(0, .ref (G.2.2 + 97)), (1, .ref (G.2.2 + 5)), (2, .int x2), (3, .int x3)] → BX4_learn_24 x2 post n x3 σ → W p l e rm_X4_learn s m args below meth c H locs cells slots Q (F0 m 24 ls []) := fun x3  _ _ _ _ => ih0 x3 
    intro x3  σ H locs ls S hl h
    refine lv_iload_n C.1 C.2.1 dX4_learn_24 rfl (lv_at hl 3 rfl) ?_
    refine lv_if_lt (tgt := 94) C.1 C.2.1 dX4_learn_25 (by decide) (fun c9 => ?_) (fun c9 => ?_)
    · replace h := h.1 c9
      refine lv_aload_n C.1 C.2.1 dX4_learn_94 rfl (lv_at hl 0 rfl) ?_
      refine lv_iload_n C.1 C.2.1 dX4_learn_95 rfl (lv_at hl 2 rfl) ?_
      refine p_X4_1 C fl_X4_15 kd_97 S dX4_learn_96 (fun σ10 H locs e11 S => ?_)
      replace h := h σ10 e11
      exact hR _ _ _ _ _ dX4_learn_99 h S
    · replace h := h.2 c9
      refine lv_iload_n C.1 C.2.1 dX4_learn_28 rfl (lv_at hl 2 rfl) ?_
      refine lv_iconst (v := (-1 : Int32)) C.1 C.2.1 dX4_learn_29 (by decide) ?_
      refine lv_icmp_eq (tgt := 42) C.1 C.2.1 dX4_learn_30 (by decide) (fun c12 => ?_) (fun c12 => ?_)
      · replace h := h.1 c12
        refine lv_iconst (v := (1 : Int32)) C.1 C.2.1 dX4_learn_42 (by decide) ?_
        refine lv_goto (tgt := 47) C.1 C.2.1 dX4_learn_43 (by decide) ?_
        exact TX4_learn_47 C hml hcs hR ih x3 ((1 : Int32)) S (lv_sub hl [0, 1, 2, 3] rfl) h
      · replace h := h.2 c12
        refine lv_aload_n C.1 C.2.1 dX4_learn_33 rfl (lv_at hl 1 rfl) ?_
        refine lv_iload_n C.1 C.2.1 dX4_learn_34 rfl (lv_at hl 3 rfl) ?_
        refine k_i (r_VN (As := [.int x3]) (rest := []) C hml (c_X1_lengthOf l G 5 x3 σ _ kd_5 h) kM_X1_lengthOf im_X1_lengthOf se_X1_lengthOf nm_X4_31 ⟨rfl, rfl⟩ ⟨Nat.le_of_ble_eq_true rfl, Nat.le_of_ble_eq_true rfl⟩ hcs S kd_5 (by decide) (T := TX1) (N := 4) rfl rfl hl.1 rfl (Nat.le_of_ble_eq_true rfl) dX4_learn_35) S (fun r14 σ13 H locs h S => ?_)
        refine lv_iload_n C.1 C.2.1 dX4_learn_38 rfl (lv_at hl 2 rfl) ?_
        refine lv_icmp_ne (tgt := 46) C.1 C.2.1 dX4_learn_39 (by decide) (fun c15 => ?_) (fun c15 => ?_)
        · replace h := h.1 c15
          refine lv_iconst (v := (0 : Int32)) C.1 C.2.1 dX4_learn_46 (by decide) ?_
          exact TX4_learn_47 C hml hcs hR ih x3 ((0 : Int32)) S (lv_sub hl [0, 1, 2, 3] rfl) h
        · replace h := h.2 c15
          refine lv_iconst (v := (1 : Int32)) C.1 C.2.1 dX4_learn_42 (by decide) ?_
          refine lv_goto (tgt := 47) C.1 C.2.1 dX4_learn_43 (by decide) ?_
          exact TX4_learn_47 C hml hcs hR ih x3 ((1 : Int32)) S (lv_sub hl [0, 1, 2, 3] rfl) h
theorem kM_X4_learn : s_M yX4_learn cX4_learn 7 none 2 := ⟨co_X4_learn, in_X4, by decide, by decide, by decide +kernel⟩
set_option maxHeartbeats 4000000 in
set_option maxRecDepth 100000 in
theorem c_X4_learn (l : Launch) (G : s_G) (x2 : Int32) (σ : Sg) (post : Sg → Prop) (h : wpX4_learn x2 σ post) : Met l yX4_learn (wsU yX4_learn cX4_learn 7 none) rm_X4_learn (va_Pc [.ref (G.2.2 + 97), .ref (G.2.2 + 5), .int x2] (s_Pre G σ)) (va_Qv post (s_B G) (s_A G.2.2)) 0 0 (s_A G.2.2) := by
  refine Met.ofW (cc := cX4_learn) (maxL := 7) (ret := none) (by decide) rfl ?_
  intro p e s m args below meth c s₁ B hml hv
  obtain ⟨rfl, hP, hrok, hK, hN⟩ := hv
  have C : s_C G p s (([.ref (G.2.2 + 97), .ref (G.2.2 + 5), .int x2] : List Value).toArray) m c RX4 cX4_learn := ⟨B.exec, B.bytes, findClass_of_methodNamed B.named, fun w hw => atoms_spec (ws := wsU yX4_learn cX4_learn 7 none) B.pre w (List.mem_cons_of_mem _ hw), hK, hN⟩
  have hr := B.returns
  have hlocks := B.notSynchronized
  have S : s_St G σ s.heap s.heap [] := ⟨hP, va_S.rf, hrok⟩
  have hcs : 0 ≤ (rm_X4_learn).cells ∧ 0 ≤ (rm_X4_learn).slots := ⟨Nat.le_refl 0, Nat.le_refl 0⟩
  have hR : ∀ (σ1 : Sg) (H : Heap) (locs : List Loc) (pc : Nat) (ls : Array Slot), decode cX4_learn pc = .ok (.return_, 1) → post σ1 → s_St G σ1 s.heap H locs → W p l e rm_X4_learn s m ([.ref (G.2.2 + 97), .ref (G.2.2 + 5), .int x2] : List Value).toArray below meth c H locs 0 0 (MQ below (va_Qv post (s_B G) (s_A G.2.2)) ([.ref (G.2.2 + 97), .ref (G.2.2 + 5), .int x2] : List Value).toArray s 0 0 (s_A G.2.2)) (F0 m pc ls []) := fun _ _ _ _ _ hd hp S => ret_v C hr hlocks hd hp S
  have hl := lv_entry ([.ref (G.2.2 + 97), .ref (G.2.2 + 5), .int x2]) (n := 7) (Nat.le_of_ble_eq_true rfl)
  rw [lg_entry_eq]
  generalize (lg_sl ([.ref (G.2.2 + 97), .ref (G.2.2 + 5), .int x2]) ++ List.replicate (7 - (lg_sl ([.ref (G.2.2 + 97), .ref (G.2.2 + 5), .int x2])).length) Slot.unset).toArray = ls at hl ⊢
  have hl : lv_has ls 7 [(0, .ref (G.2.2 + 97)), (1, .ref (G.2.2 + 5)), (2, .int x2)] := hl
  unfold wpX4_learn at h
  refine lv_aload_n C.1 C.2.1 dX4_learn_0 rfl (lv_at hl 0 rfl) ?_
  refine g_X4_1 C fl_X4_15 kd_97 S dX4_learn_1 ?_
  refine lv_iload_n C.1 C.2.1 dX4_learn_4 rfl (lv_at hl 2 rfl) ?_
  refine lv_icmp_ne (tgt := 9) C.1 C.2.1 dX4_learn_5 (by decide) (fun c16 => ?_) (fun c16 => ?_)
  · replace h := h.1 c16
    refine lv_aload_n C.1 C.2.1 dX4_learn_9 rfl (lv_at hl 1 rfl) ?_
    refine k_i (r_VN (As := []) (rest := []) C hml (c_X1_tallies l G 5 σ _ kd_5 h) kM_X1_tallies im_X1_tallies se_X1_tallies nm_X4_19 ⟨rfl, rfl⟩ ⟨Nat.le_of_ble_eq_true rfl, Nat.le_of_ble_eq_true rfl⟩ hcs S kd_5 (by decide) (T := TX1) (N := 4) rfl rfl hl.1 rfl (Nat.le_of_ble_eq_true rfl) dX4_learn_10) S (fun r18 σ17 H locs h S => ?_)
    refine lv_aload_n C.1 C.2.1 dX4_learn_13 rfl (lv_at hl 0 rfl) ?_
    refine g_X4_0 C fl_X4_9 kd_97 S fn_97_0 dX4_learn_14 ?_
    refine a_len9 C kd_98 S (v := (4096 : Int32)) (by rw [ln_98]; rfl) dX4_learn_17 ?_
    refine va_mmin C.1 C.2.1 (hml.trans hl.1.symm) C.2.2.1 (C.2.2.2.1 _ ml_X4_25) (C.2.2.2.1 _ st_min) (C.2.2.2.1 _ in_math) (C.2.2.2.1 _ co_min) (Nat.le_of_ble_eq_true rfl) (Nat.le_of_ble_eq_true rfl) hcs.1 hcs.2 dX4_learn_18 ?_
    refine lv_iconst (v := (1 : Int32)) C.1 C.2.1 dX4_learn_21 (by decide) ?_
    refine lv_isub C.1 C.2.1 dX4_learn_22 ?_
    refine lv_istore_n (lv' := [(3, .int ((if (4096 : Int32) < r18 then (4096 : Int32) else r18) - (1 : Int32))), (0, .ref (G.2.2 + 97)), (1, .ref (G.2.2 + 5)), (2, .int x2)]) C.1 C.2.1 dX4_learn_23 rfl hl (by decide) rfl (fun ls hl => ?_)
    obtain ⟨nf, h⟩ := h
    exact TX4_learn_24 C hml hcs hR nf (((if (4096 : Int32) < r18 then (4096 : Int32) else r18) - (1 : Int32))) S (lv_sub hl [1, 2, 3, 0] rfl) h
  · replace h := h.2 c16
    exact hR _ _ _ _ _ dX4_learn_8 h S
/-! X4_memberBehind -/
abbrev rm_X4_memberBehind : Room := { frames := 4, cells := 0, slots := 0, locals := 95 }
def BX4_memberBehind_3 (x1 : Int32) (x2 : Int64) (post : Int32 → Sg → Prop) : Nat → Int32 → Sg → Prop
  | 0, _, _ => False
  | n + 1, x5, σ => ((((σ.1 5 2) ≤ x5) → post ((-9 : Int32)) σ) ∧ ((¬ (σ.1 5 2) ≤ x5) → wpX4_countBehind x1 ((x5 + (1 : Int32))) σ (fun r3 σ2 => (((0 ≤ (lg_cmp x2 r3)) → BX4_memberBehind_3 x1 x2 post n ((x5 + 1)) σ2) ∧ ((¬ 0 ≤ (lg_cmp x2 r3)) → post x5 σ2)))))
def wpX4_memberBehind (x1 : Int32) (x2 : Int64) (σ : Sg) (post : Int32 → Sg → Prop) : Prop := ∃ nf, BX4_memberBehind_3 x1 x2 post nf ((0 : Int32)) σ
set_option maxHeartbeats 4000000 in
set_option maxRecDepth 100000 in
theorem TX4_memberBehind_3 (C : s_C G p s args m c RX4 cX4_memberBehind) (hml : c.maxLocals = 6) (hcs : cells ≤ (rm_X4_memberBehind).cells ∧ slots ≤ (rm_X4_memberBehind).slots) {x1 : Int32} {x2 : Int64} {post : Int32 → Sg → Prop} (hR : ∀ (r : Int32) (σ1 : Sg) (H : Heap) (locs : List Loc) (pc : Nat) (ls : Array Slot), decode cX4_memberBehind pc = .ok (.ireturn, 1) → post r σ1 → s_St G σ1 H0 H locs → W p l e rm_X4_memberBehind s m args below meth c H locs cells slots Q (F0 m pc ls [.int r])) : ∀ (n : Nat) (x5 : Int32), ∀ {σ : Sg} {H : Heap} {locs : List Loc} {ls : Array Slot}, s_St G σ H0 H locs → lv_has ls 6 [(0, .ref (G.2.2 + 97)), (1, .int x1), (2, .long x2), (4, .ref (G.2.2 + 5)), (5, .int x5)] → BX4_memberBehind_3 x1 x2 post n x5 σ → W p l e rm_X4_memberBehind s m args below meth c H locs cells slots Q (F0 m 3 ls []) := by
  intro n
  induction n with
  | zero =>
    intro x5  σ H locs ls S hl h
    exact absurd h (fun h => h)
  | succ n ih0 =>
    have ih : ∀ (x5 : Int32), ∀ (σ : Sg) (H : Heap) (locs : List Loc) (ls : Array Slot), s_St G σ H0 H locs → lv_has ls 6 [(0, .ref (G.2.2 + 97)), (1, .int x1), (2, .long x2), (4, .ref (G.2.2 + 5)), (5, .int x5)] → BX4_memberBehind_3 x1 x2 post n x5 σ → W p l e rm_X4_memberBehind s m args below meth c H locs cells slots Q (F0 m 3 ls []) := fun x5  _ _ _ _ => ih0 x5 
    intro x5  σ H locs ls S hl h
    refine lv_iload C.1 C.2.1 dX4_memberBehind_3 (lv_at hl 4 rfl) ?_
    refine lv_aload C.1 C.2.1 dX4_memberBehind_5 (lv_at hl 3 rfl) ?_
    refine gn_X1_2 C nf_X4_39 kd_5 S dX4_memberBehind_7 ?_
    refine lv_icmp_ge (tgt := 38) C.1 C.2.1 dX4_memberBehind_10 (by decide) (fun c1 => ?_) (fun c1 => ?_)
    · replace h := h.1 c1
      refine lv_bipush (v := (-9 : Int32)) C.1 C.2.1 dX4_memberBehind_38 (by decide) ?_
      exact hR _ _ _ _ _ _ dX4_memberBehind_40 h S
    · replace h := h.2 c1
      refine lv_lload_n C.1 C.2.1 dX4_memberBehind_13 rfl (lv_at hl 2 rfl) ?_
      refine lv_aload_n C.1 C.2.1 dX4_memberBehind_14 rfl (lv_at hl 0 rfl) ?_
      refine lv_iload_n C.1 C.2.1 dX4_memberBehind_15 rfl (lv_at hl 1 rfl) ?_
      refine lv_iload C.1 C.2.1 dX4_memberBehind_16 (lv_at hl 4 rfl) ?_
      refine lv_iconst (v := (1 : Int32)) C.1 C.2.1 dX4_memberBehind_18 (by decide) ?_
      refine lv_iadd C.1 C.2.1 dX4_memberBehind_19 ?_
      refine lv_aload C.1 C.2.1 dX4_memberBehind_20 (lv_at hl 3 rfl) ?_
      refine k_l (r_V (As := [.int x1, .int (x5 + (1 : Int32)), .ref (G.2.2 + 5)]) (rest := [.long x2]) C hml (c_X4_countBehind l G x1 ((x5 + (1 : Int32))) σ _ h) kM_X4_countBehind im_X4_countBehind se_X4_countBehind ml_X4_42 ⟨rfl, rfl⟩ ⟨Nat.le_of_ble_eq_true rfl, Nat.le_of_ble_eq_true rfl⟩ hcs S kd_97 (by decide) (T := TX4) (N := 2) rfl rfl hl.1 rfl (Nat.le_of_ble_eq_true rfl) dX4_memberBehind_22) S (fun r3 σ2 H locs h S => ?_)
      refine W.lcmp C.1 C.2.1 dX4_memberBehind_25 ?_
      refine lv_if_ge (tgt := 32) C.1 C.2.1 dX4_memberBehind_26 (by decide) (fun c4 => ?_) (fun c4 => ?_)
      · replace h := h.1 c4
        refine lv_iinc (v := (x5 + 1)) (lv' := [(5, .int (x5 + 1)), (0, .ref (G.2.2 + 97)), (1, .int x1), (2, .long x2), (4, .ref (G.2.2 + 5))]) C.1 C.2.1 dX4_memberBehind_32 hl (k := 4) rfl rfl (by decide) rfl (fun ls hl => ?_)
        refine lv_goto (tgt := 3) C.1 C.2.1 dX4_memberBehind_35 (by decide) ?_
        exact ih ((x5 + 1)) _ _ _ _ S (lv_sub hl [1, 2, 3, 4, 0] rfl) h
      · replace h := h.2 c4
        refine lv_iload C.1 C.2.1 dX4_memberBehind_29 (lv_at hl 4 rfl) ?_
        exact hR _ _ _ _ _ _ dX4_memberBehind_31 h S
theorem kM_X4_memberBehind : s_M yX4_memberBehind cX4_memberBehind 6 (some .int) 3 := ⟨co_X4_memberBehind, in_X4, by decide, by decide, by decide +kernel⟩
set_option maxHeartbeats 4000000 in
set_option maxRecDepth 100000 in
theorem c_X4_memberBehind (l : Launch) (G : s_G) (x1 : Int32) (x2 : Int64) (σ : Sg) (post : Int32 → Sg → Prop) (h : wpX4_memberBehind x1 x2 σ post) : Met l yX4_memberBehind (wsU yX4_memberBehind cX4_memberBehind 6 (some .int)) rm_X4_memberBehind (va_Pc [.ref (G.2.2 + 97), .int x1, .long x2, .ref (G.2.2 + 5)] (s_Pre G σ)) (va_Qi post (s_B G) (s_A G.2.2)) 0 0 (s_A G.2.2) := by
  refine Met.ofW (cc := cX4_memberBehind) (maxL := 6) (ret := (some .int)) (by decide) rfl ?_
  intro p e s m args below meth c s₁ B hml hv
  obtain ⟨rfl, hP, hrok, hK, hN⟩ := hv
  have C : s_C G p s (([.ref (G.2.2 + 97), .int x1, .long x2, .ref (G.2.2 + 5)] : List Value).toArray) m c RX4 cX4_memberBehind := ⟨B.exec, B.bytes, findClass_of_methodNamed B.named, fun w hw => atoms_spec (ws := wsU yX4_memberBehind cX4_memberBehind 6 (some .int)) B.pre w (List.mem_cons_of_mem _ hw), hK, hN⟩
  have hr := B.returns
  have hlocks := B.notSynchronized
  have S : s_St G σ s.heap s.heap [] := ⟨hP, va_S.rf, hrok⟩
  have hcs : 0 ≤ (rm_X4_memberBehind).cells ∧ 0 ≤ (rm_X4_memberBehind).slots := ⟨Nat.le_refl 0, Nat.le_refl 0⟩
  have hR : ∀ (r : Int32) (σ1 : Sg) (H : Heap) (locs : List Loc) (pc : Nat) (ls : Array Slot), decode cX4_memberBehind pc = .ok (.ireturn, 1) → post r σ1 → s_St G σ1 s.heap H locs → W p l e rm_X4_memberBehind s m ([.ref (G.2.2 + 97), .int x1, .long x2, .ref (G.2.2 + 5)] : List Value).toArray below meth c H locs 0 0 (MQ below (va_Qi post (s_B G) (s_A G.2.2)) ([.ref (G.2.2 + 97), .int x1, .long x2, .ref (G.2.2 + 5)] : List Value).toArray s 0 0 (s_A G.2.2)) (F0 m pc ls [.int r]) := fun _ _ _ _ _ _ hd hp S => ret_i C hr hlocks hd hp S
  have hl := lv_entry ([.ref (G.2.2 + 97), .int x1, .long x2, .ref (G.2.2 + 5)]) (n := 6) (Nat.le_of_ble_eq_true rfl)
  rw [lg_entry_eq]
  generalize (lg_sl ([.ref (G.2.2 + 97), .int x1, .long x2, .ref (G.2.2 + 5)]) ++ List.replicate (6 - (lg_sl ([.ref (G.2.2 + 97), .int x1, .long x2, .ref (G.2.2 + 5)])).length) Slot.unset).toArray = ls at hl ⊢
  have hl : lv_has ls 6 [(0, .ref (G.2.2 + 97)), (1, .int x1), (2, .long x2), (4, .ref (G.2.2 + 5))] := hl
  unfold wpX4_memberBehind at h
  refine lv_iconst (v := (0 : Int32)) C.1 C.2.1 dX4_memberBehind_0 (by decide) ?_
  refine lv_istore (lv' := [(5, .int (0 : Int32)), (0, .ref (G.2.2 + 97)), (1, .int x1), (2, .long x2), (4, .ref (G.2.2 + 5))]) C.1 C.2.1 dX4_memberBehind_1 hl (by decide) rfl (fun ls hl => ?_)
  obtain ⟨nf, h⟩ := h
  exact TX4_memberBehind_3 C hml hcs hR nf ((0 : Int32)) S (lv_sub hl [1, 2, 3, 4, 0] rfl) h
/-! X4_memberOf -/
abbrev rm_X4_memberOf : Room := { frames := 5, cells := 0, slots := 0, locals := 120 }
def BX4_memberOf_72 (x2 : Int64) (x4 : Int32) (K22 : Int64 → Int32 → Int32 → Sg → Prop) (post : Int32 → Sg → Prop) (x5 : Int64) (x7 : Int32) (x8 : Int32) (y0 : Int32) (σ : Sg) : Prop := (((y0 < 0) → post y0 σ) ∧ ((¬ y0 < 0) → (((¬ x8 = x4) → wpX4_countBehind x7 y0 σ (fun r4 σ3 => wpX6_withOneMore x7 y0 σ3 (fun r6 σ5 => K22 ((x5 - r4)) r6 ((x8 + 1)) σ5))) ∧ ((x8 = x4) → post y0 σ))))
def BX4_memberOf_51 (x2 : Int64) (x4 : Int32) (K22 : Int64 → Int32 → Int32 → Sg → Prop) (post : Int32 → Sg → Prop) (x5 : Int64) (x7 : Int32) (x8 : Int32) (σ : Sg) : Prop := (((0 ≤ (lg_cmp x5 (0 : Int64))) → wpX4_memberBehind x7 x5 σ (fun r9 σ8 => BX4_memberOf_72 x2 x4 K22 post x5 x7 x8 r9 σ8)) ∧ ((¬ 0 ≤ (lg_cmp x5 (0 : Int64))) → BX4_memberOf_72 x2 x4 K22 post x5 x7 x8 ((-9 : Int32)) σ))
def BX4_memberOf_22 (x2 : Int64) (x4 : Int32) (post : Int32 → Sg → Prop) : Nat → Int64 → Int32 → Int32 → Sg → Prop
  | 0, _, _, _, _ => False
  | n + 1, x5, x7, x8, σ => (((x4 < x8) → post ((-9 : Int32)) σ) ∧ ((¬ x4 < x8) → ((((18 : Int32) ≤ x8) → post ((-9 : Int32)) σ) ∧ ((¬ (18 : Int32) ≤ x8) → wpX1_isEnough 5 x7 σ (fun r13 σ12 => (((r13 = 0) → BX4_memberOf_51 x2 x4 (BX4_memberOf_22 x2 x4 post n) post x5 x7 x8 σ12) ∧ ((¬ r13 = 0) → BX4_memberOf_51 x2 x4 (BX4_memberOf_22 x2 x4 post n) post ((x5 - (1 : Int64))) x7 x8 σ12)))))))
def wpX4_memberOf (x2 : Int64) (x4 : Int32) (σ : Sg) (post : Int32 → Sg → Prop) : Prop := wpX4_countFrom ((0 : Int32)) σ (fun r16 σ15 => ((((lg_cmp x2 r16) < 0) → ∃ nf, BX4_memberOf_22 x2 x4 post nf x2 ((0 : Int32)) ((0 : Int32)) σ15) ∧ ((¬ (lg_cmp x2 r16) < 0) → post ((-9 : Int32)) σ15)))
set_option maxHeartbeats 4000000 in
set_option maxRecDepth 100000 in
theorem TX4_memberOf_72 (C : s_C G p s args m c RX4 cX4_memberOf) (hml : c.maxLocals = 10) (hcs : cells ≤ (rm_X4_memberOf).cells ∧ slots ≤ (rm_X4_memberOf).slots) {x2 : Int64} {x4 : Int32} {K22 : Int64 → Int32 → Int32 → Sg → Prop} {post : Int32 → Sg → Prop} (hR : ∀ (r : Int32) (σ1 : Sg) (H : Heap) (locs : List Loc) (pc : Nat) (ls : Array Slot), decode cX4_memberOf pc = .ok (.ireturn, 1) → post r σ1 → s_St G σ1 H0 H locs → W p l e rm_X4_memberOf s m args below meth c H locs cells slots Q (F0 m pc ls [.int r])) (hK22 : ∀ (x5 : Int64) (x7 : Int32) (x8 : Int32), ∀ (σ : Sg) (H : Heap) (locs : List Loc) (ls : Array Slot), s_St G σ H0 H locs → lv_has ls 10 [(0, .ref (G.2.2 + 97)), (1, .ref (G.2.2 + 5)), (4, .int x4), (5, .long x5), (7, .int x7), (8, .int x8)] → K22 x5 x7 x8 σ → W p l e rm_X4_memberOf s m args below meth c H locs cells slots Q (F0 m 22 ls [])) : ∀ (x5 : Int64) (x7 : Int32) (x8 : Int32) (y0 : Int32), ∀ {σ : Sg} {H : Heap} {locs : List Loc} {ls : Array Slot}, s_St G σ H0 H locs → lv_has ls 10 [(0, .ref (G.2.2 + 97)), (1, .ref (G.2.2 + 5)), (4, .int x4), (5, .long x5), (7, .int x7), (8, .int x8)] → BX4_memberOf_72 x2 x4 K22 post x5 x7 x8 y0 σ → W p l e rm_X4_memberOf s m args below meth c H locs cells slots Q (F0 m 72 ls [.int y0]) := by
  intro x5 x7 x8 y0  σ H locs ls S hl h
  unfold BX4_memberOf_72 at h
  refine lv_istore (lv' := [(9, .int y0), (0, .ref (G.2.2 + 97)), (1, .ref (G.2.2 + 5)), (4, .int x4), (5, .long x5), (7, .int x7), (8, .int x8)]) C.1 C.2.1 dX4_memberOf_72 hl (by decide) rfl (fun ls hl => ?_)
  refine lv_iload C.1 C.2.1 dX4_memberOf_74 (lv_at hl 0 rfl) ?_
  refine lv_if_lt (tgt := 86) C.1 C.2.1 dX4_memberOf_76 (by decide) (fun c1 => ?_) (fun c1 => ?_)
  · replace h := h.1 c1
    refine lv_iload C.1 C.2.1 dX4_memberOf_86 (lv_at hl 0 rfl) ?_
    exact hR _ _ _ _ _ _ dX4_memberOf_88 h S
  · replace h := h.2 c1
    refine lv_iload C.1 C.2.1 dX4_memberOf_79 (lv_at hl 6 rfl) ?_
    refine lv_iload C.1 C.2.1 dX4_memberOf_81 (lv_at hl 3 rfl) ?_
    refine lv_icmp_ne (tgt := 89) C.1 C.2.1 dX4_memberOf_83 (by decide) (fun c2 => ?_) (fun c2 => ?_)
    · replace h := h.1 c2
      refine lv_lload C.1 C.2.1 dX4_memberOf_89 (lv_at hl 4 rfl) ?_
      refine lv_aload_n C.1 C.2.1 dX4_memberOf_91 rfl (lv_at hl 1 rfl) ?_
      refine lv_iload C.1 C.2.1 dX4_memberOf_92 (lv_at hl 5 rfl) ?_
      refine lv_iload C.1 C.2.1 dX4_memberOf_94 (lv_at hl 0 rfl) ?_
      refine lv_aload_n C.1 C.2.1 dX4_memberOf_96 rfl (lv_at hl 2 rfl) ?_
      refine k_l (r_V (As := [.int x7, .int y0, .ref (G.2.2 + 5)]) (rest := [.long x5]) C hml (c_X4_countBehind l G x7 y0 σ _ h) kM_X4_countBehind im_X4_countBehind se_X4_countBehind ml_X4_42 ⟨rfl, rfl⟩ ⟨Nat.le_of_ble_eq_true rfl, Nat.le_of_ble_eq_true rfl⟩ hcs S kd_97 (by decide) (T := TX4) (N := 2) rfl rfl hl.1 rfl (Nat.le_of_ble_eq_true rfl) dX4_memberOf_97) S (fun r4 σ3 H locs h S => ?_)
      refine lv_lsub C.1 C.2.1 dX4_memberOf_100 ?_
      refine lv_lstore (lv' := [(5, .long (x5 - r4)), (9, .int y0), (0, .ref (G.2.2 + 97)), (1, .ref (G.2.2 + 5)), (4, .int x4), (7, .int x7), (8, .int x8)]) C.1 C.2.1 dX4_memberOf_101 hl (by decide) rfl (fun ls hl => ?_)
      refine lv_iload C.1 C.2.1 dX4_memberOf_103 (lv_at hl 5 rfl) ?_
      refine lv_iload C.1 C.2.1 dX4_memberOf_105 (lv_at hl 1 rfl) ?_
      refine k_i (r_SN (As := [.int x7, .int y0]) (rest := []) C hml (c_X6_withOneMore l G x7 y0 σ3 _ h) kM_X6_withOneMore st_X6_withOneMore nm_X4_52 ⟨rfl, rfl⟩ ⟨Nat.le_of_ble_eq_true rfl, Nat.le_of_ble_eq_true rfl⟩ hcs S rfl hl.1 rfl (Nat.le_of_ble_eq_true rfl) dX4_memberOf_107) S (fun r6 σ5 H locs h S => ?_)
      refine lv_istore (lv' := [(7, .int r6), (5, .long (x5 - r4)), (9, .int y0), (0, .ref (G.2.2 + 97)), (1, .ref (G.2.2 + 5)), (4, .int x4), (8, .int x8)]) C.1 C.2.1 dX4_memberOf_110 hl (by decide) rfl (fun ls hl => ?_)
      refine lv_iinc (v := (x8 + 1)) (lv' := [(8, .int (x8 + 1)), (7, .int r6), (5, .long (x5 - r4)), (9, .int y0), (0, .ref (G.2.2 + 97)), (1, .ref (G.2.2 + 5)), (4, .int x4)]) C.1 C.2.1 dX4_memberOf_112 hl (k := 6) rfl rfl (by decide) rfl (fun ls hl => ?_)
      refine lv_goto (tgt := 22) C.1 C.2.1 dX4_memberOf_115 (by decide) ?_
      exact hK22 ((x5 - r4)) r6 ((x8 + 1)) _ _ _ _ S (lv_sub hl [4, 5, 6, 2, 1, 0] rfl) h
    · replace h := h.2 c2
      refine lv_iload C.1 C.2.1 dX4_memberOf_86 (lv_at hl 0 rfl) ?_
      exact hR _ _ _ _ _ _ dX4_memberOf_88 h S
set_option maxHeartbeats 4000000 in
set_option maxRecDepth 100000 in
theorem TX4_memberOf_51 (C : s_C G p s args m c RX4 cX4_memberOf) (hml : c.maxLocals = 10) (hcs : cells ≤ (rm_X4_memberOf).cells ∧ slots ≤ (rm_X4_memberOf).slots) {x2 : Int64} {x4 : Int32} {K22 : Int64 → Int32 → Int32 → Sg → Prop} {post : Int32 → Sg → Prop} (hR : ∀ (r : Int32) (σ1 : Sg) (H : Heap) (locs : List Loc) (pc : Nat) (ls : Array Slot), decode cX4_memberOf pc = .ok (.ireturn, 1) → post r σ1 → s_St G σ1 H0 H locs → W p l e rm_X4_memberOf s m args below meth c H locs cells slots Q (F0 m pc ls [.int r])) (hK22 : ∀ (x5 : Int64) (x7 : Int32) (x8 : Int32), ∀ (σ : Sg) (H : Heap) (locs : List Loc) (ls : Array Slot), s_St G σ H0 H locs → lv_has ls 10 [(0, .ref (G.2.2 + 97)), (1, .ref (G.2.2 + 5)), (4, .int x4), (5, .long x5), (7, .int x7), (8, .int x8)] → K22 x5 x7 x8 σ → W p l e rm_X4_memberOf s m args below meth c H locs cells slots Q (F0 m 22 ls [])) : ∀ (x5 : Int64) (x7 : Int32) (x8 : Int32), ∀ {σ : Sg} {H : Heap} {locs : List Loc} {ls : Array Slot}, s_St G σ H0 H locs → lv_has ls 10 [(0, .ref (G.2.2 + 97)), (1, .ref (G.2.2 + 5)), (4, .int x4), (5, .long x5), (7, .int x7), (8, .int x8)] → BX4_memberOf_51 x2 x4 K22 post x5 x7 x8 σ → W p l e rm_X4_memberOf s m args below meth c H locs cells slots Q (F0 m 51 ls []) := by
  intro x5 x7 x8  σ H locs ls S hl h
  unfold BX4_memberOf_51 at h
  refine lv_lload C.1 C.2.1 dX4_memberOf_51 (lv_at hl 3 rfl) ?_
  refine lv_lconst (v := (0 : Int64)) C.1 C.2.1 dX4_memberOf_53 (by decide) ?_
  refine W.lcmp C.1 C.2.1 dX4_memberOf_54 ?_
  refine lv_if_ge (tgt := 63) C.1 C.2.1 dX4_memberOf_55 (by decide) (fun c7 => ?_) (fun c7 => ?_)
  · replace h := h.1 c7
    refine lv_aload_n C.1 C.2.1 dX4_memberOf_63 rfl (lv_at hl 0 rfl) ?_
    refine lv_iload C.1 C.2.1 dX4_memberOf_64 (lv_at hl 4 rfl) ?_
    refine lv_lload C.1 C.2.1 dX4_memberOf_66 (lv_at hl 3 rfl) ?_
    refine lv_aload_n C.1 C.2.1 dX4_memberOf_68 rfl (lv_at hl 1 rfl) ?_
    refine k_i (r_V (As := [.int x7, .long x5, .ref (G.2.2 + 5)]) (rest := []) C hml (c_X4_memberBehind l G x7 x5 σ _ h) kM_X4_memberBehind im_X4_memberBehind se_X4_memberBehind ml_X4_59 ⟨rfl, rfl⟩ ⟨Nat.le_of_ble_eq_true rfl, Nat.le_of_ble_eq_true rfl⟩ hcs S kd_97 (by decide) (T := TX4) (N := 2) rfl rfl hl.1 rfl (Nat.le_of_ble_eq_true rfl) dX4_memberOf_69) S (fun r9 σ8 H locs h S => ?_)
    exact TX4_memberOf_72 C hml hcs hR hK22 x5 x7 x8 r9 S (lv_sub hl [0, 1, 2, 3, 4, 5] rfl) h
  · replace h := h.2 c7
    refine lv_bipush (v := (-9 : Int32)) C.1 C.2.1 dX4_memberOf_58 (by decide) ?_
    refine lv_goto (tgt := 72) C.1 C.2.1 dX4_memberOf_60 (by decide) ?_
    exact TX4_memberOf_72 C hml hcs hR hK22 x5 x7 x8 ((-9 : Int32)) S (lv_sub hl [0, 1, 2, 3, 4, 5] rfl) h
set_option maxHeartbeats 4000000 in
set_option maxRecDepth 100000 in
theorem TX4_memberOf_22 (C : s_C G p s args m c RX4 cX4_memberOf) (hml : c.maxLocals = 10) (hcs : cells ≤ (rm_X4_memberOf).cells ∧ slots ≤ (rm_X4_memberOf).slots) {x2 : Int64} {x4 : Int32} {post : Int32 → Sg → Prop} (hR : ∀ (r : Int32) (σ1 : Sg) (H : Heap) (locs : List Loc) (pc : Nat) (ls : Array Slot), decode cX4_memberOf pc = .ok (.ireturn, 1) → post r σ1 → s_St G σ1 H0 H locs → W p l e rm_X4_memberOf s m args below meth c H locs cells slots Q (F0 m pc ls [.int r])) : ∀ (n : Nat) (x5 : Int64) (x7 : Int32) (x8 : Int32), ∀ {σ : Sg} {H : Heap} {locs : List Loc} {ls : Array Slot}, s_St G σ H0 H locs → lv_has ls 10 [(0, .ref (G.2.2 + 97)), (1, .ref (G.2.2 + 5)), (4, .int x4), (5, .long x5), (7, .int x7), (8, .int x8)] → BX4_memberOf_22 x2 x4 post n x5 x7 x8 σ → W p l e rm_X4_memberOf s m args below meth c H locs cells slots Q (F0 m 22 ls []) := by
  intro n
  induction n with
  | zero =>
    intro x5 x7 x8  σ H locs ls S hl h
    exact absurd h (fun h => h)
  | succ n ih0 =>
    have ih : ∀ (x5 : Int64) (x7 : Int32) (x8 : Int32), ∀ (σ : Sg) (H : Heap) (locs : List Loc) (ls : Array Slot), s_St G σ H0 H locs → lv_has ls 10 [(0, .ref (G.2.2 + 97)), (1, .ref (G.2.2 + 5)), (4, .int x4), (5, .long x5), (7, .int x7), (8, .int x8)] → BX4_memberOf_22 x2 x4 post n x5 x7 x8 σ → W p l e rm_X4_memberOf s m args below meth c H locs cells slots Q (F0 m 22 ls []) := fun x5 x7 x8  _ _ _ _ => ih0 x5 x7 x8 
    intro x5 x7 x8  σ H locs ls S hl h
    refine lv_iload C.1 C.2.1 dX4_memberOf_22 (lv_at hl 5 rfl) ?_
    refine lv_iload C.1 C.2.1 dX4_memberOf_24 (lv_at hl 2 rfl) ?_
    refine lv_icmp_gt (tgt := 118) C.1 C.2.1 dX4_memberOf_26 (by decide) (fun c10 => ?_) (fun c10 => ?_)
    · replace h := h.1 c10
      refine lv_bipush (v := (-9 : Int32)) C.1 C.2.1 dX4_memberOf_118 (by decide) ?_
      exact hR _ _ _ _ _ _ dX4_memberOf_120 h S
    · replace h := h.2 c10
      refine lv_iload C.1 C.2.1 dX4_memberOf_29 (lv_at hl 5 rfl) ?_
      refine lv_bipush (v := (18 : Int32)) C.1 C.2.1 dX4_memberOf_31 (by decide) ?_
      refine lv_icmp_ge (tgt := 118) C.1 C.2.1 dX4_memberOf_33 (by decide) (fun c11 => ?_) (fun c11 => ?_)
      · replace h := h.1 c11
        refine lv_bipush (v := (-9 : Int32)) C.1 C.2.1 dX4_memberOf_118 (by decide) ?_
        exact hR _ _ _ _ _ _ dX4_memberOf_120 h S
      · replace h := h.2 c11
        refine lv_aload_n C.1 C.2.1 dX4_memberOf_36 rfl (lv_at hl 1 rfl) ?_
        refine lv_iload C.1 C.2.1 dX4_memberOf_37 (lv_at hl 4 rfl) ?_
        refine k_i (r_VN (As := [.int x7]) (rest := []) C hml (c_X1_isEnough l G 5 x7 σ _ kd_5 h) kM_X1_isEnough im_X1_isEnough se_X1_isEnough nm_X4_35 ⟨rfl, rfl⟩ ⟨Nat.le_of_ble_eq_true rfl, Nat.le_of_ble_eq_true rfl⟩ hcs S kd_5 (by decide) (T := TX1) (N := 4) rfl rfl hl.1 rfl (Nat.le_of_ble_eq_true rfl) dX4_memberOf_39) S (fun r13 σ12 H locs h S => ?_)
        refine lv_if_eq (tgt := 51) C.1 C.2.1 dX4_memberOf_42 (by decide) (fun c14 => ?_) (fun c14 => ?_)
        · replace h := h.1 c14
          exact TX4_memberOf_51 C hml hcs hR ih x5 x7 x8 S (lv_sub hl [0, 1, 2, 3, 4, 5] rfl) h
        · replace h := h.2 c14
          refine lv_lload C.1 C.2.1 dX4_memberOf_45 (lv_at hl 3 rfl) ?_
          refine lv_lconst (v := (1 : Int64)) C.1 C.2.1 dX4_memberOf_47 (by decide) ?_
          refine lv_lsub C.1 C.2.1 dX4_memberOf_48 ?_
          refine lv_lstore (lv' := [(5, .long (x5 - (1 : Int64))), (0, .ref (G.2.2 + 97)), (1, .ref (G.2.2 + 5)), (4, .int x4), (7, .int x7), (8, .int x8)]) C.1 C.2.1 dX4_memberOf_49 hl (by decide) rfl (fun ls hl => ?_)
          exact TX4_memberOf_51 C hml hcs hR ih ((x5 - (1 : Int64))) x7 x8 S (lv_sub hl [1, 2, 3, 0, 4, 5] rfl) h
theorem kM_X4_memberOf : s_M yX4_memberOf cX4_memberOf 10 (some .int) 3 := ⟨co_X4_memberOf, in_X4, by decide, by decide, by decide +kernel⟩
set_option maxHeartbeats 4000000 in
set_option maxRecDepth 100000 in
theorem c_X4_memberOf (l : Launch) (G : s_G) (x2 : Int64) (x4 : Int32) (σ : Sg) (post : Int32 → Sg → Prop) (h : wpX4_memberOf x2 x4 σ post) : Met l yX4_memberOf (wsU yX4_memberOf cX4_memberOf 10 (some .int)) rm_X4_memberOf (va_Pc [.ref (G.2.2 + 97), .ref (G.2.2 + 5), .long x2, .int x4] (s_Pre G σ)) (va_Qi post (s_B G) (s_A G.2.2)) 0 0 (s_A G.2.2) := by
  refine Met.ofW (cc := cX4_memberOf) (maxL := 10) (ret := (some .int)) (by decide) rfl ?_
  intro p e s m args below meth c s₁ B hml hv
  obtain ⟨rfl, hP, hrok, hK, hN⟩ := hv
  have C : s_C G p s (([.ref (G.2.2 + 97), .ref (G.2.2 + 5), .long x2, .int x4] : List Value).toArray) m c RX4 cX4_memberOf := ⟨B.exec, B.bytes, findClass_of_methodNamed B.named, fun w hw => atoms_spec (ws := wsU yX4_memberOf cX4_memberOf 10 (some .int)) B.pre w (List.mem_cons_of_mem _ hw), hK, hN⟩
  have hr := B.returns
  have hlocks := B.notSynchronized
  have S : s_St G σ s.heap s.heap [] := ⟨hP, va_S.rf, hrok⟩
  have hcs : 0 ≤ (rm_X4_memberOf).cells ∧ 0 ≤ (rm_X4_memberOf).slots := ⟨Nat.le_refl 0, Nat.le_refl 0⟩
  have hR : ∀ (r : Int32) (σ1 : Sg) (H : Heap) (locs : List Loc) (pc : Nat) (ls : Array Slot), decode cX4_memberOf pc = .ok (.ireturn, 1) → post r σ1 → s_St G σ1 s.heap H locs → W p l e rm_X4_memberOf s m ([.ref (G.2.2 + 97), .ref (G.2.2 + 5), .long x2, .int x4] : List Value).toArray below meth c H locs 0 0 (MQ below (va_Qi post (s_B G) (s_A G.2.2)) ([.ref (G.2.2 + 97), .ref (G.2.2 + 5), .long x2, .int x4] : List Value).toArray s 0 0 (s_A G.2.2)) (F0 m pc ls [.int r]) := fun _ _ _ _ _ _ hd hp S => ret_i C hr hlocks hd hp S
  have hl := lv_entry ([.ref (G.2.2 + 97), .ref (G.2.2 + 5), .long x2, .int x4]) (n := 10) (Nat.le_of_ble_eq_true rfl)
  rw [lg_entry_eq]
  generalize (lg_sl ([.ref (G.2.2 + 97), .ref (G.2.2 + 5), .long x2, .int x4]) ++ List.replicate (10 - (lg_sl ([.ref (G.2.2 + 97), .ref (G.2.2 + 5), .long x2, .int x4])).length) Slot.unset).toArray = ls at hl ⊢
  have hl : lv_has ls 10 [(0, .ref (G.2.2 + 97)), (1, .ref (G.2.2 + 5)), (2, .long x2), (4, .int x4)] := hl
  unfold wpX4_memberOf at h
  refine lv_lload_n C.1 C.2.1 dX4_memberOf_0 rfl (lv_at hl 2 rfl) ?_
  refine lv_aload_n C.1 C.2.1 dX4_memberOf_1 rfl (lv_at hl 0 rfl) ?_
  refine lv_iconst (v := (0 : Int32)) C.1 C.2.1 dX4_memberOf_2 (by decide) ?_
  refine k_l (r_V (As := [.int (0 : Int32)]) (rest := [.long x2]) C hml (c_X4_countFrom l G ((0 : Int32)) σ _ h) kM_X4_countFrom im_X4_countFrom se_X4_countFrom ml_X4_55 ⟨rfl, rfl⟩ ⟨Nat.le_of_ble_eq_true rfl, Nat.le_of_ble_eq_true rfl⟩ hcs S kd_97 (by decide) (T := TX4) (N := 2) rfl rfl hl.1 rfl (Nat.le_of_ble_eq_true rfl) dX4_memberOf_3) S (fun r16 σ15 H locs h S => ?_)
  refine W.lcmp C.1 C.2.1 dX4_memberOf_6 ?_
  refine lv_if_lt (tgt := 13) C.1 C.2.1 dX4_memberOf_7 (by decide) (fun c17 => ?_) (fun c17 => ?_)
  · replace h := h.1 c17
    refine lv_lload_n C.1 C.2.1 dX4_memberOf_13 rfl (lv_at hl 2 rfl) ?_
    refine lv_lstore (lv' := [(5, .long x2), (0, .ref (G.2.2 + 97)), (1, .ref (G.2.2 + 5)), (2, .long x2), (4, .int x4)]) C.1 C.2.1 dX4_memberOf_14 hl (by decide) rfl (fun ls hl => ?_)
    refine lv_iconst (v := (0 : Int32)) C.1 C.2.1 dX4_memberOf_16 (by decide) ?_
    refine lv_istore (lv' := [(7, .int (0 : Int32)), (5, .long x2), (0, .ref (G.2.2 + 97)), (1, .ref (G.2.2 + 5)), (2, .long x2), (4, .int x4)]) C.1 C.2.1 dX4_memberOf_17 hl (by decide) rfl (fun ls hl => ?_)
    refine lv_iconst (v := (0 : Int32)) C.1 C.2.1 dX4_memberOf_19 (by decide) ?_
    refine lv_istore (lv' := [(8, .int (0 : Int32)), (7, .int (0 : Int32)), (5, .long x2), (0, .ref (G.2.2 + 97)), (1, .ref (G.2.2 + 5)), (2, .long x2), (4, .int x4)]) C.1 C.2.1 dX4_memberOf_20 hl (by decide) rfl (fun ls hl => ?_)
    obtain ⟨nf, h⟩ := h
    exact TX4_memberOf_22 C hml hcs hR nf x2 ((0 : Int32)) ((0 : Int32)) S (lv_sub hl [3, 4, 6, 2, 1, 0] rfl) h
  · replace h := h.2 c17
    refine lv_bipush (v := (-9 : Int32)) C.1 C.2.1 dX4_memberOf_10 (by decide) ?_
    exact hR _ _ _ _ _ _ dX4_memberOf_12 h S
/-! X5_memberAt -/
abbrev rm_X5_memberAt : Room := { frames := 0, cells := 0, slots := 0, locals := 0 }
def wpX5_memberAt (x1 : Int32) (σ : Sg) (post : Int32 → Sg → Prop) : Prop := (((x1 < 0) → post ((-9 : Int32)) σ) ∧ ((¬ x1 < 0) → ((((σ.1 90 6) ≤ x1) → post ((-9 : Int32)) σ) ∧ ((¬ (σ.1 90 6) ≤ x1) → ((((18 : Int32) ≤ x1) → post ((-9 : Int32)) σ) ∧ ((¬ (18 : Int32) ≤ x1) → (vp_in x1 18 ∧ post ((σ.1 94 (x1).toNatClampNeg)) σ)))))))
theorem kM_X5_memberAt : s_M yX5_memberAt cX5_memberAt 2 (some .int) 1 := ⟨co_X5_memberAt, in_X5, by decide, by decide, by decide +kernel⟩
set_option maxHeartbeats 4000000 in
set_option maxRecDepth 100000 in
theorem c_X5_memberAt (l : Launch) (G : s_G) (x1 : Int32) (σ : Sg) (post : Int32 → Sg → Prop) (h : wpX5_memberAt x1 σ post) : Met l yX5_memberAt (wsU yX5_memberAt cX5_memberAt 2 (some .int)) rm_X5_memberAt (va_Pc [.ref (G.2.2 + 90), .int x1] (s_Pre G σ)) (va_Qi post (s_B G) (s_A G.2.2)) 0 0 (s_A G.2.2) := by
  refine Met.ofW (cc := cX5_memberAt) (maxL := 2) (ret := (some .int)) (by decide) rfl ?_
  intro p e s m args below meth c s₁ B hml hv
  obtain ⟨rfl, hP, hrok, hK, hN⟩ := hv
  have C : s_C G p s (([.ref (G.2.2 + 90), .int x1] : List Value).toArray) m c RX5 cX5_memberAt := ⟨B.exec, B.bytes, findClass_of_methodNamed B.named, fun w hw => atoms_spec (ws := wsU yX5_memberAt cX5_memberAt 2 (some .int)) B.pre w (List.mem_cons_of_mem _ hw), hK, hN⟩
  have hr := B.returns
  have hlocks := B.notSynchronized
  have S : s_St G σ s.heap s.heap [] := ⟨hP, va_S.rf, hrok⟩
  have hcs : 0 ≤ (rm_X5_memberAt).cells ∧ 0 ≤ (rm_X5_memberAt).slots := ⟨Nat.le_refl 0, Nat.le_refl 0⟩
  have hR : ∀ (r : Int32) (σ1 : Sg) (H : Heap) (locs : List Loc) (pc : Nat) (ls : Array Slot), decode cX5_memberAt pc = .ok (.ireturn, 1) → post r σ1 → s_St G σ1 s.heap H locs → W p l e rm_X5_memberAt s m ([.ref (G.2.2 + 90), .int x1] : List Value).toArray below meth c H locs 0 0 (MQ below (va_Qi post (s_B G) (s_A G.2.2)) ([.ref (G.2.2 + 90), .int x1] : List Value).toArray s 0 0 (s_A G.2.2)) (F0 m pc ls [.int r]) := fun _ _ _ _ _ _ hd hp S => ret_i C hr hlocks hd hp S
  have hl := lv_entry ([.ref (G.2.2 + 90), .int x1]) (n := 2) (Nat.le_of_ble_eq_true rfl)
  rw [lg_entry_eq]
  generalize (lg_sl ([.ref (G.2.2 + 90), .int x1]) ++ List.replicate (2 - (lg_sl ([.ref (G.2.2 + 90), .int x1])).length) Slot.unset).toArray = ls at hl ⊢
  have hl : lv_has ls 2 [(0, .ref (G.2.2 + 90)), (1, .int x1)] := hl
  unfold wpX5_memberAt at h
  refine lv_iload_n C.1 C.2.1 dX5_memberAt_0 rfl (lv_at hl 1 rfl) ?_
  refine lv_if_lt (tgt := 30) C.1 C.2.1 dX5_memberAt_1 (by decide) (fun c1 => ?_) (fun c1 => ?_)
  · replace h := h.1 c1
    refine lv_bipush (v := (-9 : Int32)) C.1 C.2.1 dX5_memberAt_30 (by decide) ?_
    exact hR _ _ _ _ _ _ dX5_memberAt_32 h S
  · replace h := h.2 c1
    refine lv_iload_n C.1 C.2.1 dX5_memberAt_4 rfl (lv_at hl 1 rfl) ?_
    refine lv_aload_n C.1 C.2.1 dX5_memberAt_5 rfl (lv_at hl 0 rfl) ?_
    refine g_X5_6 C fl_X5_49 kd_90 S dX5_memberAt_6 ?_
    refine lv_icmp_ge (tgt := 30) C.1 C.2.1 dX5_memberAt_9 (by decide) (fun c2 => ?_) (fun c2 => ?_)
    · replace h := h.1 c2
      refine lv_bipush (v := (-9 : Int32)) C.1 C.2.1 dX5_memberAt_30 (by decide) ?_
      exact hR _ _ _ _ _ _ dX5_memberAt_32 h S
    · replace h := h.2 c2
      refine lv_iload_n C.1 C.2.1 dX5_memberAt_12 rfl (lv_at hl 1 rfl) ?_
      refine lv_aload_n C.1 C.2.1 dX5_memberAt_13 rfl (lv_at hl 0 rfl) ?_
      refine g_X5_3 C fl_X5_22 kd_90 S fn_90_3 dX5_memberAt_14 ?_
      refine a_len8 C kd_94 S (v := (18 : Int32)) (by rw [ln_94]; rfl) dX5_memberAt_17 ?_
      refine lv_icmp_ge (tgt := 30) C.1 C.2.1 dX5_memberAt_18 (by decide) (fun c3 => ?_) (fun c3 => ?_)
      · replace h := h.1 c3
        refine lv_bipush (v := (-9 : Int32)) C.1 C.2.1 dX5_memberAt_30 (by decide) ?_
        exact hR _ _ _ _ _ _ dX5_memberAt_32 h S
      · replace h := h.2 c3
        refine lv_aload_n C.1 C.2.1 dX5_memberAt_21 rfl (lv_at hl 0 rfl) ?_
        refine g_X5_3 C fl_X5_22 kd_90 S fn_90_3 dX5_memberAt_22 ?_
        refine lv_iload_n C.1 C.2.1 dX5_memberAt_25 rfl (lv_at hl 1 rfl) ?_
        refine a_ild C kd_94 S ln_94 h.1 dX5_memberAt_26 ?_
        replace h := h.2
        refine lv_goto (tgt := 32) C.1 C.2.1 dX5_memberAt_27 (by decide) ?_
        exact hR _ _ _ _ _ _ dX5_memberAt_32 h S
/-! X4_numberOf -/
abbrev rm_X4_numberOf : Room := { frames := 4, cells := 0, slots := 0, locals := 95 }
def BX4_numberOf_30  (K8 : Int64 → Int32 → Int32 → Sg → Prop) (post : Int64 → Sg → Prop) (x3 : Int64) (x5 : Int32) (x6 : Int32) (σ : Sg) : Prop := wpX5_memberAt x6 σ (fun r2 σ1 => wpX4_countBehind x5 r2 σ1 (fun r4 σ3 => wpX5_memberAt x6 σ3 (fun r6 σ5 => wpX6_withOneMore x5 r6 σ5 (fun r8 σ7 => K8 ((x3 + r4)) r8 ((x6 + 1)) σ7))))
def BX4_numberOf_8  (post : Int64 → Sg → Prop) : Nat → Int64 → Int32 → Int32 → Sg → Prop
  | 0, _, _, _, _ => False
  | n + 1, x3, x5, x6, σ => ((((σ.1 90 6) ≤ x6) → post x3 σ) ∧ ((¬ (σ.1 90 6) ≤ x6) → wpX1_isEnough 5 x5 σ (fun r11 σ10 => (((r11 = 0) → BX4_numberOf_30 (BX4_numberOf_8 post n) post x3 x5 x6 σ10) ∧ ((¬ r11 = 0) → BX4_numberOf_30 (BX4_numberOf_8 post n) post ((x3 + (1 : Int64))) x5 x6 σ10)))))
def wpX4_numberOf  (σ : Sg) (post : Int64 → Sg → Prop) : Prop := ∃ nf, BX4_numberOf_8 post nf ((0 : Int64)) ((0 : Int32)) ((0 : Int32)) σ
set_option maxHeartbeats 4000000 in
set_option maxRecDepth 100000 in
theorem TX4_numberOf_30 (C : s_C G p s args m c RX4 cX4_numberOf) (hml : c.maxLocals = 7) (hcs : cells ≤ (rm_X4_numberOf).cells ∧ slots ≤ (rm_X4_numberOf).slots)  {K8 : Int64 → Int32 → Int32 → Sg → Prop} {post : Int64 → Sg → Prop} (hR : ∀ (r : Int64) (σ1 : Sg) (H : Heap) (locs : List Loc) (pc : Nat) (ls : Array Slot), decode cX4_numberOf pc = .ok (.lreturn, 1) → post r σ1 → s_St G σ1 H0 H locs → W p l e rm_X4_numberOf s m args below meth c H locs cells slots Q (F0 m pc ls [.long r])) (hK8 : ∀ (x3 : Int64) (x5 : Int32) (x6 : Int32), ∀ (σ : Sg) (H : Heap) (locs : List Loc) (ls : Array Slot), s_St G σ H0 H locs → lv_has ls 7 [(0, .ref (G.2.2 + 97)), (1, .ref (G.2.2 + 5)), (2, .ref (G.2.2 + 90)), (3, .long x3), (5, .int x5), (6, .int x6)] → K8 x3 x5 x6 σ → W p l e rm_X4_numberOf s m args below meth c H locs cells slots Q (F0 m 8 ls [])) : ∀ (x3 : Int64) (x5 : Int32) (x6 : Int32), ∀ {σ : Sg} {H : Heap} {locs : List Loc} {ls : Array Slot}, s_St G σ H0 H locs → lv_has ls 7 [(0, .ref (G.2.2 + 97)), (1, .ref (G.2.2 + 5)), (2, .ref (G.2.2 + 90)), (3, .long x3), (5, .int x5), (6, .int x6)] → BX4_numberOf_30 K8 post x3 x5 x6 σ → W p l e rm_X4_numberOf s m args below meth c H locs cells slots Q (F0 m 30 ls []) := by
  intro x3 x5 x6  σ H locs ls S hl h
  unfold BX4_numberOf_30 at h
  refine lv_lload_n C.1 C.2.1 dX4_numberOf_30 rfl (lv_at hl 3 rfl) ?_
  refine lv_aload_n C.1 C.2.1 dX4_numberOf_31 rfl (lv_at hl 0 rfl) ?_
  refine lv_iload C.1 C.2.1 dX4_numberOf_32 (lv_at hl 4 rfl) ?_
  refine lv_aload_n C.1 C.2.1 dX4_numberOf_34 rfl (lv_at hl 2 rfl) ?_
  refine lv_iload C.1 C.2.1 dX4_numberOf_35 (lv_at hl 5 rfl) ?_
  refine k_i (r_VN (As := [.int x6]) (rest := [.int x5, .ref (G.2.2 + 97), .long x3]) C hml (c_X5_memberAt l G x6 σ _ h) kM_X5_memberAt im_X5_memberAt se_X5_memberAt nm_X4_66 ⟨rfl, rfl⟩ ⟨Nat.le_of_ble_eq_true rfl, Nat.le_of_ble_eq_true rfl⟩ hcs S kd_90 (by decide) (T := TX5) (N := 8) rfl rfl hl.1 rfl (Nat.le_of_ble_eq_true rfl) dX4_numberOf_37) S (fun r2 σ1 H locs h S => ?_)
  refine lv_aload_n C.1 C.2.1 dX4_numberOf_40 rfl (lv_at hl 1 rfl) ?_
  refine k_l (r_V (As := [.int x5, .int r2, .ref (G.2.2 + 5)]) (rest := [.long x3]) C hml (c_X4_countBehind l G x5 r2 σ1 _ h) kM_X4_countBehind im_X4_countBehind se_X4_countBehind ml_X4_42 ⟨rfl, rfl⟩ ⟨Nat.le_of_ble_eq_true rfl, Nat.le_of_ble_eq_true rfl⟩ hcs S kd_97 (by decide) (T := TX4) (N := 2) rfl rfl hl.1 rfl (Nat.le_of_ble_eq_true rfl) dX4_numberOf_41) S (fun r4 σ3 H locs h S => ?_)
  refine lv_ladd C.1 C.2.1 dX4_numberOf_44 ?_
  refine lv_lstore_n (lv' := [(3, .long (x3 + r4)), (0, .ref (G.2.2 + 97)), (1, .ref (G.2.2 + 5)), (2, .ref (G.2.2 + 90)), (5, .int x5), (6, .int x6)]) C.1 C.2.1 dX4_numberOf_45 rfl hl (by decide) rfl (fun ls hl => ?_)
  refine lv_iload C.1 C.2.1 dX4_numberOf_46 (lv_at hl 4 rfl) ?_
  refine lv_aload_n C.1 C.2.1 dX4_numberOf_48 rfl (lv_at hl 3 rfl) ?_
  refine lv_iload C.1 C.2.1 dX4_numberOf_49 (lv_at hl 5 rfl) ?_
  refine k_i (r_VN (As := [.int x6]) (rest := [.int x5]) C hml (c_X5_memberAt l G x6 σ3 _ h) kM_X5_memberAt im_X5_memberAt se_X5_memberAt nm_X4_66 ⟨rfl, rfl⟩ ⟨Nat.le_of_ble_eq_true rfl, Nat.le_of_ble_eq_true rfl⟩ hcs S kd_90 (by decide) (T := TX5) (N := 8) rfl rfl hl.1 rfl (Nat.le_of_ble_eq_true rfl) dX4_numberOf_51) S (fun r6 σ5 H locs h S => ?_)
  refine k_i (r_SN (As := [.int x5, .int r6]) (rest := []) C hml (c_X6_withOneMore l G x5 r6 σ5 _ h) kM_X6_withOneMore st_X6_withOneMore nm_X4_52 ⟨rfl, rfl⟩ ⟨Nat.le_of_ble_eq_true rfl, Nat.le_of_ble_eq_true rfl⟩ hcs S rfl hl.1 rfl (Nat.le_of_ble_eq_true rfl) dX4_numberOf_54) S (fun r8 σ7 H locs h S => ?_)
  refine lv_istore (lv' := [(5, .int r8), (3, .long (x3 + r4)), (0, .ref (G.2.2 + 97)), (1, .ref (G.2.2 + 5)), (2, .ref (G.2.2 + 90)), (6, .int x6)]) C.1 C.2.1 dX4_numberOf_57 hl (by decide) rfl (fun ls hl => ?_)
  refine lv_iinc (v := (x6 + 1)) (lv' := [(6, .int (x6 + 1)), (5, .int r8), (3, .long (x3 + r4)), (0, .ref (G.2.2 + 97)), (1, .ref (G.2.2 + 5)), (2, .ref (G.2.2 + 90))]) C.1 C.2.1 dX4_numberOf_59 hl (k := 5) rfl rfl (by decide) rfl (fun ls hl => ?_)
  refine lv_goto (tgt := 8) C.1 C.2.1 dX4_numberOf_62 (by decide) ?_
  exact hK8 ((x3 + r4)) r8 ((x6 + 1)) _ _ _ _ S (lv_sub hl [3, 4, 5, 2, 1, 0] rfl) h
set_option maxHeartbeats 4000000 in
set_option maxRecDepth 100000 in
theorem TX4_numberOf_8 (C : s_C G p s args m c RX4 cX4_numberOf) (hml : c.maxLocals = 7) (hcs : cells ≤ (rm_X4_numberOf).cells ∧ slots ≤ (rm_X4_numberOf).slots)  {post : Int64 → Sg → Prop} (hR : ∀ (r : Int64) (σ1 : Sg) (H : Heap) (locs : List Loc) (pc : Nat) (ls : Array Slot), decode cX4_numberOf pc = .ok (.lreturn, 1) → post r σ1 → s_St G σ1 H0 H locs → W p l e rm_X4_numberOf s m args below meth c H locs cells slots Q (F0 m pc ls [.long r])) : ∀ (n : Nat) (x3 : Int64) (x5 : Int32) (x6 : Int32), ∀ {σ : Sg} {H : Heap} {locs : List Loc} {ls : Array Slot}, s_St G σ H0 H locs → lv_has ls 7 [(0, .ref (G.2.2 + 97)), (1, .ref (G.2.2 + 5)), (2, .ref (G.2.2 + 90)), (3, .long x3), (5, .int x5), (6, .int x6)] → BX4_numberOf_8 post n x3 x5 x6 σ → W p l e rm_X4_numberOf s m args below meth c H locs cells slots Q (F0 m 8 ls []) := by
  intro n
  induction n with
  | zero =>
    intro x3 x5 x6  σ H locs ls S hl h
    exact absurd h (fun h => h)
  | succ n ih0 =>
    have ih : ∀ (x3 : Int64) (x5 : Int32) (x6 : Int32), ∀ (σ : Sg) (H : Heap) (locs : List Loc) (ls : Array Slot), s_St G σ H0 H locs → lv_has ls 7 [(0, .ref (G.2.2 + 97)), (1, .ref (G.2.2 + 5)), (2, .ref (G.2.2 + 90)), (3, .long x3), (5, .int x5), (6, .int x6)] → BX4_numberOf_8 post n x3 x5 x6 σ → W p l e rm_X4_numberOf s m args below meth c H locs cells slots Q (F0 m 8 ls []) := fun x3 x5 x6  _ _ _ _ => ih0 x3 x5 x6 
    intro x3 x5 x6  σ H locs ls S hl h
    refine lv_iload C.1 C.2.1 dX4_numberOf_8 (lv_at hl 5 rfl) ?_
    refine lv_aload_n C.1 C.2.1 dX4_numberOf_10 rfl (lv_at hl 2 rfl) ?_
    refine gn_X5_6 C nf_X4_63 kd_90 S dX4_numberOf_11 ?_
    refine lv_icmp_ge (tgt := 65) C.1 C.2.1 dX4_numberOf_14 (by decide) (fun c9 => ?_) (fun c9 => ?_)
    · replace h := h.1 c9
      refine lv_lload_n C.1 C.2.1 dX4_numberOf_65 rfl (lv_at hl 3 rfl) ?_
      exact hR _ _ _ _ _ _ dX4_numberOf_66 h S
    · replace h := h.2 c9
      refine lv_aload_n C.1 C.2.1 dX4_numberOf_17 rfl (lv_at hl 1 rfl) ?_
      refine lv_iload C.1 C.2.1 dX4_numberOf_18 (lv_at hl 4 rfl) ?_
      refine k_i (r_VN (As := [.int x5]) (rest := []) C hml (c_X1_isEnough l G 5 x5 σ _ kd_5 h) kM_X1_isEnough im_X1_isEnough se_X1_isEnough nm_X4_35 ⟨rfl, rfl⟩ ⟨Nat.le_of_ble_eq_true rfl, Nat.le_of_ble_eq_true rfl⟩ hcs S kd_5 (by decide) (T := TX1) (N := 4) rfl rfl hl.1 rfl (Nat.le_of_ble_eq_true rfl) dX4_numberOf_20) S (fun r11 σ10 H locs h S => ?_)
      refine lv_if_eq (tgt := 30) C.1 C.2.1 dX4_numberOf_23 (by decide) (fun c12 => ?_) (fun c12 => ?_)
      · replace h := h.1 c12
        exact TX4_numberOf_30 C hml hcs hR ih x3 x5 x6 S (lv_sub hl [0, 1, 2, 3, 4, 5] rfl) h
      · replace h := h.2 c12
        refine lv_lload_n C.1 C.2.1 dX4_numberOf_26 rfl (lv_at hl 3 rfl) ?_
        refine lv_lconst (v := (1 : Int64)) C.1 C.2.1 dX4_numberOf_27 (by decide) ?_
        refine lv_ladd C.1 C.2.1 dX4_numberOf_28 ?_
        refine lv_lstore_n (lv' := [(3, .long (x3 + (1 : Int64))), (0, .ref (G.2.2 + 97)), (1, .ref (G.2.2 + 5)), (2, .ref (G.2.2 + 90)), (5, .int x5), (6, .int x6)]) C.1 C.2.1 dX4_numberOf_29 rfl hl (by decide) rfl (fun ls hl => ?_)
        exact TX4_numberOf_30 C hml hcs hR ih ((x3 + (1 : Int64))) x5 x6 S (lv_sub hl [1, 2, 3, 0, 4, 5] rfl) h
theorem kM_X4_numberOf : s_M yX4_numberOf cX4_numberOf 7 (some .long) 2 := ⟨co_X4_numberOf, in_X4, by decide, by decide, by decide +kernel⟩
set_option maxHeartbeats 4000000 in
set_option maxRecDepth 100000 in
theorem c_X4_numberOf (l : Launch) (G : s_G)  (σ : Sg) (post : Int64 → Sg → Prop) (h : wpX4_numberOf σ post) : Met l yX4_numberOf (wsU yX4_numberOf cX4_numberOf 7 (some .long)) rm_X4_numberOf (va_Pc [.ref (G.2.2 + 97), .ref (G.2.2 + 5), .ref (G.2.2 + 90)] (s_Pre G σ)) (va_Ql post (s_B G) (s_A G.2.2)) 0 0 (s_A G.2.2) := by
  refine Met.ofW (cc := cX4_numberOf) (maxL := 7) (ret := (some .long)) (by decide) rfl ?_
  intro p e s m args below meth c s₁ B hml hv
  obtain ⟨rfl, hP, hrok, hK, hN⟩ := hv
  have C : s_C G p s (([.ref (G.2.2 + 97), .ref (G.2.2 + 5), .ref (G.2.2 + 90)] : List Value).toArray) m c RX4 cX4_numberOf := ⟨B.exec, B.bytes, findClass_of_methodNamed B.named, fun w hw => atoms_spec (ws := wsU yX4_numberOf cX4_numberOf 7 (some .long)) B.pre w (List.mem_cons_of_mem _ hw), hK, hN⟩
  have hr := B.returns
  have hlocks := B.notSynchronized
  have S : s_St G σ s.heap s.heap [] := ⟨hP, va_S.rf, hrok⟩
  have hcs : 0 ≤ (rm_X4_numberOf).cells ∧ 0 ≤ (rm_X4_numberOf).slots := ⟨Nat.le_refl 0, Nat.le_refl 0⟩
  have hR : ∀ (r : Int64) (σ1 : Sg) (H : Heap) (locs : List Loc) (pc : Nat) (ls : Array Slot), decode cX4_numberOf pc = .ok (.lreturn, 1) → post r σ1 → s_St G σ1 s.heap H locs → W p l e rm_X4_numberOf s m ([.ref (G.2.2 + 97), .ref (G.2.2 + 5), .ref (G.2.2 + 90)] : List Value).toArray below meth c H locs 0 0 (MQ below (va_Ql post (s_B G) (s_A G.2.2)) ([.ref (G.2.2 + 97), .ref (G.2.2 + 5), .ref (G.2.2 + 90)] : List Value).toArray s 0 0 (s_A G.2.2)) (F0 m pc ls [.long r]) := fun _ _ _ _ _ _ hd hp S => ret_l C hr hlocks hd hp S
  have hl := lv_entry ([.ref (G.2.2 + 97), .ref (G.2.2 + 5), .ref (G.2.2 + 90)]) (n := 7) (Nat.le_of_ble_eq_true rfl)
  rw [lg_entry_eq]
  generalize (lg_sl ([.ref (G.2.2 + 97), .ref (G.2.2 + 5), .ref (G.2.2 + 90)]) ++ List.replicate (7 - (lg_sl ([.ref (G.2.2 + 97), .ref (G.2.2 + 5), .ref (G.2.2 + 90)])).length) Slot.unset).toArray = ls at hl ⊢
  have hl : lv_has ls 7 [(0, .ref (G.2.2 + 97)), (1, .ref (G.2.2 + 5)), (2, .ref (G.2.2 + 90))] := hl
  unfold wpX4_numberOf at h
  refine lv_lconst (v := (0 : Int64)) C.1 C.2.1 dX4_numberOf_0 (by decide) ?_
  refine lv_lstore_n (lv' := [(3, .long (0 : Int64)), (0, .ref (G.2.2 + 97)), (1, .ref (G.2.2 + 5)), (2, .ref (G.2.2 + 90))]) C.1 C.2.1 dX4_numberOf_1 rfl hl (by decide) rfl (fun ls hl => ?_)
  refine lv_iconst (v := (0 : Int32)) C.1 C.2.1 dX4_numberOf_2 (by decide) ?_
  refine lv_istore (lv' := [(5, .int (0 : Int32)), (3, .long (0 : Int64)), (0, .ref (G.2.2 + 97)), (1, .ref (G.2.2 + 5)), (2, .ref (G.2.2 + 90))]) C.1 C.2.1 dX4_numberOf_3 hl (by decide) rfl (fun ls hl => ?_)
  refine lv_iconst (v := (0 : Int32)) C.1 C.2.1 dX4_numberOf_5 (by decide) ?_
  refine lv_istore (lv' := [(6, .int (0 : Int32)), (5, .int (0 : Int32)), (3, .long (0 : Int64)), (0, .ref (G.2.2 + 97)), (1, .ref (G.2.2 + 5)), (2, .ref (G.2.2 + 90))]) C.1 C.2.1 dX4_numberOf_6 hl (by decide) rfl (fun ls hl => ?_)
  obtain ⟨nf, h⟩ := h
  exact TX4_numberOf_8 C hml hcs hR nf ((0 : Int64)) ((0 : Int32)) ((0 : Int32)) S (lv_sub hl [3, 4, 5, 2, 1, 0] rfl) h
/-! X5_endOf -/
abbrev rm_X5_endOf : Room := { frames := 0, cells := 0, slots := 0, locals := 0 }
def wpX5_endOf (x1 : Int32) (σ : Sg) (post : Int32 → Sg → Prop) : Prop := (((x1 < 0) → post ((-9 : Int32)) σ) ∧ ((¬ x1 < 0) → ((((4096 : Int32) ≤ x1) → post ((-9 : Int32)) σ) ∧ ((¬ (4096 : Int32) ≤ x1) → (vp_in x1 4096 ∧ post ((σ.1 91 (x1).toNatClampNeg)) σ)))))
theorem kM_X5_endOf : s_M yX5_endOf cX5_endOf 2 (some .int) 1 := ⟨co_X5_endOf, in_X5, by decide, by decide, by decide +kernel⟩
set_option maxHeartbeats 4000000 in
set_option maxRecDepth 100000 in
theorem c_X5_endOf (l : Launch) (G : s_G) (x1 : Int32) (σ : Sg) (post : Int32 → Sg → Prop) (h : wpX5_endOf x1 σ post) : Met l yX5_endOf (wsU yX5_endOf cX5_endOf 2 (some .int)) rm_X5_endOf (va_Pc [.ref (G.2.2 + 90), .int x1] (s_Pre G σ)) (va_Qi post (s_B G) (s_A G.2.2)) 0 0 (s_A G.2.2) := by
  refine Met.ofW (cc := cX5_endOf) (maxL := 2) (ret := (some .int)) (by decide) rfl ?_
  intro p e s m args below meth c s₁ B hml hv
  obtain ⟨rfl, hP, hrok, hK, hN⟩ := hv
  have C : s_C G p s (([.ref (G.2.2 + 90), .int x1] : List Value).toArray) m c RX5 cX5_endOf := ⟨B.exec, B.bytes, findClass_of_methodNamed B.named, fun w hw => atoms_spec (ws := wsU yX5_endOf cX5_endOf 2 (some .int)) B.pre w (List.mem_cons_of_mem _ hw), hK, hN⟩
  have hr := B.returns
  have hlocks := B.notSynchronized
  have S : s_St G σ s.heap s.heap [] := ⟨hP, va_S.rf, hrok⟩
  have hcs : 0 ≤ (rm_X5_endOf).cells ∧ 0 ≤ (rm_X5_endOf).slots := ⟨Nat.le_refl 0, Nat.le_refl 0⟩
  have hR : ∀ (r : Int32) (σ1 : Sg) (H : Heap) (locs : List Loc) (pc : Nat) (ls : Array Slot), decode cX5_endOf pc = .ok (.ireturn, 1) → post r σ1 → s_St G σ1 s.heap H locs → W p l e rm_X5_endOf s m ([.ref (G.2.2 + 90), .int x1] : List Value).toArray below meth c H locs 0 0 (MQ below (va_Qi post (s_B G) (s_A G.2.2)) ([.ref (G.2.2 + 90), .int x1] : List Value).toArray s 0 0 (s_A G.2.2)) (F0 m pc ls [.int r]) := fun _ _ _ _ _ _ hd hp S => ret_i C hr hlocks hd hp S
  have hl := lv_entry ([.ref (G.2.2 + 90), .int x1]) (n := 2) (Nat.le_of_ble_eq_true rfl)
  rw [lg_entry_eq]
  generalize (lg_sl ([.ref (G.2.2 + 90), .int x1]) ++ List.replicate (2 - (lg_sl ([.ref (G.2.2 + 90), .int x1])).length) Slot.unset).toArray = ls at hl ⊢
  have hl : lv_has ls 2 [(0, .ref (G.2.2 + 90)), (1, .int x1)] := hl
  unfold wpX5_endOf at h
  refine lv_iload_n C.1 C.2.1 dX5_endOf_0 rfl (lv_at hl 1 rfl) ?_
  refine lv_if_lt (tgt := 22) C.1 C.2.1 dX5_endOf_1 (by decide) (fun c1 => ?_) (fun c1 => ?_)
  · replace h := h.1 c1
    refine lv_bipush (v := (-9 : Int32)) C.1 C.2.1 dX5_endOf_22 (by decide) ?_
    exact hR _ _ _ _ _ _ dX5_endOf_24 h S
  · replace h := h.2 c1
    refine lv_iload_n C.1 C.2.1 dX5_endOf_4 rfl (lv_at hl 1 rfl) ?_
    refine lv_aload_n C.1 C.2.1 dX5_endOf_5 rfl (lv_at hl 0 rfl) ?_
    refine g_X5_0 C fl_X5_9 kd_90 S fn_90_0 dX5_endOf_6 ?_
    refine a_len8 C kd_91 S (v := (4096 : Int32)) (by rw [ln_91]; rfl) dX5_endOf_9 ?_
    refine lv_icmp_ge (tgt := 22) C.1 C.2.1 dX5_endOf_10 (by decide) (fun c2 => ?_) (fun c2 => ?_)
    · replace h := h.1 c2
      refine lv_bipush (v := (-9 : Int32)) C.1 C.2.1 dX5_endOf_22 (by decide) ?_
      exact hR _ _ _ _ _ _ dX5_endOf_24 h S
    · replace h := h.2 c2
      refine lv_aload_n C.1 C.2.1 dX5_endOf_13 rfl (lv_at hl 0 rfl) ?_
      refine g_X5_0 C fl_X5_9 kd_90 S fn_90_0 dX5_endOf_14 ?_
      refine lv_iload_n C.1 C.2.1 dX5_endOf_17 rfl (lv_at hl 1 rfl) ?_
      refine a_ild C kd_91 S ln_91 h.1 dX5_endOf_18 ?_
      replace h := h.2
      refine lv_goto (tgt := 24) C.1 C.2.1 dX5_endOf_19 (by decide) ?_
      exact hR _ _ _ _ _ _ dX5_endOf_24 h S
/-! X5_stepsFrom -/
abbrev rm_X5_stepsFrom : Room := { frames := 0, cells := 0, slots := 0, locals := 0 }
def wpX5_stepsFrom (x1 : Int32) (σ : Sg) (post : Int32 → Sg → Prop) : Prop := (((x1 < 0) → post ((0 : Int32)) σ) ∧ ((¬ x1 < 0) → ((((4096 : Int32) ≤ x1) → post ((0 : Int32)) σ) ∧ ((¬ (4096 : Int32) ≤ x1) → (vp_in x1 4096 ∧ post ((σ.1 92 (x1).toNatClampNeg)) σ)))))
theorem kM_X5_stepsFrom : s_M yX5_stepsFrom cX5_stepsFrom 2 (some .int) 1 := ⟨co_X5_stepsFrom, in_X5, by decide, by decide, by decide +kernel⟩
set_option maxHeartbeats 4000000 in
set_option maxRecDepth 100000 in
theorem c_X5_stepsFrom (l : Launch) (G : s_G) (x1 : Int32) (σ : Sg) (post : Int32 → Sg → Prop) (h : wpX5_stepsFrom x1 σ post) : Met l yX5_stepsFrom (wsU yX5_stepsFrom cX5_stepsFrom 2 (some .int)) rm_X5_stepsFrom (va_Pc [.ref (G.2.2 + 90), .int x1] (s_Pre G σ)) (va_Qi post (s_B G) (s_A G.2.2)) 0 0 (s_A G.2.2) := by
  refine Met.ofW (cc := cX5_stepsFrom) (maxL := 2) (ret := (some .int)) (by decide) rfl ?_
  intro p e s m args below meth c s₁ B hml hv
  obtain ⟨rfl, hP, hrok, hK, hN⟩ := hv
  have C : s_C G p s (([.ref (G.2.2 + 90), .int x1] : List Value).toArray) m c RX5 cX5_stepsFrom := ⟨B.exec, B.bytes, findClass_of_methodNamed B.named, fun w hw => atoms_spec (ws := wsU yX5_stepsFrom cX5_stepsFrom 2 (some .int)) B.pre w (List.mem_cons_of_mem _ hw), hK, hN⟩
  have hr := B.returns
  have hlocks := B.notSynchronized
  have S : s_St G σ s.heap s.heap [] := ⟨hP, va_S.rf, hrok⟩
  have hcs : 0 ≤ (rm_X5_stepsFrom).cells ∧ 0 ≤ (rm_X5_stepsFrom).slots := ⟨Nat.le_refl 0, Nat.le_refl 0⟩
  have hR : ∀ (r : Int32) (σ1 : Sg) (H : Heap) (locs : List Loc) (pc : Nat) (ls : Array Slot), decode cX5_stepsFrom pc = .ok (.ireturn, 1) → post r σ1 → s_St G σ1 s.heap H locs → W p l e rm_X5_stepsFrom s m ([.ref (G.2.2 + 90), .int x1] : List Value).toArray below meth c H locs 0 0 (MQ below (va_Qi post (s_B G) (s_A G.2.2)) ([.ref (G.2.2 + 90), .int x1] : List Value).toArray s 0 0 (s_A G.2.2)) (F0 m pc ls [.int r]) := fun _ _ _ _ _ _ hd hp S => ret_i C hr hlocks hd hp S
  have hl := lv_entry ([.ref (G.2.2 + 90), .int x1]) (n := 2) (Nat.le_of_ble_eq_true rfl)
  rw [lg_entry_eq]
  generalize (lg_sl ([.ref (G.2.2 + 90), .int x1]) ++ List.replicate (2 - (lg_sl ([.ref (G.2.2 + 90), .int x1])).length) Slot.unset).toArray = ls at hl ⊢
  have hl : lv_has ls 2 [(0, .ref (G.2.2 + 90)), (1, .int x1)] := hl
  unfold wpX5_stepsFrom at h
  refine lv_iload_n C.1 C.2.1 dX5_stepsFrom_0 rfl (lv_at hl 1 rfl) ?_
  refine lv_if_lt (tgt := 22) C.1 C.2.1 dX5_stepsFrom_1 (by decide) (fun c1 => ?_) (fun c1 => ?_)
  · replace h := h.1 c1
    refine lv_iconst (v := (0 : Int32)) C.1 C.2.1 dX5_stepsFrom_22 (by decide) ?_
    exact hR _ _ _ _ _ _ dX5_stepsFrom_23 h S
  · replace h := h.2 c1
    refine lv_iload_n C.1 C.2.1 dX5_stepsFrom_4 rfl (lv_at hl 1 rfl) ?_
    refine lv_aload_n C.1 C.2.1 dX5_stepsFrom_5 rfl (lv_at hl 0 rfl) ?_
    refine g_X5_1 C fl_X5_15 kd_90 S fn_90_1 dX5_stepsFrom_6 ?_
    refine a_len8 C kd_92 S (v := (4096 : Int32)) (by rw [ln_92]; rfl) dX5_stepsFrom_9 ?_
    refine lv_icmp_ge (tgt := 22) C.1 C.2.1 dX5_stepsFrom_10 (by decide) (fun c2 => ?_) (fun c2 => ?_)
    · replace h := h.1 c2
      refine lv_iconst (v := (0 : Int32)) C.1 C.2.1 dX5_stepsFrom_22 (by decide) ?_
      exact hR _ _ _ _ _ _ dX5_stepsFrom_23 h S
    · replace h := h.2 c2
      refine lv_aload_n C.1 C.2.1 dX5_stepsFrom_13 rfl (lv_at hl 0 rfl) ?_
      refine g_X5_1 C fl_X5_15 kd_90 S fn_90_1 dX5_stepsFrom_14 ?_
      refine lv_iload_n C.1 C.2.1 dX5_stepsFrom_17 rfl (lv_at hl 1 rfl) ?_
      refine a_ild C kd_92 S ln_92 h.1 dX5_stepsFrom_18 ?_
      replace h := h.2
      refine lv_goto (tgt := 23) C.1 C.2.1 dX5_stepsFrom_19 (by decide) ?_
      exact hR _ _ _ _ _ _ dX5_stepsFrom_23 h S
/-! X5_waysFrom -/
abbrev rm_X5_waysFrom : Room := { frames := 0, cells := 0, slots := 0, locals := 0 }
def wpX5_waysFrom (x1 : Int32) (σ : Sg) (post : Int64 → Sg → Prop) : Prop := (((x1 < 0) → post ((0 : Int64)) σ) ∧ ((¬ x1 < 0) → ((((4096 : Int32) ≤ x1) → post ((0 : Int64)) σ) ∧ ((¬ (4096 : Int32) ≤ x1) → (vp_in x1 4096 ∧ post ((σ.2.1 93 (x1).toNatClampNeg)) σ)))))
theorem kM_X5_waysFrom : s_M yX5_waysFrom cX5_waysFrom 2 (some .long) 1 := ⟨co_X5_waysFrom, in_X5, by decide, by decide, by decide +kernel⟩
set_option maxHeartbeats 4000000 in
set_option maxRecDepth 100000 in
theorem c_X5_waysFrom (l : Launch) (G : s_G) (x1 : Int32) (σ : Sg) (post : Int64 → Sg → Prop) (h : wpX5_waysFrom x1 σ post) : Met l yX5_waysFrom (wsU yX5_waysFrom cX5_waysFrom 2 (some .long)) rm_X5_waysFrom (va_Pc [.ref (G.2.2 + 90), .int x1] (s_Pre G σ)) (va_Ql post (s_B G) (s_A G.2.2)) 0 0 (s_A G.2.2) := by
  refine Met.ofW (cc := cX5_waysFrom) (maxL := 2) (ret := (some .long)) (by decide) rfl ?_
  intro p e s m args below meth c s₁ B hml hv
  obtain ⟨rfl, hP, hrok, hK, hN⟩ := hv
  have C : s_C G p s (([.ref (G.2.2 + 90), .int x1] : List Value).toArray) m c RX5 cX5_waysFrom := ⟨B.exec, B.bytes, findClass_of_methodNamed B.named, fun w hw => atoms_spec (ws := wsU yX5_waysFrom cX5_waysFrom 2 (some .long)) B.pre w (List.mem_cons_of_mem _ hw), hK, hN⟩
  have hr := B.returns
  have hlocks := B.notSynchronized
  have S : s_St G σ s.heap s.heap [] := ⟨hP, va_S.rf, hrok⟩
  have hcs : 0 ≤ (rm_X5_waysFrom).cells ∧ 0 ≤ (rm_X5_waysFrom).slots := ⟨Nat.le_refl 0, Nat.le_refl 0⟩
  have hR : ∀ (r : Int64) (σ1 : Sg) (H : Heap) (locs : List Loc) (pc : Nat) (ls : Array Slot), decode cX5_waysFrom pc = .ok (.lreturn, 1) → post r σ1 → s_St G σ1 s.heap H locs → W p l e rm_X5_waysFrom s m ([.ref (G.2.2 + 90), .int x1] : List Value).toArray below meth c H locs 0 0 (MQ below (va_Ql post (s_B G) (s_A G.2.2)) ([.ref (G.2.2 + 90), .int x1] : List Value).toArray s 0 0 (s_A G.2.2)) (F0 m pc ls [.long r]) := fun _ _ _ _ _ _ hd hp S => ret_l C hr hlocks hd hp S
  have hl := lv_entry ([.ref (G.2.2 + 90), .int x1]) (n := 2) (Nat.le_of_ble_eq_true rfl)
  rw [lg_entry_eq]
  generalize (lg_sl ([.ref (G.2.2 + 90), .int x1]) ++ List.replicate (2 - (lg_sl ([.ref (G.2.2 + 90), .int x1])).length) Slot.unset).toArray = ls at hl ⊢
  have hl : lv_has ls 2 [(0, .ref (G.2.2 + 90)), (1, .int x1)] := hl
  unfold wpX5_waysFrom at h
  refine lv_iload_n C.1 C.2.1 dX5_waysFrom_0 rfl (lv_at hl 1 rfl) ?_
  refine lv_if_lt (tgt := 22) C.1 C.2.1 dX5_waysFrom_1 (by decide) (fun c1 => ?_) (fun c1 => ?_)
  · replace h := h.1 c1
    refine lv_lconst (v := (0 : Int64)) C.1 C.2.1 dX5_waysFrom_22 (by decide) ?_
    exact hR _ _ _ _ _ _ dX5_waysFrom_23 h S
  · replace h := h.2 c1
    refine lv_iload_n C.1 C.2.1 dX5_waysFrom_4 rfl (lv_at hl 1 rfl) ?_
    refine lv_aload_n C.1 C.2.1 dX5_waysFrom_5 rfl (lv_at hl 0 rfl) ?_
    refine g_X5_2 C fl_X5_18 kd_90 S fn_90_2 dX5_waysFrom_6 ?_
    refine a_len9 C kd_93 S (v := (4096 : Int32)) (by rw [ln_93]; rfl) dX5_waysFrom_9 ?_
    refine lv_icmp_ge (tgt := 22) C.1 C.2.1 dX5_waysFrom_10 (by decide) (fun c2 => ?_) (fun c2 => ?_)
    · replace h := h.1 c2
      refine lv_lconst (v := (0 : Int64)) C.1 C.2.1 dX5_waysFrom_22 (by decide) ?_
      exact hR _ _ _ _ _ _ dX5_waysFrom_23 h S
    · replace h := h.2 c2
      refine lv_aload_n C.1 C.2.1 dX5_waysFrom_13 rfl (lv_at hl 0 rfl) ?_
      refine g_X5_2 C fl_X5_18 kd_90 S fn_90_2 dX5_waysFrom_14 ?_
      refine lv_iload_n C.1 C.2.1 dX5_waysFrom_17 rfl (lv_at hl 1 rfl) ?_
      refine a_lld C kd_93 S ln_93 h.1 dX5_waysFrom_18 ?_
      replace h := h.2
      refine lv_goto (tgt := 23) C.1 C.2.1 dX5_waysFrom_19 (by decide) ?_
      exact hR _ _ _ _ _ _ dX5_waysFrom_23 h S
/-! X5_countFrom -/
abbrev rm_X5_countFrom : Room := { frames := 2, cells := 0, slots := 0, locals := 43 }
def BX5_countFrom_30 (x1 : Int32) (post : Int64 → Sg → Prop) : Nat → Int64 → Int32 → Sg → Prop
  | 0, _, _, _ => False
  | n + 1, x4, x6, σ => ((((σ.1 5 2) ≤ x6) → post x4 σ) ∧ ((¬ (σ.1 5 2) ≤ x6) → wpX5_stepsFrom x1 σ (fun r3 σ2 => wpX6_bitOf r3 x6 σ2 (fun r5 σ4 => (((¬ r5 = (1 : Int32)) → BX5_countFrom_30 x1 post n x4 ((x6 + 1)) σ4) ∧ ((r5 = (1 : Int32)) → wpX6_withOneMore x1 x6 σ4 (fun r8 σ7 => wpX5_waysFrom r8 σ7 (fun r10 σ9 => BX5_countFrom_30 x1 post n ((x4 + r10)) ((x6 + 1)) σ9))))))))
def wpX5_countFrom (x1 : Int32) (σ : Sg) (post : Int64 → Sg → Prop) : Prop := wpX5_endOf x1 σ (fun r12 σ11 => (((¬ r12 = (σ11.1 1 1)) → ∃ nf, BX5_countFrom_30 x1 post nf ((0 : Int64)) ((0 : Int32)) σ11) ∧ ((r12 = (σ11.1 1 1)) → wpX1_isEnough 5 x1 σ11 (fun r15 σ14 => (((r15 = 0) → ∃ nf, BX5_countFrom_30 x1 post nf ((0 : Int64)) ((0 : Int32)) σ14) ∧ ((¬ r15 = 0) → ∃ nf, BX5_countFrom_30 x1 post nf ((1 : Int64)) ((0 : Int32)) σ14))))))
set_option maxHeartbeats 4000000 in
set_option maxRecDepth 100000 in
theorem TX5_countFrom_30 (C : s_C G p s args m c RX5 cX5_countFrom) (hml : c.maxLocals = 7) (hcs : cells ≤ (rm_X5_countFrom).cells ∧ slots ≤ (rm_X5_countFrom).slots) {x1 : Int32} {post : Int64 → Sg → Prop} (hR : ∀ (r : Int64) (σ1 : Sg) (H : Heap) (locs : List Loc) (pc : Nat) (ls : Array Slot), decode cX5_countFrom pc = .ok (.lreturn, 1) → post r σ1 → s_St G σ1 H0 H locs → W p l e rm_X5_countFrom s m args below meth c H locs cells slots Q (F0 m pc ls [.long r])) : ∀ (n : Nat) (x4 : Int64) (x6 : Int32), ∀ {σ : Sg} {H : Heap} {locs : List Loc} {ls : Array Slot}, s_St G σ H0 H locs → lv_has ls 7 [(0, .ref (G.2.2 + 90)), (1, .int x1), (2, .ref (G.2.2 + 5)), (4, .long x4), (6, .int x6)] → BX5_countFrom_30 x1 post n x4 x6 σ → W p l e rm_X5_countFrom s m args below meth c H locs cells slots Q (F0 m 30 ls []) := by
  intro n
  induction n with
  | zero =>
    intro x4 x6  σ H locs ls S hl h
    exact absurd h (fun h => h)
  | succ n ih0 =>
    have ih : ∀ (x4 : Int64) (x6 : Int32), ∀ (σ : Sg) (H : Heap) (locs : List Loc) (ls : Array Slot), s_St G σ H0 H locs → lv_has ls 7 [(0, .ref (G.2.2 + 90)), (1, .int x1), (2, .ref (G.2.2 + 5)), (4, .long x4), (6, .int x6)] → BX5_countFrom_30 x1 post n x4 x6 σ → W p l e rm_X5_countFrom s m args below meth c H locs cells slots Q (F0 m 30 ls []) := fun x4 x6  _ _ _ _ => ih0 x4 x6 
    intro x4 x6  σ H locs ls S hl h
    refine lv_iload C.1 C.2.1 dX5_countFrom_30 (lv_at hl 4 rfl) ?_
    refine lv_aload_n C.1 C.2.1 dX5_countFrom_32 rfl (lv_at hl 2 rfl) ?_
    refine gn_X1_2 C nf_X5_73 kd_5 S dX5_countFrom_33 ?_
    refine lv_icmp_ge (tgt := 74) C.1 C.2.1 dX5_countFrom_36 (by decide) (fun c1 => ?_) (fun c1 => ?_)
    · replace h := h.1 c1
      refine lv_lload C.1 C.2.1 dX5_countFrom_74 (lv_at hl 3 rfl) ?_
      exact hR _ _ _ _ _ _ dX5_countFrom_76 h S
    · replace h := h.2 c1
      refine lv_aload_n C.1 C.2.1 dX5_countFrom_39 rfl (lv_at hl 0 rfl) ?_
      refine lv_iload_n C.1 C.2.1 dX5_countFrom_40 rfl (lv_at hl 1 rfl) ?_
      refine k_i (r_V (As := [.int x1]) (rest := []) C hml (c_X5_stepsFrom l G x1 σ _ h) kM_X5_stepsFrom im_X5_stepsFrom se_X5_stepsFrom ml_X5_111 ⟨rfl, rfl⟩ ⟨Nat.le_of_ble_eq_true rfl, Nat.le_of_ble_eq_true rfl⟩ hcs S kd_90 (by decide) (T := TX5) (N := 8) rfl rfl hl.1 rfl (Nat.le_of_ble_eq_true rfl) dX5_countFrom_41) S (fun r3 σ2 H locs h S => ?_)
      refine lv_iload C.1 C.2.1 dX5_countFrom_44 (lv_at hl 4 rfl) ?_
      refine k_i (r_SN (As := [.int r3, .int x6]) (rest := []) C hml (c_X6_bitOf l G r3 x6 σ2 _ h) kM_X6_bitOf st_X6_bitOf nm_X5_74 ⟨rfl, rfl⟩ ⟨Nat.le_of_ble_eq_true rfl, Nat.le_of_ble_eq_true rfl⟩ hcs S rfl hl.1 rfl (Nat.le_of_ble_eq_true rfl) dX5_countFrom_46) S (fun r5 σ4 H locs h S => ?_)
      refine lv_iconst (v := (1 : Int32)) C.1 C.2.1 dX5_countFrom_49 (by decide) ?_
      refine lv_icmp_ne (tgt := 68) C.1 C.2.1 dX5_countFrom_50 (by decide) (fun c6 => ?_) (fun c6 => ?_)
      · replace h := h.1 c6
        refine lv_iinc (v := (x6 + 1)) (lv' := [(6, .int (x6 + 1)), (0, .ref (G.2.2 + 90)), (1, .int x1), (2, .ref (G.2.2 + 5)), (4, .long x4)]) C.1 C.2.1 dX5_countFrom_68 hl (k := 4) rfl rfl (by decide) rfl (fun ls hl => ?_)
        refine lv_goto (tgt := 30) C.1 C.2.1 dX5_countFrom_71 (by decide) ?_
        exact ih x4 ((x6 + 1)) _ _ _ _ S (lv_sub hl [1, 2, 3, 4, 0] rfl) h
      · replace h := h.2 c6
        refine lv_lload C.1 C.2.1 dX5_countFrom_53 (lv_at hl 3 rfl) ?_
        refine lv_aload_n C.1 C.2.1 dX5_countFrom_55 rfl (lv_at hl 0 rfl) ?_
        refine lv_iload_n C.1 C.2.1 dX5_countFrom_56 rfl (lv_at hl 1 rfl) ?_
        refine lv_iload C.1 C.2.1 dX5_countFrom_57 (lv_at hl 4 rfl) ?_
        refine k_i (r_SN (As := [.int x1, .int x6]) (rest := [.ref (G.2.2 + 90), .long x4]) C hml (c_X6_withOneMore l G x1 x6 σ4 _ h) kM_X6_withOneMore st_X6_withOneMore nm_X5_87 ⟨rfl, rfl⟩ ⟨Nat.le_of_ble_eq_true rfl, Nat.le_of_ble_eq_true rfl⟩ hcs S rfl hl.1 rfl (Nat.le_of_ble_eq_true rfl) dX5_countFrom_59) S (fun r8 σ7 H locs h S => ?_)
        refine k_l (r_V (As := [.int r8]) (rest := [.long x4]) C hml (c_X5_waysFrom l G r8 σ7 _ h) kM_X5_waysFrom im_X5_waysFrom se_X5_waysFrom ml_X5_45 ⟨rfl, rfl⟩ ⟨Nat.le_of_ble_eq_true rfl, Nat.le_of_ble_eq_true rfl⟩ hcs S kd_90 (by decide) (T := TX5) (N := 8) rfl rfl hl.1 rfl (Nat.le_of_ble_eq_true rfl) dX5_countFrom_62) S (fun r10 σ9 H locs h S => ?_)
        refine lv_ladd C.1 C.2.1 dX5_countFrom_65 ?_
        refine lv_lstore (lv' := [(4, .long (x4 + r10)), (0, .ref (G.2.2 + 90)), (1, .int x1), (2, .ref (G.2.2 + 5)), (6, .int x6)]) C.1 C.2.1 dX5_countFrom_66 hl (by decide) rfl (fun ls hl => ?_)
        refine lv_iinc (v := (x6 + 1)) (lv' := [(6, .int (x6 + 1)), (4, .long (x4 + r10)), (0, .ref (G.2.2 + 90)), (1, .int x1), (2, .ref (G.2.2 + 5))]) C.1 C.2.1 dX5_countFrom_68 hl (k := 4) rfl rfl (by decide) rfl (fun ls hl => ?_)
        refine lv_goto (tgt := 30) C.1 C.2.1 dX5_countFrom_71 (by decide) ?_
        exact ih ((x4 + r10)) ((x6 + 1)) _ _ _ _ S (lv_sub hl [2, 3, 4, 1, 0] rfl) h
theorem kM_X5_countFrom : s_M yX5_countFrom cX5_countFrom 7 (some .long) 3 := ⟨co_X5_countFrom, in_X5, by decide, by decide, by decide +kernel⟩
set_option maxHeartbeats 4000000 in
set_option maxRecDepth 100000 in
theorem c_X5_countFrom (l : Launch) (G : s_G) (x1 : Int32) (σ : Sg) (post : Int64 → Sg → Prop) (h : wpX5_countFrom x1 σ post) : Met l yX5_countFrom (wsU yX5_countFrom cX5_countFrom 7 (some .long)) rm_X5_countFrom (va_Pc [.ref (G.2.2 + 90), .int x1, .ref (G.2.2 + 5), .ref (G.2.2 + 1)] (s_Pre G σ)) (va_Ql post (s_B G) (s_A G.2.2)) 0 0 (s_A G.2.2) := by
  refine Met.ofW (cc := cX5_countFrom) (maxL := 7) (ret := (some .long)) (by decide) rfl ?_
  intro p e s m args below meth c s₁ B hml hv
  obtain ⟨rfl, hP, hrok, hK, hN⟩ := hv
  have C : s_C G p s (([.ref (G.2.2 + 90), .int x1, .ref (G.2.2 + 5), .ref (G.2.2 + 1)] : List Value).toArray) m c RX5 cX5_countFrom := ⟨B.exec, B.bytes, findClass_of_methodNamed B.named, fun w hw => atoms_spec (ws := wsU yX5_countFrom cX5_countFrom 7 (some .long)) B.pre w (List.mem_cons_of_mem _ hw), hK, hN⟩
  have hr := B.returns
  have hlocks := B.notSynchronized
  have S : s_St G σ s.heap s.heap [] := ⟨hP, va_S.rf, hrok⟩
  have hcs : 0 ≤ (rm_X5_countFrom).cells ∧ 0 ≤ (rm_X5_countFrom).slots := ⟨Nat.le_refl 0, Nat.le_refl 0⟩
  have hR : ∀ (r : Int64) (σ1 : Sg) (H : Heap) (locs : List Loc) (pc : Nat) (ls : Array Slot), decode cX5_countFrom pc = .ok (.lreturn, 1) → post r σ1 → s_St G σ1 s.heap H locs → W p l e rm_X5_countFrom s m ([.ref (G.2.2 + 90), .int x1, .ref (G.2.2 + 5), .ref (G.2.2 + 1)] : List Value).toArray below meth c H locs 0 0 (MQ below (va_Ql post (s_B G) (s_A G.2.2)) ([.ref (G.2.2 + 90), .int x1, .ref (G.2.2 + 5), .ref (G.2.2 + 1)] : List Value).toArray s 0 0 (s_A G.2.2)) (F0 m pc ls [.long r]) := fun _ _ _ _ _ _ hd hp S => ret_l C hr hlocks hd hp S
  have hl := lv_entry ([.ref (G.2.2 + 90), .int x1, .ref (G.2.2 + 5), .ref (G.2.2 + 1)]) (n := 7) (Nat.le_of_ble_eq_true rfl)
  rw [lg_entry_eq]
  generalize (lg_sl ([.ref (G.2.2 + 90), .int x1, .ref (G.2.2 + 5), .ref (G.2.2 + 1)]) ++ List.replicate (7 - (lg_sl ([.ref (G.2.2 + 90), .int x1, .ref (G.2.2 + 5), .ref (G.2.2 + 1)])).length) Slot.unset).toArray = ls at hl ⊢
  have hl : lv_has ls 7 [(0, .ref (G.2.2 + 90)), (1, .int x1), (2, .ref (G.2.2 + 5)), (3, .ref (G.2.2 + 1))] := hl
  unfold wpX5_countFrom at h
  refine lv_aload_n C.1 C.2.1 dX5_countFrom_0 rfl (lv_at hl 0 rfl) ?_
  refine lv_iload_n C.1 C.2.1 dX5_countFrom_1 rfl (lv_at hl 1 rfl) ?_
  refine k_i (r_V (As := [.int x1]) (rest := []) C hml (c_X5_endOf l G x1 σ _ h) kM_X5_endOf im_X5_endOf se_X5_endOf ml_X5_59 ⟨rfl, rfl⟩ ⟨Nat.le_of_ble_eq_true rfl, Nat.le_of_ble_eq_true rfl⟩ hcs S kd_90 (by decide) (T := TX5) (N := 8) rfl rfl hl.1 rfl (Nat.le_of_ble_eq_true rfl) dX5_countFrom_2) S (fun r12 σ11 H locs h S => ?_)
  refine lv_aload_n C.1 C.2.1 dX5_countFrom_5 rfl (lv_at hl 3 rfl) ?_
  refine gn_X0_1 C nf_X5_104 kd_1 S dX5_countFrom_6 ?_
  refine lv_icmp_ne (tgt := 24) C.1 C.2.1 dX5_countFrom_9 (by decide) (fun c13 => ?_) (fun c13 => ?_)
  · replace h := h.1 c13
    refine lv_lconst (v := (0 : Int64)) C.1 C.2.1 dX5_countFrom_24 (by decide) ?_
    refine lv_lstore (lv' := [(4, .long (0 : Int64)), (0, .ref (G.2.2 + 90)), (1, .int x1), (2, .ref (G.2.2 + 5)), (3, .ref (G.2.2 + 1))]) C.1 C.2.1 dX5_countFrom_25 hl (by decide) rfl (fun ls hl => ?_)
    refine lv_iconst (v := (0 : Int32)) C.1 C.2.1 dX5_countFrom_27 (by decide) ?_
    refine lv_istore (lv' := [(6, .int (0 : Int32)), (4, .long (0 : Int64)), (0, .ref (G.2.2 + 90)), (1, .int x1), (2, .ref (G.2.2 + 5)), (3, .ref (G.2.2 + 1))]) C.1 C.2.1 dX5_countFrom_28 hl (by decide) rfl (fun ls hl => ?_)
    obtain ⟨nf, h⟩ := h
    exact TX5_countFrom_30 C hml hcs hR nf ((0 : Int64)) ((0 : Int32)) S (lv_sub hl [2, 3, 4, 1, 0] rfl) h
  · replace h := h.2 c13
    refine lv_aload_n C.1 C.2.1 dX5_countFrom_12 rfl (lv_at hl 2 rfl) ?_
    refine lv_iload_n C.1 C.2.1 dX5_countFrom_13 rfl (lv_at hl 1 rfl) ?_
    refine k_i (r_VN (As := [.int x1]) (rest := []) C hml (c_X1_isEnough l G 5 x1 σ11 _ kd_5 h) kM_X1_isEnough im_X1_isEnough se_X1_isEnough nm_X5_107 ⟨rfl, rfl⟩ ⟨Nat.le_of_ble_eq_true rfl, Nat.le_of_ble_eq_true rfl⟩ hcs S kd_5 (by decide) (T := TX1) (N := 4) rfl rfl hl.1 rfl (Nat.le_of_ble_eq_true rfl) dX5_countFrom_14) S (fun r15 σ14 H locs h S => ?_)
    refine lv_if_eq (tgt := 24) C.1 C.2.1 dX5_countFrom_17 (by decide) (fun c16 => ?_) (fun c16 => ?_)
    · replace h := h.1 c16
      refine lv_lconst (v := (0 : Int64)) C.1 C.2.1 dX5_countFrom_24 (by decide) ?_
      refine lv_lstore (lv' := [(4, .long (0 : Int64)), (0, .ref (G.2.2 + 90)), (1, .int x1), (2, .ref (G.2.2 + 5)), (3, .ref (G.2.2 + 1))]) C.1 C.2.1 dX5_countFrom_25 hl (by decide) rfl (fun ls hl => ?_)
      refine lv_iconst (v := (0 : Int32)) C.1 C.2.1 dX5_countFrom_27 (by decide) ?_
      refine lv_istore (lv' := [(6, .int (0 : Int32)), (4, .long (0 : Int64)), (0, .ref (G.2.2 + 90)), (1, .int x1), (2, .ref (G.2.2 + 5)), (3, .ref (G.2.2 + 1))]) C.1 C.2.1 dX5_countFrom_28 hl (by decide) rfl (fun ls hl => ?_)
      obtain ⟨nf, h⟩ := h
      exact TX5_countFrom_30 C hml hcs hR nf ((0 : Int64)) ((0 : Int32)) S (lv_sub hl [2, 3, 4, 1, 0] rfl) h
    · replace h := h.2 c16
      refine lv_lconst (v := (1 : Int64)) C.1 C.2.1 dX5_countFrom_20 (by decide) ?_
      refine lv_goto (tgt := 25) C.1 C.2.1 dX5_countFrom_21 (by decide) ?_
      refine lv_lstore (lv' := [(4, .long (1 : Int64)), (0, .ref (G.2.2 + 90)), (1, .int x1), (2, .ref (G.2.2 + 5)), (3, .ref (G.2.2 + 1))]) C.1 C.2.1 dX5_countFrom_25 hl (by decide) rfl (fun ls hl => ?_)
      refine lv_iconst (v := (0 : Int32)) C.1 C.2.1 dX5_countFrom_27 (by decide) ?_
      refine lv_istore (lv' := [(6, .int (0 : Int32)), (4, .long (1 : Int64)), (0, .ref (G.2.2 + 90)), (1, .int x1), (2, .ref (G.2.2 + 5)), (3, .ref (G.2.2 + 1))]) C.1 C.2.1 dX5_countFrom_28 hl (by decide) rfl (fun ls hl => ?_)
      obtain ⟨nf, h⟩ := h
      exact TX5_countFrom_30 C hml hcs hR nf ((1 : Int64)) ((0 : Int32)) S (lv_sub hl [2, 3, 4, 1, 0] rfl) h
/-! X5_countWays -/
abbrev rm_X5_countWays : Room := { frames := 3, cells := 0, slots := 0, locals := 69 }
def BX5_countWays_15  (post : Sg → Prop) : Nat → Int32 → Sg → Prop
  | 0, _, _ => False
  | n + 1, x3, σ => (((x3 < 0) → post σ) ∧ ((¬ x3 < 0) → wpX5_endOf x3 σ (fun r3 σ2 => (((r3 < 0) → (vp_in x3 4096 ∧ (∀ σ5 : Sg, σ5 = setL σ2 93 (x3).toNatClampNeg ((0 : Int64)) → BX5_countWays_15 post n ((x3 + (-1))) σ5))) ∧ ((¬ r3 < 0) → wpX5_countFrom x3 σ2 (fun r8 σ7 => (vp_in x3 4096 ∧ (∀ σ9 : Sg, σ9 = setL σ7 93 (x3).toNatClampNeg r8 → BX5_countWays_15 post n ((x3 + (-1))) σ9))))))))
def wpX5_countWays  (σ : Sg) (post : Sg → Prop) : Prop := wpX1_tallies 5 σ (fun r12 σ11 => ∃ nf, BX5_countWays_15 post nf (((if (4096 : Int32) < r12 then (4096 : Int32) else r12) - (1 : Int32))) σ11)
set_option maxHeartbeats 4000000 in
set_option maxRecDepth 100000 in
theorem TX5_countWays_15 (C : s_C G p s args m c RX5 cX5_countWays) (hml : c.maxLocals = 4) (hcs : cells ≤ (rm_X5_countWays).cells ∧ slots ≤ (rm_X5_countWays).slots)  {post : Sg → Prop} (hR : ∀ (σ1 : Sg) (H : Heap) (locs : List Loc) (pc : Nat) (ls : Array Slot), decode cX5_countWays pc = .ok (.return_, 1) → post σ1 → s_St G σ1 H0 H locs → W p l e rm_X5_countWays s m args below meth c H locs cells slots Q (F0 m pc ls [])) : ∀ (n : Nat) (x3 : Int32), ∀ {σ : Sg} {H : Heap} {locs : List Loc} {ls : Array Slot}, s_St G σ H0 H locs → lv_has ls 4 [(0, .ref (G.2.2 + 90)), (1, .ref (G.2.2 + 5)), (2, .ref (G.2.2 + 1)), (3, .int x3)] → BX5_countWays_15 post n x3 σ → W p l e rm_X5_countWays s m args below meth c H locs cells slots Q (F0 m 15 ls []) := by
  intro n
  induction n with
  | zero =>
    intro x3  σ H locs ls S hl h
    exact absurd h (fun h => h)
  | succ n ih0 =>
    have ih : ∀ (x3 : Int32), ∀ (σ : Sg) (H : Heap) (locs : List Loc) (ls : Array Slot), s_St G σ H0 H locs → lv_has ls 4 [(0, .ref (G.2.2 + 90)), (1, .ref (G.2.2 + 5)), (2, .ref (G.2.2 + 1)), (3, .int x3)] → BX5_countWays_15 post n x3 σ → W p l e rm_X5_countWays s m args below meth c H locs cells slots Q (F0 m 15 ls []) := fun x3  _ _ _ _ => ih0 x3 
    intro x3  σ H locs ls S hl h
    refine lv_iload_n C.1 C.2.1 dX5_countWays_15 rfl (lv_at hl 3 rfl) ?_
    refine lv_if_lt (tgt := 50) C.1 C.2.1 dX5_countWays_16 (by decide) (fun c1 => ?_) (fun c1 => ?_)
    · replace h := h.1 c1
      exact hR _ _ _ _ _ dX5_countWays_50 h S
    · replace h := h.2 c1
      refine lv_aload_n C.1 C.2.1 dX5_countWays_19 rfl (lv_at hl 0 rfl) ?_
      refine g_X5_2 C fl_X5_18 kd_90 S fn_90_2 dX5_countWays_20 ?_
      refine lv_iload_n C.1 C.2.1 dX5_countWays_23 rfl (lv_at hl 3 rfl) ?_
      refine lv_aload_n C.1 C.2.1 dX5_countWays_24 rfl (lv_at hl 0 rfl) ?_
      refine lv_iload_n C.1 C.2.1 dX5_countWays_25 rfl (lv_at hl 3 rfl) ?_
      refine k_i (r_V (As := [.int x3]) (rest := [.int x3, .ref (G.2.2 + 93)]) C hml (c_X5_endOf l G x3 σ _ h) kM_X5_endOf im_X5_endOf se_X5_endOf ml_X5_59 ⟨rfl, rfl⟩ ⟨Nat.le_of_ble_eq_true rfl, Nat.le_of_ble_eq_true rfl⟩ hcs S kd_90 (by decide) (T := TX5) (N := 8) rfl rfl hl.1 rfl (Nat.le_of_ble_eq_true rfl) dX5_countWays_26) S (fun r3 σ2 H locs h S => ?_)
      refine lv_if_lt (tgt := 42) C.1 C.2.1 dX5_countWays_29 (by decide) (fun c4 => ?_) (fun c4 => ?_)
      · replace h := h.1 c4
        refine lv_lconst (v := (0 : Int64)) C.1 C.2.1 dX5_countWays_42 (by decide) ?_
        refine a_lst C kd_93 S ln_93 h.1 dX5_countWays_43 (fun σ5 H locs e6 S => ?_)
        replace h := h.2 σ5 e6
        refine lv_iinc (v := (x3 + (-1))) (lv' := [(3, .int (x3 + (-1))), (0, .ref (G.2.2 + 90)), (1, .ref (G.2.2 + 5)), (2, .ref (G.2.2 + 1))]) C.1 C.2.1 dX5_countWays_44 hl (k := 3) rfl rfl (by decide) rfl (fun ls hl => ?_)
        refine lv_goto (tgt := 15) C.1 C.2.1 dX5_countWays_47 (by decide) ?_
        exact ih ((x3 + (-1))) _ _ _ _ S (lv_sub hl [1, 2, 3, 0] rfl) h
      · replace h := h.2 c4
        refine lv_aload_n C.1 C.2.1 dX5_countWays_32 rfl (lv_at hl 0 rfl) ?_
        refine lv_iload_n C.1 C.2.1 dX5_countWays_33 rfl (lv_at hl 3 rfl) ?_
        refine lv_aload_n C.1 C.2.1 dX5_countWays_34 rfl (lv_at hl 1 rfl) ?_
        refine lv_aload_n C.1 C.2.1 dX5_countWays_35 rfl (lv_at hl 2 rfl) ?_
        refine k_l (r_V (As := [.int x3, .ref (G.2.2 + 5), .ref (G.2.2 + 1)]) (rest := [.int x3, .ref (G.2.2 + 93)]) C hml (c_X5_countFrom l G x3 σ2 _ h) kM_X5_countFrom im_X5_countFrom se_X5_countFrom ml_X5_100 ⟨rfl, rfl⟩ ⟨Nat.le_of_ble_eq_true rfl, Nat.le_of_ble_eq_true rfl⟩ hcs S kd_90 (by decide) (T := TX5) (N := 8) rfl rfl hl.1 rfl (Nat.le_of_ble_eq_true rfl) dX5_countWays_36) S (fun r8 σ7 H locs h S => ?_)
        refine lv_goto (tgt := 43) C.1 C.2.1 dX5_countWays_39 (by decide) ?_
        refine a_lst C kd_93 S ln_93 h.1 dX5_countWays_43 (fun σ9 H locs e10 S => ?_)
        replace h := h.2 σ9 e10
        refine lv_iinc (v := (x3 + (-1))) (lv' := [(3, .int (x3 + (-1))), (0, .ref (G.2.2 + 90)), (1, .ref (G.2.2 + 5)), (2, .ref (G.2.2 + 1))]) C.1 C.2.1 dX5_countWays_44 hl (k := 3) rfl rfl (by decide) rfl (fun ls hl => ?_)
        refine lv_goto (tgt := 15) C.1 C.2.1 dX5_countWays_47 (by decide) ?_
        exact ih ((x3 + (-1))) _ _ _ _ S (lv_sub hl [1, 2, 3, 0] rfl) h
theorem kM_X5_countWays : s_M yX5_countWays cX5_countWays 4 none 2 := ⟨co_X5_countWays, in_X5, by decide, by decide, by decide +kernel⟩
set_option maxHeartbeats 4000000 in
set_option maxRecDepth 100000 in
theorem c_X5_countWays (l : Launch) (G : s_G)  (σ : Sg) (post : Sg → Prop) (h : wpX5_countWays σ post) : Met l yX5_countWays (wsU yX5_countWays cX5_countWays 4 none) rm_X5_countWays (va_Pc [.ref (G.2.2 + 90), .ref (G.2.2 + 5), .ref (G.2.2 + 1)] (s_Pre G σ)) (va_Qv post (s_B G) (s_A G.2.2)) 0 0 (s_A G.2.2) := by
  refine Met.ofW (cc := cX5_countWays) (maxL := 4) (ret := none) (by decide) rfl ?_
  intro p e s m args below meth c s₁ B hml hv
  obtain ⟨rfl, hP, hrok, hK, hN⟩ := hv
  have C : s_C G p s (([.ref (G.2.2 + 90), .ref (G.2.2 + 5), .ref (G.2.2 + 1)] : List Value).toArray) m c RX5 cX5_countWays := ⟨B.exec, B.bytes, findClass_of_methodNamed B.named, fun w hw => atoms_spec (ws := wsU yX5_countWays cX5_countWays 4 none) B.pre w (List.mem_cons_of_mem _ hw), hK, hN⟩
  have hr := B.returns
  have hlocks := B.notSynchronized
  have S : s_St G σ s.heap s.heap [] := ⟨hP, va_S.rf, hrok⟩
  have hcs : 0 ≤ (rm_X5_countWays).cells ∧ 0 ≤ (rm_X5_countWays).slots := ⟨Nat.le_refl 0, Nat.le_refl 0⟩
  have hR : ∀ (σ1 : Sg) (H : Heap) (locs : List Loc) (pc : Nat) (ls : Array Slot), decode cX5_countWays pc = .ok (.return_, 1) → post σ1 → s_St G σ1 s.heap H locs → W p l e rm_X5_countWays s m ([.ref (G.2.2 + 90), .ref (G.2.2 + 5), .ref (G.2.2 + 1)] : List Value).toArray below meth c H locs 0 0 (MQ below (va_Qv post (s_B G) (s_A G.2.2)) ([.ref (G.2.2 + 90), .ref (G.2.2 + 5), .ref (G.2.2 + 1)] : List Value).toArray s 0 0 (s_A G.2.2)) (F0 m pc ls []) := fun _ _ _ _ _ hd hp S => ret_v C hr hlocks hd hp S
  have hl := lv_entry ([.ref (G.2.2 + 90), .ref (G.2.2 + 5), .ref (G.2.2 + 1)]) (n := 4) (Nat.le_of_ble_eq_true rfl)
  rw [lg_entry_eq]
  generalize (lg_sl ([.ref (G.2.2 + 90), .ref (G.2.2 + 5), .ref (G.2.2 + 1)]) ++ List.replicate (4 - (lg_sl ([.ref (G.2.2 + 90), .ref (G.2.2 + 5), .ref (G.2.2 + 1)])).length) Slot.unset).toArray = ls at hl ⊢
  have hl : lv_has ls 4 [(0, .ref (G.2.2 + 90)), (1, .ref (G.2.2 + 5)), (2, .ref (G.2.2 + 1))] := hl
  unfold wpX5_countWays at h
  refine lv_aload_n C.1 C.2.1 dX5_countWays_0 rfl (lv_at hl 1 rfl) ?_
  refine k_i (r_VN (As := []) (rest := []) C hml (c_X1_tallies l G 5 σ _ kd_5 h) kM_X1_tallies im_X1_tallies se_X1_tallies nm_X5_53 ⟨rfl, rfl⟩ ⟨Nat.le_of_ble_eq_true rfl, Nat.le_of_ble_eq_true rfl⟩ hcs S kd_5 (by decide) (T := TX1) (N := 4) rfl rfl hl.1 rfl (Nat.le_of_ble_eq_true rfl) dX5_countWays_1) S (fun r12 σ11 H locs h S => ?_)
  refine lv_aload_n C.1 C.2.1 dX5_countWays_4 rfl (lv_at hl 0 rfl) ?_
  refine g_X5_2 C fl_X5_18 kd_90 S fn_90_2 dX5_countWays_5 ?_
  refine a_len9 C kd_93 S (v := (4096 : Int32)) (by rw [ln_93]; rfl) dX5_countWays_8 ?_
  refine va_mmin C.1 C.2.1 (hml.trans hl.1.symm) C.2.2.1 (C.2.2.2.1 _ ml_X5_95) (C.2.2.2.1 _ st_min) (C.2.2.2.1 _ in_math) (C.2.2.2.1 _ co_min) (Nat.le_of_ble_eq_true rfl) (Nat.le_of_ble_eq_true rfl) hcs.1 hcs.2 dX5_countWays_9 ?_
  refine lv_iconst (v := (1 : Int32)) C.1 C.2.1 dX5_countWays_12 (by decide) ?_
  refine lv_isub C.1 C.2.1 dX5_countWays_13 ?_
  refine lv_istore_n (lv' := [(3, .int ((if (4096 : Int32) < r12 then (4096 : Int32) else r12) - (1 : Int32))), (0, .ref (G.2.2 + 90)), (1, .ref (G.2.2 + 5)), (2, .ref (G.2.2 + 1))]) C.1 C.2.1 dX5_countWays_14 rfl hl (by decide) rfl (fun ls hl => ?_)
  obtain ⟨nf, h⟩ := h
  exact TX5_countWays_15 C hml hcs hR nf (((if (4096 : Int32) < r12 then (4096 : Int32) else r12) - (1 : Int32))) S (lv_sub hl [1, 2, 3, 0] rfl) h
end M3
