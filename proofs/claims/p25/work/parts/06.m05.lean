section M5
variable {p : Program} {l : Launch} {e : Env} {R : Room} {s : State} {m : MethodId} {args : Array Value} {below : List Frame} {meth : Method} {c : Code} {H0 : Heap} {cells slots : Nat} {Q : State → Prop} {G : s_G}
/-! X1_hasWord -/
abbrev rm_X1_hasWord : Room := { frames := 1, cells := 0, slots := 0, locals := 21 }
def BX1_hasWord_2 (k0 : Nat) (x1 : Int32) (post : Int32 → Sg → Prop) : Nat → Int32 → Sg → Prop
  | 0, _, _ => False
  | n + 1, x2, σ => ((((σ.1 k0 2) ≤ x2) → post (0 : Int32) σ) ∧ ((¬ (σ.1 k0 2) ≤ x2) → wpX1_at k0 x2 σ (fun q3 σ2 => s_kd q3 = 3 → (((¬ (σ2.1 q3 0) = x1) → BX1_hasWord_2 k0 x1 post n ((x2 + 1)) σ2) ∧ (((σ2.1 q3 0) = x1) → post (1 : Int32) σ2)))))
def wpX1_hasWord (k0 : Nat) (x1 : Int32) (σ : Sg) (post : Int32 → Sg → Prop) : Prop := ∃ nf, BX1_hasWord_2 k0 x1 post nf ((0 : Int32)) σ
set_option maxHeartbeats 4000000 in
set_option maxRecDepth 100000 in
theorem TX1_hasWord_2 (C : s_C G p s args m c RX1 cX1_hasWord) (hml : c.maxLocals = 3) (hcs : cells ≤ (rm_X1_hasWord).cells ∧ slots ≤ (rm_X1_hasWord).slots) {k0 : Nat} {x1 : Int32} (hk0 : s_kd k0 = 1) {post : Int32 → Sg → Prop} (hR : ∀ (r : Int32) (σ1 : Sg) (H : Heap) (locs : List Loc) (pc : Nat) (ls : Array Slot), decode cX1_hasWord pc = .ok (.ireturn, 1) → narrow .boolean (.int r) = .int r → post r σ1 → s_St G σ1 H0 H locs → W p l e rm_X1_hasWord s m args below meth c H locs cells slots Q (F0 m pc ls [.int r])) : ∀ (n : Nat) (x2 : Int32), ∀ {σ : Sg} {H : Heap} {locs : List Loc} {ls : Array Slot}, s_St G σ H0 H locs → lv_has ls 3 [(0, .ref (G.2.2 + k0)), (1, .int x1), (2, .int x2)] → BX1_hasWord_2 k0 x1 post n x2 σ → W p l e rm_X1_hasWord s m args below meth c H locs cells slots Q (F0 m 2 ls []) := by
  intro n
  induction n with
  | zero =>
    intro x2  σ H locs ls S hl h
    exact absurd h (fun h => h)
  | succ n ih0 =>
    have ih : ∀ (x2 : Int32), ∀ (σ : Sg) (H : Heap) (locs : List Loc) (ls : Array Slot), s_St G σ H0 H locs → lv_has ls 3 [(0, .ref (G.2.2 + k0)), (1, .int x1), (2, .int x2)] → BX1_hasWord_2 k0 x1 post n x2 σ → W p l e rm_X1_hasWord s m args below meth c H locs cells slots Q (F0 m 2 ls []) := fun x2  _ _ _ _ => ih0 x2 
    intro x2  σ H locs ls S hl h
    refine lv_iload_n C.1 C.2.1 dX1_hasWord_2 rfl (lv_at hl 2 rfl) ?_
    refine lv_aload_n C.1 C.2.1 dX1_hasWord_3 rfl (lv_at hl 0 rfl) ?_
    refine g_X1_2 C fl_X1_22 hk0 S dX1_hasWord_4 ?_
    refine lv_icmp_ge (tgt := 30) C.1 C.2.1 dX1_hasWord_7 (by decide) (fun c1 => ?_) (fun c1 => ?_)
    · replace h := h.1 c1
      refine lv_iconst (v := (0 : Int32)) C.1 C.2.1 dX1_hasWord_30 (by decide) ?_
      exact hR _ _ _ _ _ _ dX1_hasWord_31 rfl h S
    · replace h := h.2 c1
      refine lv_aload_n C.1 C.2.1 dX1_hasWord_10 rfl (lv_at hl 0 rfl) ?_
      refine lv_iload_n C.1 C.2.1 dX1_hasWord_11 rfl (lv_at hl 2 rfl) ?_
      refine k_r (kd := 3) (r_V (As := [.int x2]) (rest := []) C hml (c_X1_at l G k0 x2 σ _ hk0 h) kM_X1_at im_X1_at se_X1_at ml_X1_29 ⟨rfl, rfl⟩ ⟨Nat.le_of_ble_eq_true rfl, Nat.le_of_ble_eq_true rfl⟩ hcs S.v hk0 (by decide) (T := TX1) (N := 4) rfl rfl hl.1 rfl (Nat.le_of_ble_eq_true rfl) dX1_hasWord_12) S (fun q3 σ2 H locs hq3 h S => ?_)
      replace h := h hq3
      refine gn_X3_0 C nf_X1_37 hq3 S dX1_hasWord_15 ?_
      refine lv_iload_n C.1 C.2.1 dX1_hasWord_18 rfl (lv_at hl 1 rfl) ?_
      refine lv_icmp_ne (tgt := 24) C.1 C.2.1 dX1_hasWord_19 (by decide) (fun c4 => ?_) (fun c4 => ?_)
      · replace h := h.1 c4
        refine lv_iinc (v := (x2 + 1)) (lv' := [(2, .int (x2 + 1)), (0, .ref (G.2.2 + k0)), (1, .int x1)]) C.1 C.2.1 dX1_hasWord_24 hl (k := 2) rfl rfl (by decide) rfl (fun ls hl => ?_)
        refine lv_goto (tgt := 2) C.1 C.2.1 dX1_hasWord_27 (by decide) ?_
        exact ih ((x2 + 1)) _ _ _ _ S (lv_sub hl [1, 2, 0] rfl) h
      · replace h := h.2 c4
        refine lv_iconst (v := (1 : Int32)) C.1 C.2.1 dX1_hasWord_22 (by decide) ?_
        exact hR _ _ _ _ _ _ dX1_hasWord_23 rfl h S
theorem kM_X1_hasWord : s_M yX1_hasWord cX1_hasWord 3 (some .boolean) 1 := ⟨co_X1_hasWord, in_X1, by decide, by decide, by decide +kernel⟩
set_option maxHeartbeats 4000000 in
set_option maxRecDepth 100000 in
theorem c_X1_hasWord (l : Launch) (G : s_G) (k0 : Nat) (x1 : Int32) (σ : Sg) (post : Int32 → Sg → Prop) (hk0 : s_kd k0 = 1) (h : wpX1_hasWord k0 x1 σ post) : Met l yX1_hasWord (wsU yX1_hasWord cX1_hasWord 3 (some .boolean)) rm_X1_hasWord (va_Pc [.ref (G.2.2 + k0), .int x1] (s_Pre G σ)) (va_Qi post (s_B G) (s_A G.2.2)) 0 0 (s_A G.2.2) := by
  refine Met.ofW (cc := cX1_hasWord) (maxL := 3) (ret := (some .boolean)) (by decide) rfl ?_
  intro p e s m args below meth c s₁ B hml hv
  obtain ⟨rfl, hP, hrok, hK, hN⟩ := hv
  have C : s_C G p s (([.ref (G.2.2 + k0), .int x1] : List Value).toArray) m c RX1 cX1_hasWord := ⟨B.exec, B.bytes, findClass_of_methodNamed B.named, fun w hw => atoms_spec (ws := wsU yX1_hasWord cX1_hasWord 3 (some .boolean)) B.pre w (List.mem_cons_of_mem _ hw), hK, hN⟩
  have hr := B.returns
  have hlocks := B.notSynchronized
  have S : s_St G σ s.heap s.heap [] := ⟨hP, va_S.rf, hrok⟩
  have hcs : 0 ≤ (rm_X1_hasWord).cells ∧ 0 ≤ (rm_X1_hasWord).slots := ⟨Nat.le_refl 0, Nat.le_refl 0⟩
  have hR : ∀ (r : Int32) (σ1 : Sg) (H : Heap) (locs : List Loc) (pc : Nat) (ls : Array Slot), decode cX1_hasWord pc = .ok (.ireturn, 1) → narrow .boolean (.int r) = .int r → post r σ1 → s_St G σ1 s.heap H locs → W p l e rm_X1_hasWord s m ([.ref (G.2.2 + k0), .int x1] : List Value).toArray below meth c H locs 0 0 (MQ below (va_Qi post (s_B G) (s_A G.2.2)) ([.ref (G.2.2 + k0), .int x1] : List Value).toArray s 0 0 (s_A G.2.2)) (F0 m pc ls [.int r]) := fun _ _ _ _ _ _ hd hn hp S => ret_z C hr hlocks hd hn hp S
  have hl := lv_entry ([.ref (G.2.2 + k0), .int x1]) (n := 3) (Nat.le_of_ble_eq_true rfl)
  rw [lg_entry_eq]
  generalize (lg_sl ([.ref (G.2.2 + k0), .int x1]) ++ List.replicate (3 - (lg_sl ([.ref (G.2.2 + k0), .int x1])).length) Slot.unset).toArray = ls at hl ⊢
  have hl : lv_has ls 3 [(0, .ref (G.2.2 + k0)), (1, .int x1)] := hl
  unfold wpX1_hasWord at h
  refine lv_iconst (v := (0 : Int32)) C.1 C.2.1 dX1_hasWord_0 (by decide) ?_
  refine lv_istore_n (lv' := [(2, .int (0 : Int32)), (0, .ref (G.2.2 + k0)), (1, .int x1)]) C.1 C.2.1 dX1_hasWord_1 rfl hl (by decide) rfl (fun ls hl => ?_)
  obtain ⟨nf, h⟩ := h
  exact TX1_hasWord_2 C hml hcs hk0 hR nf ((0 : Int32)) S (lv_sub hl [1, 2, 0] rfl) h
/-! X6_isKind -/
abbrev rm_X6_isKind : Room := { frames := 0, cells := 0, slots := 0, locals := 0 }
def wpX6_isKind (x0 : Int32) (σ : Sg) (post : Int32 → Sg → Prop) : Prop := (((x0 = 0) → post (1 : Int32) σ) ∧ ((¬ x0 = 0) → (((x0 = (1 : Int32)) → post (1 : Int32) σ) ∧ ((¬ x0 = (1 : Int32)) → (((¬ x0 = (2 : Int32)) → post (0 : Int32) σ) ∧ ((x0 = (2 : Int32)) → post (1 : Int32) σ))))))
theorem kM_X6_isKind : s_M yX6_isKind cX6_isKind 1 (some .boolean) 1 := ⟨co_X6_isKind, in_X6, by decide, by decide, by decide +kernel⟩
set_option maxHeartbeats 4000000 in
set_option maxRecDepth 100000 in
theorem c_X6_isKind (l : Launch) (G : s_G) (x0 : Int32) (σ : Sg) (post : Int32 → Sg → Prop) (h : wpX6_isKind x0 σ post) : Met l yX6_isKind (wsU yX6_isKind cX6_isKind 1 (some .boolean)) rm_X6_isKind (va_Pc [.int x0] (s_Pre G σ)) (va_Qi post (s_B G) (s_A G.2.2)) 0 0 (s_A G.2.2) := by
  refine Met.ofW (cc := cX6_isKind) (maxL := 1) (ret := (some .boolean)) (by decide) rfl ?_
  intro p e s m args below meth c s₁ B hml hv
  obtain ⟨rfl, hP, hrok, hK, hN⟩ := hv
  have C : s_C G p s (([.int x0] : List Value).toArray) m c RX6 cX6_isKind := ⟨B.exec, B.bytes, findClass_of_methodNamed B.named, fun w hw => atoms_spec (ws := wsU yX6_isKind cX6_isKind 1 (some .boolean)) B.pre w (List.mem_cons_of_mem _ hw), hK, hN⟩
  have hr := B.returns
  have hlocks := B.notSynchronized
  have S : s_St G σ s.heap s.heap [] := ⟨hP, va_S.rf, hrok⟩
  have hcs : 0 ≤ (rm_X6_isKind).cells ∧ 0 ≤ (rm_X6_isKind).slots := ⟨Nat.le_refl 0, Nat.le_refl 0⟩
  have hR : ∀ (r : Int32) (σ1 : Sg) (H : Heap) (locs : List Loc) (pc : Nat) (ls : Array Slot), decode cX6_isKind pc = .ok (.ireturn, 1) → narrow .boolean (.int r) = .int r → post r σ1 → s_St G σ1 s.heap H locs → W p l e rm_X6_isKind s m ([.int x0] : List Value).toArray below meth c H locs 0 0 (MQ below (va_Qi post (s_B G) (s_A G.2.2)) ([.int x0] : List Value).toArray s 0 0 (s_A G.2.2)) (F0 m pc ls [.int r]) := fun _ _ _ _ _ _ hd hn hp S => ret_z C hr hlocks hd hn hp S
  have hl := lv_entry ([.int x0]) (n := 1) (Nat.le_of_ble_eq_true rfl)
  rw [lg_entry_eq]
  generalize (lg_sl ([.int x0]) ++ List.replicate (1 - (lg_sl ([.int x0])).length) Slot.unset).toArray = ls at hl ⊢
  have hl : lv_has ls 1 [(0, .int x0)] := hl
  unfold wpX6_isKind at h
  refine lv_iload_n C.1 C.2.1 dX6_isKind_0 rfl (lv_at hl 0 rfl) ?_
  refine lv_if_eq (tgt := 14) C.1 C.2.1 dX6_isKind_1 (by decide) (fun c1 => ?_) (fun c1 => ?_)
  · replace h := h.1 c1
    refine lv_iconst (v := (1 : Int32)) C.1 C.2.1 dX6_isKind_14 (by decide) ?_
    refine lv_goto (tgt := 19) C.1 C.2.1 dX6_isKind_15 (by decide) ?_
    exact hR _ _ _ _ _ _ dX6_isKind_19 rfl h S
  · replace h := h.2 c1
    refine lv_iload_n C.1 C.2.1 dX6_isKind_4 rfl (lv_at hl 0 rfl) ?_
    refine lv_iconst (v := (1 : Int32)) C.1 C.2.1 dX6_isKind_5 (by decide) ?_
    refine lv_icmp_eq (tgt := 14) C.1 C.2.1 dX6_isKind_6 (by decide) (fun c2 => ?_) (fun c2 => ?_)
    · replace h := h.1 c2
      refine lv_iconst (v := (1 : Int32)) C.1 C.2.1 dX6_isKind_14 (by decide) ?_
      refine lv_goto (tgt := 19) C.1 C.2.1 dX6_isKind_15 (by decide) ?_
      exact hR _ _ _ _ _ _ dX6_isKind_19 rfl h S
    · replace h := h.2 c2
      refine lv_iload_n C.1 C.2.1 dX6_isKind_9 rfl (lv_at hl 0 rfl) ?_
      refine lv_iconst (v := (2 : Int32)) C.1 C.2.1 dX6_isKind_10 (by decide) ?_
      refine lv_icmp_ne (tgt := 18) C.1 C.2.1 dX6_isKind_11 (by decide) (fun c3 => ?_) (fun c3 => ?_)
      · replace h := h.1 c3
        refine lv_iconst (v := (0 : Int32)) C.1 C.2.1 dX6_isKind_18 (by decide) ?_
        exact hR _ _ _ _ _ _ dX6_isKind_19 rfl h S
      · replace h := h.2 c3
        refine lv_iconst (v := (1 : Int32)) C.1 C.2.1 dX6_isKind_14 (by decide) ?_
        refine lv_goto (tgt := 19) C.1 C.2.1 dX6_isKind_15 (by decide) ?_
        exact hR _ _ _ _ _ _ dX6_isKind_19 rfl h S
/-! X6_declare -/
abbrev rm_X6_declare : Room := { frames := 4, cells := 0, slots := 0, locals := 84 }
def BX6_declare_31 (x1 : Int32) (x2 : Int32) (x3 : Int32) (post : Int32 → Sg → Prop) (y0 : Int32) (σ : Sg) : Prop := (((¬ y0 = 0) → wpX0_asWord 1 σ (fun r3 σ2 => (((r3 = 0) → post ((-2 : Int32)) σ2) ∧ ((¬ r3 = 0) → wpX1_hasWord 5 r3 σ2 (fun r6 σ5 => (((r6 = 0) → ((((σ5.1 5 2) < (6 : Int32)) → wpX6_beginChange σ5 (fun σ9 => wpX1_add 5 r3 x1 x2 x3 σ9 (fun r11 σ10 => post r11 σ10))) ∧ ((¬ (σ5.1 5 2) < (6 : Int32)) → post ((-3 : Int32)) σ5))) ∧ ((¬ r6 = 0) → post ((-2 : Int32)) σ5))))))) ∧ ((y0 = 0) → post ((-1 : Int32)) σ))
def wpX6_declare (x1 : Int32) (x2 : Int32) (x3 : Int32) (σ : Sg) (post : Int32 → Sg → Prop) : Prop := wpX6_isKind x1 σ (fun r13 σ12 => (((r13 = 0) → BX6_declare_31 x1 x2 x3 post ((0 : Int32)) σ12) ∧ ((¬ r13 = 0) → (((x2 < 0) → BX6_declare_31 x1 x2 x3 post ((0 : Int32)) σ12) ∧ ((¬ x2 < 0) → (((x3 < (1 : Int32)) → BX6_declare_31 x1 x2 x3 post ((0 : Int32)) σ12) ∧ ((¬ x3 < (1 : Int32)) → ((((3 : Int32) < x3) → BX6_declare_31 x1 x2 x3 post ((0 : Int32)) σ12) ∧ ((¬ (3 : Int32) < x3) → (((x3 < x2) → BX6_declare_31 x1 x2 x3 post ((0 : Int32)) σ12) ∧ ((¬ x3 < x2) → BX6_declare_31 x1 x2 x3 post ((1 : Int32)) σ12)))))))))))
set_option maxHeartbeats 4000000 in
set_option maxRecDepth 100000 in
theorem TX6_declare_31 (C : s_C G p s args m c RX6 cX6_declare) (hml : c.maxLocals = 6) (hcs : cells ≤ (rm_X6_declare).cells ∧ slots ≤ (rm_X6_declare).slots) {x1 : Int32} {x2 : Int32} {x3 : Int32} {post : Int32 → Sg → Prop} (hR : ∀ (r : Int32) (σ1 : Sg) (H : Heap) (locs : List Loc) (pc : Nat) (ls : Array Slot), decode cX6_declare pc = .ok (.ireturn, 1) → post r σ1 → s_St G σ1 H0 H locs → W p l e rm_X6_declare s m args below meth c H locs cells slots Q (F0 m pc ls [.int r])) : ∀ (y0 : Int32), ∀ {σ : Sg} {H : Heap} {locs : List Loc} {ls : Array Slot}, s_St G σ H0 H locs → lv_has ls 6 [(0, .ref (G.2.2 + 0)), (1, .int x1), (2, .int x2), (3, .int x3)] → BX6_declare_31 x1 x2 x3 post y0 σ → W p l e rm_X6_declare s m args below meth c H locs cells slots Q (F0 m 31 ls [.int y0]) := by
  intro y0  σ H locs ls S hl h
  unfold BX6_declare_31 at h
  refine lv_istore (lv' := [(4, .int y0), (0, .ref (G.2.2 + 0)), (1, .int x1), (2, .int x2), (3, .int x3)]) C.1 C.2.1 dX6_declare_31 hl (by decide) rfl (fun ls hl => ?_)
  refine lv_iload C.1 C.2.1 dX6_declare_33 (lv_at hl 0 rfl) ?_
  refine lv_if_ne (tgt := 40) C.1 C.2.1 dX6_declare_35 (by decide) (fun c1 => ?_) (fun c1 => ?_)
  · replace h := h.1 c1
    refine lv_aload_n C.1 C.2.1 dX6_declare_40 rfl (lv_at hl 1 rfl) ?_
    refine g_X6_0 C fl_X6_10 kd_0 S fn_0_0 dX6_declare_41 ?_
    refine k_i (r_VN (As := []) (rest := []) C hml (c_X0_asWord l G 1 σ _ kd_1 h) kM_X0_asWord im_X0_asWord se_X0_asWord nm_X6_72 ⟨rfl, rfl⟩ ⟨Nat.le_of_ble_eq_true rfl, Nat.le_of_ble_eq_true rfl⟩ hcs S.v kd_1 (by decide) (T := TX0) (N := 2) rfl rfl hl.1 rfl (Nat.le_of_ble_eq_true rfl) dX6_declare_44) S (fun r3 σ2 H locs h S => ?_)
    refine lv_istore (lv' := [(5, .int r3), (4, .int y0), (0, .ref (G.2.2 + 0)), (1, .int x1), (2, .int x2), (3, .int x3)]) C.1 C.2.1 dX6_declare_47 hl (by decide) rfl (fun ls hl => ?_)
    refine lv_iload C.1 C.2.1 dX6_declare_49 (lv_at hl 0 rfl) ?_
    refine lv_if_eq (tgt := 66) C.1 C.2.1 dX6_declare_51 (by decide) (fun c4 => ?_) (fun c4 => ?_)
    · replace h := h.1 c4
      refine lv_bipush (v := (-2 : Int32)) C.1 C.2.1 dX6_declare_66 (by decide) ?_
      exact hR _ _ _ _ _ _ dX6_declare_68 h S
    · replace h := h.2 c4
      refine lv_aload_n C.1 C.2.1 dX6_declare_54 rfl (lv_at hl 2 rfl) ?_
      refine g_X6_2 C fl_X6_22 kd_0 S fn_0_2 dX6_declare_55 ?_
      refine lv_iload C.1 C.2.1 dX6_declare_58 (lv_at hl 0 rfl) ?_
      refine k_i (r_VN (As := [.int r3]) (rest := []) C hml (c_X1_hasWord l G 5 r3 σ2 _ kd_5 h) kM_X1_hasWord im_X1_hasWord se_X1_hasWord nm_X6_76 ⟨rfl, rfl⟩ ⟨Nat.le_of_ble_eq_true rfl, Nat.le_of_ble_eq_true rfl⟩ hcs S.v kd_5 (by decide) (T := TX1) (N := 4) rfl rfl hl.1 rfl (Nat.le_of_ble_eq_true rfl) dX6_declare_60) S (fun r6 σ5 H locs h S => ?_)
      refine lv_if_eq (tgt := 69) C.1 C.2.1 dX6_declare_63 (by decide) (fun c7 => ?_) (fun c7 => ?_)
      · replace h := h.1 c7
        refine lv_aload_n C.1 C.2.1 dX6_declare_69 rfl (lv_at hl 2 rfl) ?_
        refine g_X6_2 C fl_X6_22 kd_0 S fn_0_2 dX6_declare_70 ?_
        refine gn_X1_2 C nf_X6_79 kd_5 S dX6_declare_73 ?_
        refine lv_bipush (v := (6 : Int32)) C.1 C.2.1 dX6_declare_76 (by decide) ?_
        refine lv_icmp_lt (tgt := 84) C.1 C.2.1 dX6_declare_78 (by decide) (fun c8 => ?_) (fun c8 => ?_)
        · replace h := h.1 c8
          refine lv_aload_n C.1 C.2.1 dX6_declare_84 rfl (lv_at hl 2 rfl) ?_
          refine k_v (r_V (As := []) (rest := []) C hml (c_X6_beginChange l G σ5 _ h) kM_X6_beginChange im_X6_beginChange se_X6_beginChange ml_X6_82 ⟨rfl, rfl⟩ ⟨Nat.le_of_ble_eq_true rfl, Nat.le_of_ble_eq_true rfl⟩ hcs S.v kd_0 (by decide) (T := TX6) (N := 8) rfl rfl hl.1 rfl (Nat.le_of_ble_eq_true rfl) dX6_declare_85) S (fun σ9 H locs h S => ?_)
          refine lv_aload_n C.1 C.2.1 dX6_declare_88 rfl (lv_at hl 2 rfl) ?_
          refine g_X6_2 C fl_X6_22 kd_0 S fn_0_2 dX6_declare_89 ?_
          refine lv_iload C.1 C.2.1 dX6_declare_92 (lv_at hl 0 rfl) ?_
          refine lv_iload_n C.1 C.2.1 dX6_declare_94 rfl (lv_at hl 3 rfl) ?_
          refine lv_iload_n C.1 C.2.1 dX6_declare_95 rfl (lv_at hl 4 rfl) ?_
          refine lv_iload_n C.1 C.2.1 dX6_declare_96 rfl (lv_at hl 5 rfl) ?_
          refine k_i (r_VN (As := [.int r3, .int x1, .int x2, .int x3]) (rest := []) C hml (c_X1_add l G 5 r3 x1 x2 x3 σ9 _ kd_5 h) kM_X1_add im_X1_add se_X1_add nm_X6_85 ⟨rfl, rfl⟩ ⟨Nat.le_of_ble_eq_true rfl, Nat.le_of_ble_eq_true rfl⟩ hcs S.v kd_5 (by decide) (T := TX1) (N := 4) rfl rfl hl.1 rfl (Nat.le_of_ble_eq_true rfl) dX6_declare_97) S (fun r11 σ10 H locs h S => ?_)
          exact hR _ _ _ _ _ _ dX6_declare_100 h S
        · replace h := h.2 c8
          refine lv_bipush (v := (-3 : Int32)) C.1 C.2.1 dX6_declare_81 (by decide) ?_
          exact hR _ _ _ _ _ _ dX6_declare_83 h S
      · replace h := h.2 c7
        refine lv_bipush (v := (-2 : Int32)) C.1 C.2.1 dX6_declare_66 (by decide) ?_
        exact hR _ _ _ _ _ _ dX6_declare_68 h S
  · replace h := h.2 c1
    refine lv_iconst (v := (-1 : Int32)) C.1 C.2.1 dX6_declare_38 (by decide) ?_
    exact hR _ _ _ _ _ _ dX6_declare_39 h S
theorem kM_X6_declare : s_M yX6_declare cX6_declare 6 (some .int) 3 := ⟨co_X6_declare, in_X6, by decide, by decide, by decide +kernel⟩
set_option maxHeartbeats 4000000 in
set_option maxRecDepth 100000 in
theorem c_X6_declare (l : Launch) (G : s_G) (x1 : Int32) (x2 : Int32) (x3 : Int32) (σ : Sg) (post : Int32 → Sg → Prop) (h : wpX6_declare x1 x2 x3 σ post) : Met l yX6_declare (wsU yX6_declare cX6_declare 6 (some .int)) rm_X6_declare (va_Pc [.ref (G.2.2 + 0), .int x1, .int x2, .int x3] (s_Pre G σ)) (va_Qi post (s_B G) (s_A G.2.2)) 0 0 (s_A G.2.2) := by
  refine Met.ofW (cc := cX6_declare) (maxL := 6) (ret := (some .int)) (by decide) rfl ?_
  intro p e s m args below meth c s₁ B hml hv
  obtain ⟨rfl, hP, hrok, hK, hN⟩ := hv
  have C : s_C G p s (([.ref (G.2.2 + 0), .int x1, .int x2, .int x3] : List Value).toArray) m c RX6 cX6_declare := ⟨B.exec, B.bytes, findClass_of_methodNamed B.named, fun w hw => atoms_spec (ws := wsU yX6_declare cX6_declare 6 (some .int)) B.pre w (List.mem_cons_of_mem _ hw), hK, hN⟩
  have hr := B.returns
  have hlocks := B.notSynchronized
  have S : s_St G σ s.heap s.heap [] := ⟨hP, va_S.rf, hrok⟩
  have hcs : 0 ≤ (rm_X6_declare).cells ∧ 0 ≤ (rm_X6_declare).slots := ⟨Nat.le_refl 0, Nat.le_refl 0⟩
  have hR : ∀ (r : Int32) (σ1 : Sg) (H : Heap) (locs : List Loc) (pc : Nat) (ls : Array Slot), decode cX6_declare pc = .ok (.ireturn, 1) → post r σ1 → s_St G σ1 s.heap H locs → W p l e rm_X6_declare s m ([.ref (G.2.2 + 0), .int x1, .int x2, .int x3] : List Value).toArray below meth c H locs 0 0 (MQ below (va_Qi post (s_B G) (s_A G.2.2)) ([.ref (G.2.2 + 0), .int x1, .int x2, .int x3] : List Value).toArray s 0 0 (s_A G.2.2)) (F0 m pc ls [.int r]) := fun _ _ _ _ _ _ hd hp S => ret_i C hr hlocks hd hp S
  have hl := lv_entry ([.ref (G.2.2 + 0), .int x1, .int x2, .int x3]) (n := 6) (Nat.le_of_ble_eq_true rfl)
  rw [lg_entry_eq]
  generalize (lg_sl ([.ref (G.2.2 + 0), .int x1, .int x2, .int x3]) ++ List.replicate (6 - (lg_sl ([.ref (G.2.2 + 0), .int x1, .int x2, .int x3])).length) Slot.unset).toArray = ls at hl ⊢
  have hl : lv_has ls 6 [(0, .ref (G.2.2 + 0)), (1, .int x1), (2, .int x2), (3, .int x3)] := hl
  unfold wpX6_declare at h
  refine lv_iload_n C.1 C.2.1 dX6_declare_0 rfl (lv_at hl 1 rfl) ?_
  refine k_i (r_S (As := [.int x1]) (rest := []) C hml (c_X6_isKind l G x1 σ _ h) kM_X6_isKind st_X6_isKind ml_X6_69 ⟨rfl, rfl⟩ ⟨Nat.le_of_ble_eq_true rfl, Nat.le_of_ble_eq_true rfl⟩ hcs S.v rfl hl.1 rfl (Nat.le_of_ble_eq_true rfl) dX6_declare_1) S (fun r13 σ12 H locs h S => ?_)
  refine lv_if_eq (tgt := 30) C.1 C.2.1 dX6_declare_4 (by decide) (fun c14 => ?_) (fun c14 => ?_)
  · replace h := h.1 c14
    refine lv_iconst (v := (0 : Int32)) C.1 C.2.1 dX6_declare_30 (by decide) ?_
    exact TX6_declare_31 C hml hcs hR ((0 : Int32)) S (lv_sub hl [0, 1, 2, 3] rfl) h
  · replace h := h.2 c14
    refine lv_iload_n C.1 C.2.1 dX6_declare_7 rfl (lv_at hl 2 rfl) ?_
    refine lv_if_lt (tgt := 30) C.1 C.2.1 dX6_declare_8 (by decide) (fun c15 => ?_) (fun c15 => ?_)
    · replace h := h.1 c15
      refine lv_iconst (v := (0 : Int32)) C.1 C.2.1 dX6_declare_30 (by decide) ?_
      exact TX6_declare_31 C hml hcs hR ((0 : Int32)) S (lv_sub hl [0, 1, 2, 3] rfl) h
    · replace h := h.2 c15
      refine lv_iload_n C.1 C.2.1 dX6_declare_11 rfl (lv_at hl 3 rfl) ?_
      refine lv_iconst (v := (1 : Int32)) C.1 C.2.1 dX6_declare_12 (by decide) ?_
      refine lv_icmp_lt (tgt := 30) C.1 C.2.1 dX6_declare_13 (by decide) (fun c16 => ?_) (fun c16 => ?_)
      · replace h := h.1 c16
        refine lv_iconst (v := (0 : Int32)) C.1 C.2.1 dX6_declare_30 (by decide) ?_
        exact TX6_declare_31 C hml hcs hR ((0 : Int32)) S (lv_sub hl [0, 1, 2, 3] rfl) h
      · replace h := h.2 c16
        refine lv_iload_n C.1 C.2.1 dX6_declare_16 rfl (lv_at hl 3 rfl) ?_
        refine lv_iconst (v := (3 : Int32)) C.1 C.2.1 dX6_declare_17 (by decide) ?_
        refine lv_icmp_gt (tgt := 30) C.1 C.2.1 dX6_declare_18 (by decide) (fun c17 => ?_) (fun c17 => ?_)
        · replace h := h.1 c17
          refine lv_iconst (v := (0 : Int32)) C.1 C.2.1 dX6_declare_30 (by decide) ?_
          exact TX6_declare_31 C hml hcs hR ((0 : Int32)) S (lv_sub hl [0, 1, 2, 3] rfl) h
        · replace h := h.2 c17
          refine lv_iload_n C.1 C.2.1 dX6_declare_21 rfl (lv_at hl 2 rfl) ?_
          refine lv_iload_n C.1 C.2.1 dX6_declare_22 rfl (lv_at hl 3 rfl) ?_
          refine lv_icmp_gt (tgt := 30) C.1 C.2.1 dX6_declare_23 (by decide) (fun c18 => ?_) (fun c18 => ?_)
          · replace h := h.1 c18
            refine lv_iconst (v := (0 : Int32)) C.1 C.2.1 dX6_declare_30 (by decide) ?_
            exact TX6_declare_31 C hml hcs hR ((0 : Int32)) S (lv_sub hl [0, 1, 2, 3] rfl) h
          · replace h := h.2 c18
            refine lv_iconst (v := (1 : Int32)) C.1 C.2.1 dX6_declare_26 (by decide) ?_
            refine lv_goto (tgt := 31) C.1 C.2.1 dX6_declare_27 (by decide) ?_
            exact TX6_declare_31 C hml hcs hR ((1 : Int32)) S (lv_sub hl [0, 1, 2, 3] rfl) h
/-! X6_keep -/
abbrev rm_X6_keep : Room := { frames := 2, cells := 0, slots := 0, locals := 43 }
def wpX6_keep (x1 : Int32) (σ : Sg) (post : Int32 → Sg → Prop) : Prop := wpX6_isImage x1 σ (fun r2 σ1 => (((¬ r2 = 0) → (vp_in x1 2 ∧ (∀ q4 : Nat, q4 = (σ1.2.2 88 (x1).toNatClampNeg) → wpX1_copyFrom q4 5 σ1 (fun σ6 => (vp_in x1 2 ∧ (∀ σ7 : Sg, σ7 = setI σ6 89 (x1).toNatClampNeg (vp_nar .boolean ((1 : Int32))) → post ((σ7.1 5 2)) σ7)))))) ∧ ((r2 = 0) → post ((-1 : Int32)) σ1)))
theorem kM_X6_keep : s_M yX6_keep cX6_keep 2 (some .int) 1 := ⟨co_X6_keep, in_X6, by decide, by decide, by decide +kernel⟩
set_option maxHeartbeats 4000000 in
set_option maxRecDepth 100000 in
theorem c_X6_keep (l : Launch) (G : s_G) (x1 : Int32) (σ : Sg) (post : Int32 → Sg → Prop) (h : wpX6_keep x1 σ post) : Met l yX6_keep (wsU yX6_keep cX6_keep 2 (some .int)) rm_X6_keep (va_Pc [.ref (G.2.2 + 0), .int x1] (s_Pre G σ)) (va_Qi post (s_B G) (s_A G.2.2)) 0 0 (s_A G.2.2) := by
  refine Met.ofW (cc := cX6_keep) (maxL := 2) (ret := (some .int)) (by decide) rfl ?_
  intro p e s m args below meth c s₁ B hml hv
  obtain ⟨rfl, hP, hrok, hK, hN⟩ := hv
  have C : s_C G p s (([.ref (G.2.2 + 0), .int x1] : List Value).toArray) m c RX6 cX6_keep := ⟨B.exec, B.bytes, findClass_of_methodNamed B.named, fun w hw => atoms_spec (ws := wsU yX6_keep cX6_keep 2 (some .int)) B.pre w (List.mem_cons_of_mem _ hw), hK, hN⟩
  have hr := B.returns
  have hlocks := B.notSynchronized
  have S : s_St G σ s.heap s.heap [] := ⟨hP, va_S.rf, hrok⟩
  have hcs : 0 ≤ (rm_X6_keep).cells ∧ 0 ≤ (rm_X6_keep).slots := ⟨Nat.le_refl 0, Nat.le_refl 0⟩
  have hR : ∀ (r : Int32) (σ1 : Sg) (H : Heap) (locs : List Loc) (pc : Nat) (ls : Array Slot), decode cX6_keep pc = .ok (.ireturn, 1) → post r σ1 → s_St G σ1 s.heap H locs → W p l e rm_X6_keep s m ([.ref (G.2.2 + 0), .int x1] : List Value).toArray below meth c H locs 0 0 (MQ below (va_Qi post (s_B G) (s_A G.2.2)) ([.ref (G.2.2 + 0), .int x1] : List Value).toArray s 0 0 (s_A G.2.2)) (F0 m pc ls [.int r]) := fun _ _ _ _ _ _ hd hp S => ret_i C hr hlocks hd hp S
  have hl := lv_entry ([.ref (G.2.2 + 0), .int x1]) (n := 2) (Nat.le_of_ble_eq_true rfl)
  rw [lg_entry_eq]
  generalize (lg_sl ([.ref (G.2.2 + 0), .int x1]) ++ List.replicate (2 - (lg_sl ([.ref (G.2.2 + 0), .int x1])).length) Slot.unset).toArray = ls at hl ⊢
  have hl : lv_has ls 2 [(0, .ref (G.2.2 + 0)), (1, .int x1)] := hl
  unfold wpX6_keep at h
  refine lv_aload_n C.1 C.2.1 dX6_keep_0 rfl (lv_at hl 0 rfl) ?_
  refine lv_iload_n C.1 C.2.1 dX6_keep_1 rfl (lv_at hl 1 rfl) ?_
  refine k_i (r_V (As := [.int x1]) (rest := []) C hml (c_X6_isImage l G x1 σ _ h) kM_X6_isImage im_X6_isImage se_X6_isImage ml_X6_231 ⟨rfl, rfl⟩ ⟨Nat.le_of_ble_eq_true rfl, Nat.le_of_ble_eq_true rfl⟩ hcs S.v kd_0 (by decide) (T := TX6) (N := 8) rfl rfl hl.1 rfl (Nat.le_of_ble_eq_true rfl) dX6_keep_2) S (fun r2 σ1 H locs h S => ?_)
  refine lv_if_ne (tgt := 10) C.1 C.2.1 dX6_keep_5 (by decide) (fun c3 => ?_) (fun c3 => ?_)
  · replace h := h.1 c3
    refine lv_aload_n C.1 C.2.1 dX6_keep_10 rfl (lv_at hl 0 rfl) ?_
    refine g_X6_4 C fl_X6_33 kd_0 S fn_0_4 dX6_keep_11 ?_
    refine lv_iload_n C.1 C.2.1 dX6_keep_14 rfl (lv_at hl 1 rfl) ?_
    have hq4 := (S.2.2 88 (x1).toNatClampNeg (vp_lt ln_88 h.1)).2 kd_88
    refine a_dld C kd_88 S ln_88 h.1 dX6_keep_15 ?_
    replace h := h.2
    obtain ⟨q4, e5⟩ : ∃ z, z = (σ1.2.2 88 (x1).toNatClampNeg) := ⟨_, rfl⟩
    rw [← e5] at hq4 ⊢
    replace h := h q4 e5
    refine lv_aload_n C.1 C.2.1 dX6_keep_16 rfl (lv_at hl 0 rfl) ?_
    refine g_X6_2 C fl_X6_22 kd_0 S fn_0_2 dX6_keep_17 ?_
    refine k_v (r_VN (As := [.ref (G.2.2 + 5)]) (rest := []) C hml (c_X1_copyFrom l G q4 5 σ1 _ hq4 kd_5 h) kM_X1_copyFrom im_X1_copyFrom se_X1_copyFrom nm_X6_234 ⟨rfl, rfl⟩ ⟨Nat.le_of_ble_eq_true rfl, Nat.le_of_ble_eq_true rfl⟩ hcs S.v hq4 (by decide) (T := TX1) (N := 4) rfl rfl hl.1 rfl (Nat.le_of_ble_eq_true rfl) dX6_keep_20) S (fun σ6 H locs h S => ?_)
    refine lv_aload_n C.1 C.2.1 dX6_keep_23 rfl (lv_at hl 0 rfl) ?_
    refine g_X6_5 C fl_X6_37 kd_0 S fn_0_5 dX6_keep_24 ?_
    refine lv_iload_n C.1 C.2.1 dX6_keep_27 rfl (lv_at hl 1 rfl) ?_
    refine lv_iconst (v := (1 : Int32)) C.1 C.2.1 dX6_keep_28 (by decide) ?_
    refine a_zst C kd_89 S ln_89 h.1 dX6_keep_29 (fun σ7 H locs e8 S => ?_)
    replace h := h.2 σ7 e8
    refine lv_aload_n C.1 C.2.1 dX6_keep_30 rfl (lv_at hl 0 rfl) ?_
    refine g_X6_2 C fl_X6_22 kd_0 S fn_0_2 dX6_keep_31 ?_
    refine gn_X1_2 C nf_X6_79 kd_5 S dX6_keep_34 ?_
    exact hR _ _ _ _ _ _ dX6_keep_37 h S
  · replace h := h.2 c3
    refine lv_iconst (v := (-1 : Int32)) C.1 C.2.1 dX6_keep_8 (by decide) ?_
    exact hR _ _ _ _ _ _ dX6_keep_9 h S
/-! X6_withBitMoved -/
abbrev rm_X6_withBitMoved : Room := { frames := 1, cells := 0, slots := 0, locals := 21 }
def wpX6_withBitMoved (x0 : Int32) (x1 : Int32) (x2 : Int32) (σ : Sg) (post : Int32 → Sg → Prop) : Prop := wpX6_bitsBelow x0 x1 σ (fun r2 σ1 => wpX6_bitsBelow ((r2 ||| ((x0 >>> ((x1 + (1 : Int32)) &&& 31)) <<< (x1 &&& 31)))) x2 σ1 (fun r4 σ3 => wpX6_bitOf x0 x1 σ3 (fun r6 σ5 => post (((r4 ||| (r6 <<< (x2 &&& 31))) ||| (((r2 ||| ((x0 >>> ((x1 + (1 : Int32)) &&& 31)) <<< (x1 &&& 31))) >>> (x2 &&& 31)) <<< ((x2 + (1 : Int32)) &&& 31)))) σ5)))
theorem kM_X6_withBitMoved : s_M yX6_withBitMoved cX6_withBitMoved 4 (some .int) 3 := ⟨co_X6_withBitMoved, in_X6, by decide, by decide, by decide +kernel⟩
set_option maxHeartbeats 4000000 in
set_option maxRecDepth 100000 in
theorem c_X6_withBitMoved (l : Launch) (G : s_G) (x0 : Int32) (x1 : Int32) (x2 : Int32) (σ : Sg) (post : Int32 → Sg → Prop) (h : wpX6_withBitMoved x0 x1 x2 σ post) : Met l yX6_withBitMoved (wsU yX6_withBitMoved cX6_withBitMoved 4 (some .int)) rm_X6_withBitMoved (va_Pc [.int x0, .int x1, .int x2] (s_Pre G σ)) (va_Qi post (s_B G) (s_A G.2.2)) 0 0 (s_A G.2.2) := by
  refine Met.ofW (cc := cX6_withBitMoved) (maxL := 4) (ret := (some .int)) (by decide) rfl ?_
  intro p e s m args below meth c s₁ B hml hv
  obtain ⟨rfl, hP, hrok, hK, hN⟩ := hv
  have C : s_C G p s (([.int x0, .int x1, .int x2] : List Value).toArray) m c RX6 cX6_withBitMoved := ⟨B.exec, B.bytes, findClass_of_methodNamed B.named, fun w hw => atoms_spec (ws := wsU yX6_withBitMoved cX6_withBitMoved 4 (some .int)) B.pre w (List.mem_cons_of_mem _ hw), hK, hN⟩
  have hr := B.returns
  have hlocks := B.notSynchronized
  have S : s_St G σ s.heap s.heap [] := ⟨hP, va_S.rf, hrok⟩
  have hcs : 0 ≤ (rm_X6_withBitMoved).cells ∧ 0 ≤ (rm_X6_withBitMoved).slots := ⟨Nat.le_refl 0, Nat.le_refl 0⟩
  have hR : ∀ (r : Int32) (σ1 : Sg) (H : Heap) (locs : List Loc) (pc : Nat) (ls : Array Slot), decode cX6_withBitMoved pc = .ok (.ireturn, 1) → post r σ1 → s_St G σ1 s.heap H locs → W p l e rm_X6_withBitMoved s m ([.int x0, .int x1, .int x2] : List Value).toArray below meth c H locs 0 0 (MQ below (va_Qi post (s_B G) (s_A G.2.2)) ([.int x0, .int x1, .int x2] : List Value).toArray s 0 0 (s_A G.2.2)) (F0 m pc ls [.int r]) := fun _ _ _ _ _ _ hd hp S => ret_i C hr hlocks hd hp S
  have hl := lv_entry ([.int x0, .int x1, .int x2]) (n := 4) (Nat.le_of_ble_eq_true rfl)
  rw [lg_entry_eq]
  generalize (lg_sl ([.int x0, .int x1, .int x2]) ++ List.replicate (4 - (lg_sl ([.int x0, .int x1, .int x2])).length) Slot.unset).toArray = ls at hl ⊢
  have hl : lv_has ls 4 [(0, .int x0), (1, .int x1), (2, .int x2)] := hl
  unfold wpX6_withBitMoved at h
  refine lv_iload_n C.1 C.2.1 dX6_withBitMoved_0 rfl (lv_at hl 0 rfl) ?_
  refine lv_iload_n C.1 C.2.1 dX6_withBitMoved_1 rfl (lv_at hl 1 rfl) ?_
  refine k_i (r_S (As := [.int x0, .int x1]) (rest := []) C hml (c_X6_bitsBelow l G x0 x1 σ _ h) kM_X6_bitsBelow st_X6_bitsBelow ml_X6_237 ⟨rfl, rfl⟩ ⟨Nat.le_of_ble_eq_true rfl, Nat.le_of_ble_eq_true rfl⟩ hcs S.v rfl hl.1 rfl (Nat.le_of_ble_eq_true rfl) dX6_withBitMoved_2) S (fun r2 σ1 H locs h S => ?_)
  refine lv_iload_n C.1 C.2.1 dX6_withBitMoved_5 rfl (lv_at hl 0 rfl) ?_
  refine lv_iload_n C.1 C.2.1 dX6_withBitMoved_6 rfl (lv_at hl 1 rfl) ?_
  refine lv_iconst (v := (1 : Int32)) C.1 C.2.1 dX6_withBitMoved_7 (by decide) ?_
  refine lv_iadd C.1 C.2.1 dX6_withBitMoved_8 ?_
  refine lv_ishr C.1 C.2.1 dX6_withBitMoved_9 ?_
  refine lv_iload_n C.1 C.2.1 dX6_withBitMoved_10 rfl (lv_at hl 1 rfl) ?_
  refine lv_ishl C.1 C.2.1 dX6_withBitMoved_11 ?_
  refine lv_ior C.1 C.2.1 dX6_withBitMoved_12 ?_
  refine lv_istore_n (lv' := [(3, .int (r2 ||| ((x0 >>> ((x1 + (1 : Int32)) &&& 31)) <<< (x1 &&& 31)))), (0, .int x0), (1, .int x1), (2, .int x2)]) C.1 C.2.1 dX6_withBitMoved_13 rfl hl (by decide) rfl (fun ls hl => ?_)
  refine lv_iload_n C.1 C.2.1 dX6_withBitMoved_14 rfl (lv_at hl 0 rfl) ?_
  refine lv_iload_n C.1 C.2.1 dX6_withBitMoved_15 rfl (lv_at hl 3 rfl) ?_
  refine k_i (r_S (As := [.int (r2 ||| ((x0 >>> ((x1 + (1 : Int32)) &&& 31)) <<< (x1 &&& 31))), .int x2]) (rest := []) C hml (c_X6_bitsBelow l G ((r2 ||| ((x0 >>> ((x1 + (1 : Int32)) &&& 31)) <<< (x1 &&& 31)))) x2 σ1 _ h) kM_X6_bitsBelow st_X6_bitsBelow ml_X6_237 ⟨rfl, rfl⟩ ⟨Nat.le_of_ble_eq_true rfl, Nat.le_of_ble_eq_true rfl⟩ hcs S.v rfl hl.1 rfl (Nat.le_of_ble_eq_true rfl) dX6_withBitMoved_16) S (fun r4 σ3 H locs h S => ?_)
  refine lv_iload_n C.1 C.2.1 dX6_withBitMoved_19 rfl (lv_at hl 1 rfl) ?_
  refine lv_iload_n C.1 C.2.1 dX6_withBitMoved_20 rfl (lv_at hl 2 rfl) ?_
  refine k_i (r_S (As := [.int x0, .int x1]) (rest := [.int r4]) C hml (c_X6_bitOf l G x0 x1 σ3 _ h) kM_X6_bitOf st_X6_bitOf ml_X6_120 ⟨rfl, rfl⟩ ⟨Nat.le_of_ble_eq_true rfl, Nat.le_of_ble_eq_true rfl⟩ hcs S.v rfl hl.1 rfl (Nat.le_of_ble_eq_true rfl) dX6_withBitMoved_21) S (fun r6 σ5 H locs h S => ?_)
  refine lv_iload_n C.1 C.2.1 dX6_withBitMoved_24 rfl (lv_at hl 3 rfl) ?_
  refine lv_ishl C.1 C.2.1 dX6_withBitMoved_25 ?_
  refine lv_ior C.1 C.2.1 dX6_withBitMoved_26 ?_
  refine lv_iload_n C.1 C.2.1 dX6_withBitMoved_27 rfl (lv_at hl 0 rfl) ?_
  refine lv_iload_n C.1 C.2.1 dX6_withBitMoved_28 rfl (lv_at hl 3 rfl) ?_
  refine lv_ishr C.1 C.2.1 dX6_withBitMoved_29 ?_
  refine lv_iload_n C.1 C.2.1 dX6_withBitMoved_30 rfl (lv_at hl 3 rfl) ?_
  refine lv_iconst (v := (1 : Int32)) C.1 C.2.1 dX6_withBitMoved_31 (by decide) ?_
  refine lv_iadd C.1 C.2.1 dX6_withBitMoved_32 ?_
  refine lv_ishl C.1 C.2.1 dX6_withBitMoved_33 ?_
  refine lv_ior C.1 C.2.1 dX6_withBitMoved_34 ?_
  exact hR _ _ _ _ _ _ dX6_withBitMoved_35 h S
/-! X1_reseat -/
abbrev rm_X1_reseat : Room := { frames := 2, cells := 0, slots := 0, locals := 44 }
def BX1_reseat_96 (k0 : Nat) (x1 : Int32) (x2 : Int32) (post : Sg → Prop) : Nat → Int32 → Sg → Prop
  | 0, _, _ => False
  | n + 1, x4, σ => ((((σ.1 k0 2) ≤ x4) → post σ) ∧ ((¬ (σ.1 k0 2) ≤ x4) → wpX1_at k0 x4 σ (fun q3 σ2 => s_kd q3 = 3 → wpX1_at k0 x4 σ2 (fun q5 σ4 => s_kd q5 = 3 → wpX6_withBitMoved ((σ4.1 q5 5)) x1 x2 σ4 (fun r7 σ6 => (∀ σ8 : Sg, σ8 = setI σ6 q3 5 r7 → BX1_reseat_96 k0 x1 x2 post n ((x4 + 1)) σ8))))))
def BX1_reseat_58 (k0 : Nat) (x1 : Int32) (x2 : Int32) (post : Sg → Prop) : Nat → Nat → Int32 → Sg → Prop
  | 0, _, _, _ => False
  | n + 1, k3, x4, σ => (((x4 ≤ x2) → (vp_in x2 6 ∧ (∀ σ11 : Sg, σ11 = setR σ (s_fin k0 0) (x2).toNatClampNeg k3 → ∃ nf, BX1_reseat_96 k0 x1 x2 post nf ((0 : Int32)) σ11))) ∧ ((¬ x4 ≤ x2) → (vp_in ((x4 - (1 : Int32))) 6 ∧ (∀ q13 : Nat, q13 = (σ.2.2 (s_fin k0 0) ((x4 - (1 : Int32))).toNatClampNeg) → (vp_in x4 6 ∧ (∀ σ15 : Sg, σ15 = setR σ (s_fin k0 0) (x4).toNatClampNeg q13 → BX1_reseat_58 k0 x1 x2 post n k3 ((x4 + (-1))) σ15))))))
def BX1_reseat_27 (k0 : Nat) (x1 : Int32) (x2 : Int32) (post : Sg → Prop) : Nat → Nat → Int32 → Sg → Prop
  | 0, _, _, _ => False
  | n + 1, k3, x4, σ => (((x2 ≤ x4) → ∃ nf, BX1_reseat_58 k0 x1 x2 post nf k3 x1 σ) ∧ ((¬ x2 ≤ x4) → (vp_in ((x4 + (1 : Int32))) 6 ∧ (∀ q18 : Nat, q18 = (σ.2.2 (s_fin k0 0) ((x4 + (1 : Int32))).toNatClampNeg) → (vp_in x4 6 ∧ (∀ σ20 : Sg, σ20 = setR σ (s_fin k0 0) (x4).toNatClampNeg q18 → BX1_reseat_27 k0 x1 x2 post n k3 ((x4 + 1)) σ20))))))
def wpX1_reseat (k0 : Nat) (x1 : Int32) (x2 : Int32) (σ : Sg) (post : Sg → Prop) : Prop := wpX1_has k0 x1 σ (fun r23 σ22 => (((r23 = 0) → post σ22) ∧ ((¬ r23 = 0) → wpX1_has k0 x2 σ22 (fun r26 σ25 => (((¬ r26 = 0) → (vp_in x1 6 ∧ (∀ q28 : Nat, q28 = (σ25.2.2 (s_fin k0 0) (x1).toNatClampNeg) → ∃ nf, BX1_reseat_27 k0 x1 x2 post nf q28 x1 σ25))) ∧ ((r26 = 0) → post σ25))))))
set_option maxHeartbeats 4000000 in
set_option maxRecDepth 100000 in
theorem TX1_reseat_96 (C : s_C G p s args m c RX1 cX1_reseat) (hml : c.maxLocals = 5) (hcs : cells ≤ (rm_X1_reseat).cells ∧ slots ≤ (rm_X1_reseat).slots) {k0 : Nat} {x1 : Int32} {x2 : Int32} (hk0 : s_kd k0 = 1) {post : Sg → Prop} (hR : ∀ (σ1 : Sg) (H : Heap) (locs : List Loc) (pc : Nat) (ls : Array Slot), decode cX1_reseat pc = .ok (.return_, 1) → post σ1 → s_St G σ1 H0 H locs → W p l e rm_X1_reseat s m args below meth c H locs cells slots Q (F0 m pc ls [])) : ∀ (n : Nat) (x4 : Int32), ∀ {σ : Sg} {H : Heap} {locs : List Loc} {ls : Array Slot}, s_St G σ H0 H locs → lv_has ls 5 [(0, .ref (G.2.2 + k0)), (1, .int x1), (2, .int x2), (4, .int x4)] → BX1_reseat_96 k0 x1 x2 post n x4 σ → W p l e rm_X1_reseat s m args below meth c H locs cells slots Q (F0 m 96 ls []) := by
  intro n
  induction n with
  | zero =>
    intro x4  σ H locs ls S hl h
    exact absurd h (fun h => h)
  | succ n ih0 =>
    have ih : ∀ (x4 : Int32), ∀ (σ : Sg) (H : Heap) (locs : List Loc) (ls : Array Slot), s_St G σ H0 H locs → lv_has ls 5 [(0, .ref (G.2.2 + k0)), (1, .int x1), (2, .int x2), (4, .int x4)] → BX1_reseat_96 k0 x1 x2 post n x4 σ → W p l e rm_X1_reseat s m args below meth c H locs cells slots Q (F0 m 96 ls []) := fun x4  _ _ _ _ => ih0 x4 
    intro x4  σ H locs ls S hl h
    refine lv_iload C.1 C.2.1 dX1_reseat_96 (lv_at hl 3 rfl) ?_
    refine lv_aload_n C.1 C.2.1 dX1_reseat_98 rfl (lv_at hl 0 rfl) ?_
    refine g_X1_2 C fl_X1_22 hk0 S dX1_reseat_99 ?_
    refine lv_icmp_ge (tgt := 134) C.1 C.2.1 dX1_reseat_102 (by decide) (fun c1 => ?_) (fun c1 => ?_)
    · replace h := h.1 c1
      exact hR _ _ _ _ _ dX1_reseat_134 h S
    · replace h := h.2 c1
      refine lv_aload_n C.1 C.2.1 dX1_reseat_105 rfl (lv_at hl 0 rfl) ?_
      refine lv_iload C.1 C.2.1 dX1_reseat_106 (lv_at hl 3 rfl) ?_
      refine k_r (kd := 3) (r_V (As := [.int x4]) (rest := []) C hml (c_X1_at l G k0 x4 σ _ hk0 h) kM_X1_at im_X1_at se_X1_at ml_X1_29 ⟨rfl, rfl⟩ ⟨Nat.le_of_ble_eq_true rfl, Nat.le_of_ble_eq_true rfl⟩ hcs S.v hk0 (by decide) (T := TX1) (N := 4) rfl rfl hl.1 rfl (Nat.le_of_ble_eq_true rfl) dX1_reseat_108) S (fun q3 σ2 H locs hq3 h S => ?_)
      replace h := h hq3
      refine lv_aload_n C.1 C.2.1 dX1_reseat_111 rfl (lv_at hl 0 rfl) ?_
      refine lv_iload C.1 C.2.1 dX1_reseat_112 (lv_at hl 3 rfl) ?_
      refine k_r (kd := 3) (r_V (As := [.int x4]) (rest := [.ref (G.2.2 + q3)]) C hml (c_X1_at l G k0 x4 σ2 _ hk0 h) kM_X1_at im_X1_at se_X1_at ml_X1_29 ⟨rfl, rfl⟩ ⟨Nat.le_of_ble_eq_true rfl, Nat.le_of_ble_eq_true rfl⟩ hcs S.v hk0 (by decide) (T := TX1) (N := 4) rfl rfl hl.1 rfl (Nat.le_of_ble_eq_true rfl) dX1_reseat_114) S (fun q5 σ4 H locs hq5 h S => ?_)
      replace h := h hq5
      refine gn_X3_5 C nf_X1_52 hq5 S dX1_reseat_117 ?_
      refine lv_iload_n C.1 C.2.1 dX1_reseat_120 rfl (lv_at hl 1 rfl) ?_
      refine lv_iload_n C.1 C.2.1 dX1_reseat_121 rfl (lv_at hl 2 rfl) ?_
      refine k_i (r_SN (As := [.int (σ4.1 q5 5), .int x1, .int x2]) (rest := [.ref (G.2.2 + q3)]) C hml (c_X6_withBitMoved l G ((σ4.1 q5 5)) x1 x2 σ4 _ h) kM_X6_withBitMoved st_X6_withBitMoved nm_X1_59 ⟨rfl, rfl⟩ ⟨Nat.le_of_ble_eq_true rfl, Nat.le_of_ble_eq_true rfl⟩ hcs S.v rfl hl.1 rfl (Nat.le_of_ble_eq_true rfl) dX1_reseat_122) S (fun r7 σ6 H locs h S => ?_)
      refine pn_X3_5 C nf_X1_52 hq3 S dX1_reseat_125 (fun σ8 H locs e9 S => ?_)
      replace h := h σ8 e9
      refine lv_iinc (v := (x4 + 1)) (lv' := [(4, .int (x4 + 1)), (0, .ref (G.2.2 + k0)), (1, .int x1), (2, .int x2)]) C.1 C.2.1 dX1_reseat_128 hl (k := 3) rfl rfl (by decide) rfl (fun ls hl => ?_)
      refine lv_goto (tgt := 96) C.1 C.2.1 dX1_reseat_131 (by decide) ?_
      exact ih ((x4 + 1)) _ _ _ _ S (lv_sub hl [1, 2, 3, 0] rfl) h
set_option maxHeartbeats 4000000 in
set_option maxRecDepth 100000 in
theorem TX1_reseat_58 (C : s_C G p s args m c RX1 cX1_reseat) (hml : c.maxLocals = 5) (hcs : cells ≤ (rm_X1_reseat).cells ∧ slots ≤ (rm_X1_reseat).slots) {k0 : Nat} {x1 : Int32} {x2 : Int32} (hk0 : s_kd k0 = 1) {post : Sg → Prop} (hR : ∀ (σ1 : Sg) (H : Heap) (locs : List Loc) (pc : Nat) (ls : Array Slot), decode cX1_reseat pc = .ok (.return_, 1) → post σ1 → s_St G σ1 H0 H locs → W p l e rm_X1_reseat s m args below meth c H locs cells slots Q (F0 m pc ls [])) : ∀ (n : Nat) (k3 : Nat) (x4 : Int32), s_kd k3 = 3 → ∀ {σ : Sg} {H : Heap} {locs : List Loc} {ls : Array Slot}, s_St G σ H0 H locs → lv_has ls 5 [(0, .ref (G.2.2 + k0)), (1, .int x1), (2, .int x2), (3, .ref (G.2.2 + k3)), (4, .int x4)] → BX1_reseat_58 k0 x1 x2 post n k3 x4 σ → W p l e rm_X1_reseat s m args below meth c H locs cells slots Q (F0 m 58 ls []) := by
  intro n
  induction n with
  | zero =>
    intro k3 x4 hk3 σ H locs ls S hl h
    exact absurd h (fun h => h)
  | succ n ih0 =>
    have ih : ∀ (k3 : Nat) (x4 : Int32), s_kd k3 = 3 → ∀ (σ : Sg) (H : Heap) (locs : List Loc) (ls : Array Slot), s_St G σ H0 H locs → lv_has ls 5 [(0, .ref (G.2.2 + k0)), (1, .int x1), (2, .int x2), (3, .ref (G.2.2 + k3)), (4, .int x4)] → BX1_reseat_58 k0 x1 x2 post n k3 x4 σ → W p l e rm_X1_reseat s m args below meth c H locs cells slots Q (F0 m 58 ls []) := fun k3 x4 hk3 _ _ _ _ => ih0 k3 x4 hk3
    intro k3 x4 hk3 σ H locs ls S hl h
    refine lv_iload C.1 C.2.1 dX1_reseat_58 (lv_at hl 4 rfl) ?_
    refine lv_iload_n C.1 C.2.1 dX1_reseat_60 rfl (lv_at hl 2 rfl) ?_
    refine lv_icmp_le (tgt := 86) C.1 C.2.1 dX1_reseat_61 (by decide) (fun c10 => ?_) (fun c10 => ?_)
    · replace h := h.1 c10
      refine lv_aload_n C.1 C.2.1 dX1_reseat_86 rfl (lv_at hl 0 rfl) ?_
      refine g_X1_0 C fl_X1_11 hk0 S rfl dX1_reseat_87 ?_
      refine lv_iload_n C.1 C.2.1 dX1_reseat_90 rfl (lv_at hl 2 rfl) ?_
      refine lv_aload_n C.1 C.2.1 dX1_reseat_91 rfl (lv_at hl 3 rfl) ?_
      refine a_mst C ((kdf_X1_0 hk0)) S hk3 (lnf_X1_0 hk0) h.1 dX1_reseat_92 (fun σ11 H locs e12 S => ?_)
      replace h := h.2 σ11 e12
      refine lv_iconst (v := (0 : Int32)) C.1 C.2.1 dX1_reseat_93 (by decide) ?_
      refine lv_istore (lv' := [(4, .int (0 : Int32)), (0, .ref (G.2.2 + k0)), (1, .int x1), (2, .int x2), (3, .ref (G.2.2 + k3))]) C.1 C.2.1 dX1_reseat_94 hl (by decide) rfl (fun ls hl => ?_)
      obtain ⟨nf, h⟩ := h
      exact TX1_reseat_96 C hml hcs hk0 hR nf ((0 : Int32)) S (lv_sub hl [1, 2, 3, 0] rfl) h
    · replace h := h.2 c10
      refine lv_aload_n C.1 C.2.1 dX1_reseat_64 rfl (lv_at hl 0 rfl) ?_
      refine g_X1_0 C fl_X1_11 hk0 S rfl dX1_reseat_65 ?_
      refine lv_iload C.1 C.2.1 dX1_reseat_68 (lv_at hl 4 rfl) ?_
      refine lv_aload_n C.1 C.2.1 dX1_reseat_70 rfl (lv_at hl 0 rfl) ?_
      refine g_X1_0 C fl_X1_11 hk0 S rfl dX1_reseat_71 ?_
      refine lv_iload C.1 C.2.1 dX1_reseat_74 (lv_at hl 4 rfl) ?_
      refine lv_iconst (v := (1 : Int32)) C.1 C.2.1 dX1_reseat_76 (by decide) ?_
      refine lv_isub C.1 C.2.1 dX1_reseat_77 ?_
      have hq13 := (S.2.2 ((s_fin k0 0)) ((x4 - (1 : Int32))).toNatClampNeg (vp_lt (lnf_X1_0 hk0) h.1)).1 ((kdf_X1_0 hk0))
      refine a_mld C ((kdf_X1_0 hk0)) S (lnf_X1_0 hk0) h.1 dX1_reseat_78 ?_
      replace h := h.2
      obtain ⟨q13, e14⟩ : ∃ z, z = (σ.2.2 (s_fin k0 0) ((x4 - (1 : Int32))).toNatClampNeg) := ⟨_, rfl⟩
      rw [← e14] at hq13 ⊢
      replace h := h q13 e14
      refine a_mst C ((kdf_X1_0 hk0)) S hq13 (lnf_X1_0 hk0) h.1 dX1_reseat_79 (fun σ15 H locs e16 S => ?_)
      replace h := h.2 σ15 e16
      refine lv_iinc (v := (x4 + (-1))) (lv' := [(4, .int (x4 + (-1))), (0, .ref (G.2.2 + k0)), (1, .int x1), (2, .int x2), (3, .ref (G.2.2 + k3))]) C.1 C.2.1 dX1_reseat_80 hl (k := 4) rfl rfl (by decide) rfl (fun ls hl => ?_)
      refine lv_goto (tgt := 58) C.1 C.2.1 dX1_reseat_83 (by decide) ?_
      exact ih k3 ((x4 + (-1))) hk3 _ _ _ _ S (lv_sub hl [1, 2, 3, 4, 0] rfl) h
set_option maxHeartbeats 4000000 in
set_option maxRecDepth 100000 in
theorem TX1_reseat_27 (C : s_C G p s args m c RX1 cX1_reseat) (hml : c.maxLocals = 5) (hcs : cells ≤ (rm_X1_reseat).cells ∧ slots ≤ (rm_X1_reseat).slots) {k0 : Nat} {x1 : Int32} {x2 : Int32} (hk0 : s_kd k0 = 1) {post : Sg → Prop} (hR : ∀ (σ1 : Sg) (H : Heap) (locs : List Loc) (pc : Nat) (ls : Array Slot), decode cX1_reseat pc = .ok (.return_, 1) → post σ1 → s_St G σ1 H0 H locs → W p l e rm_X1_reseat s m args below meth c H locs cells slots Q (F0 m pc ls [])) : ∀ (n : Nat) (k3 : Nat) (x4 : Int32), s_kd k3 = 3 → ∀ {σ : Sg} {H : Heap} {locs : List Loc} {ls : Array Slot}, s_St G σ H0 H locs → lv_has ls 5 [(0, .ref (G.2.2 + k0)), (1, .int x1), (2, .int x2), (3, .ref (G.2.2 + k3)), (4, .int x4)] → BX1_reseat_27 k0 x1 x2 post n k3 x4 σ → W p l e rm_X1_reseat s m args below meth c H locs cells slots Q (F0 m 27 ls []) := by
  intro n
  induction n with
  | zero =>
    intro k3 x4 hk3 σ H locs ls S hl h
    exact absurd h (fun h => h)
  | succ n ih0 =>
    have ih : ∀ (k3 : Nat) (x4 : Int32), s_kd k3 = 3 → ∀ (σ : Sg) (H : Heap) (locs : List Loc) (ls : Array Slot), s_St G σ H0 H locs → lv_has ls 5 [(0, .ref (G.2.2 + k0)), (1, .int x1), (2, .int x2), (3, .ref (G.2.2 + k3)), (4, .int x4)] → BX1_reseat_27 k0 x1 x2 post n k3 x4 σ → W p l e rm_X1_reseat s m args below meth c H locs cells slots Q (F0 m 27 ls []) := fun k3 x4 hk3 _ _ _ _ => ih0 k3 x4 hk3
    intro k3 x4 hk3 σ H locs ls S hl h
    refine lv_iload C.1 C.2.1 dX1_reseat_27 (lv_at hl 4 rfl) ?_
    refine lv_iload_n C.1 C.2.1 dX1_reseat_29 rfl (lv_at hl 2 rfl) ?_
    refine lv_icmp_ge (tgt := 55) C.1 C.2.1 dX1_reseat_30 (by decide) (fun c17 => ?_) (fun c17 => ?_)
    · replace h := h.1 c17
      refine lv_iload_n C.1 C.2.1 dX1_reseat_55 rfl (lv_at hl 1 rfl) ?_
      refine lv_istore (lv' := [(4, .int x1), (0, .ref (G.2.2 + k0)), (1, .int x1), (2, .int x2), (3, .ref (G.2.2 + k3))]) C.1 C.2.1 dX1_reseat_56 hl (by decide) rfl (fun ls hl => ?_)
      obtain ⟨nf, h⟩ := h
      exact TX1_reseat_58 C hml hcs hk0 hR nf k3 x1 hk3 S (lv_sub hl [1, 2, 3, 4, 0] rfl) h
    · replace h := h.2 c17
      refine lv_aload_n C.1 C.2.1 dX1_reseat_33 rfl (lv_at hl 0 rfl) ?_
      refine g_X1_0 C fl_X1_11 hk0 S rfl dX1_reseat_34 ?_
      refine lv_iload C.1 C.2.1 dX1_reseat_37 (lv_at hl 4 rfl) ?_
      refine lv_aload_n C.1 C.2.1 dX1_reseat_39 rfl (lv_at hl 0 rfl) ?_
      refine g_X1_0 C fl_X1_11 hk0 S rfl dX1_reseat_40 ?_
      refine lv_iload C.1 C.2.1 dX1_reseat_43 (lv_at hl 4 rfl) ?_
      refine lv_iconst (v := (1 : Int32)) C.1 C.2.1 dX1_reseat_45 (by decide) ?_
      refine lv_iadd C.1 C.2.1 dX1_reseat_46 ?_
      have hq18 := (S.2.2 ((s_fin k0 0)) ((x4 + (1 : Int32))).toNatClampNeg (vp_lt (lnf_X1_0 hk0) h.1)).1 ((kdf_X1_0 hk0))
      refine a_mld C ((kdf_X1_0 hk0)) S (lnf_X1_0 hk0) h.1 dX1_reseat_47 ?_
      replace h := h.2
      obtain ⟨q18, e19⟩ : ∃ z, z = (σ.2.2 (s_fin k0 0) ((x4 + (1 : Int32))).toNatClampNeg) := ⟨_, rfl⟩
      rw [← e19] at hq18 ⊢
      replace h := h q18 e19
      refine a_mst C ((kdf_X1_0 hk0)) S hq18 (lnf_X1_0 hk0) h.1 dX1_reseat_48 (fun σ20 H locs e21 S => ?_)
      replace h := h.2 σ20 e21
      refine lv_iinc (v := (x4 + 1)) (lv' := [(4, .int (x4 + 1)), (0, .ref (G.2.2 + k0)), (1, .int x1), (2, .int x2), (3, .ref (G.2.2 + k3))]) C.1 C.2.1 dX1_reseat_49 hl (k := 4) rfl rfl (by decide) rfl (fun ls hl => ?_)
      refine lv_goto (tgt := 27) C.1 C.2.1 dX1_reseat_52 (by decide) ?_
      exact ih k3 ((x4 + 1)) hk3 _ _ _ _ S (lv_sub hl [1, 2, 3, 4, 0] rfl) h
theorem kM_X1_reseat : s_M yX1_reseat cX1_reseat 5 none 2 := ⟨co_X1_reseat, in_X1, by decide, by decide, by decide +kernel⟩
set_option maxHeartbeats 4000000 in
set_option maxRecDepth 100000 in
theorem c_X1_reseat (l : Launch) (G : s_G) (k0 : Nat) (x1 : Int32) (x2 : Int32) (σ : Sg) (post : Sg → Prop) (hk0 : s_kd k0 = 1) (h : wpX1_reseat k0 x1 x2 σ post) : Met l yX1_reseat (wsU yX1_reseat cX1_reseat 5 none) rm_X1_reseat (va_Pc [.ref (G.2.2 + k0), .int x1, .int x2] (s_Pre G σ)) (va_Qv post (s_B G) (s_A G.2.2)) 0 0 (s_A G.2.2) := by
  refine Met.ofW (cc := cX1_reseat) (maxL := 5) (ret := none) (by decide) rfl ?_
  intro p e s m args below meth c s₁ B hml hv
  obtain ⟨rfl, hP, hrok, hK, hN⟩ := hv
  have C : s_C G p s (([.ref (G.2.2 + k0), .int x1, .int x2] : List Value).toArray) m c RX1 cX1_reseat := ⟨B.exec, B.bytes, findClass_of_methodNamed B.named, fun w hw => atoms_spec (ws := wsU yX1_reseat cX1_reseat 5 none) B.pre w (List.mem_cons_of_mem _ hw), hK, hN⟩
  have hr := B.returns
  have hlocks := B.notSynchronized
  have S : s_St G σ s.heap s.heap [] := ⟨hP, va_S.rf, hrok⟩
  have hcs : 0 ≤ (rm_X1_reseat).cells ∧ 0 ≤ (rm_X1_reseat).slots := ⟨Nat.le_refl 0, Nat.le_refl 0⟩
  have hR : ∀ (σ1 : Sg) (H : Heap) (locs : List Loc) (pc : Nat) (ls : Array Slot), decode cX1_reseat pc = .ok (.return_, 1) → post σ1 → s_St G σ1 s.heap H locs → W p l e rm_X1_reseat s m ([.ref (G.2.2 + k0), .int x1, .int x2] : List Value).toArray below meth c H locs 0 0 (MQ below (va_Qv post (s_B G) (s_A G.2.2)) ([.ref (G.2.2 + k0), .int x1, .int x2] : List Value).toArray s 0 0 (s_A G.2.2)) (F0 m pc ls []) := fun _ _ _ _ _ hd hp S => ret_v C hr hlocks hd hp S
  have hl := lv_entry ([.ref (G.2.2 + k0), .int x1, .int x2]) (n := 5) (Nat.le_of_ble_eq_true rfl)
  rw [lg_entry_eq]
  generalize (lg_sl ([.ref (G.2.2 + k0), .int x1, .int x2]) ++ List.replicate (5 - (lg_sl ([.ref (G.2.2 + k0), .int x1, .int x2])).length) Slot.unset).toArray = ls at hl ⊢
  have hl : lv_has ls 5 [(0, .ref (G.2.2 + k0)), (1, .int x1), (2, .int x2)] := hl
  unfold wpX1_reseat at h
  refine lv_aload_n C.1 C.2.1 dX1_reseat_0 rfl (lv_at hl 0 rfl) ?_
  refine lv_iload_n C.1 C.2.1 dX1_reseat_1 rfl (lv_at hl 1 rfl) ?_
  refine k_i (r_V (As := [.int x1]) (rest := []) C hml (c_X1_has l G k0 x1 σ _ hk0 h) kM_X1_has im_X1_has se_X1_has ml_X1_55 ⟨rfl, rfl⟩ ⟨Nat.le_of_ble_eq_true rfl, Nat.le_of_ble_eq_true rfl⟩ hcs S.v hk0 (by decide) (T := TX1) (N := 4) rfl rfl hl.1 rfl (Nat.le_of_ble_eq_true rfl) dX1_reseat_2) S (fun r23 σ22 H locs h S => ?_)
  refine lv_if_eq (tgt := 16) C.1 C.2.1 dX1_reseat_5 (by decide) (fun c24 => ?_) (fun c24 => ?_)
  · replace h := h.1 c24
    exact hR _ _ _ _ _ dX1_reseat_16 h S
  · replace h := h.2 c24
    refine lv_aload_n C.1 C.2.1 dX1_reseat_8 rfl (lv_at hl 0 rfl) ?_
    refine lv_iload_n C.1 C.2.1 dX1_reseat_9 rfl (lv_at hl 2 rfl) ?_
    refine k_i (r_V (As := [.int x2]) (rest := []) C hml (c_X1_has l G k0 x2 σ22 _ hk0 h) kM_X1_has im_X1_has se_X1_has ml_X1_55 ⟨rfl, rfl⟩ ⟨Nat.le_of_ble_eq_true rfl, Nat.le_of_ble_eq_true rfl⟩ hcs S.v hk0 (by decide) (T := TX1) (N := 4) rfl rfl hl.1 rfl (Nat.le_of_ble_eq_true rfl) dX1_reseat_10) S (fun r26 σ25 H locs h S => ?_)
    refine lv_if_ne (tgt := 17) C.1 C.2.1 dX1_reseat_13 (by decide) (fun c27 => ?_) (fun c27 => ?_)
    · replace h := h.1 c27
      refine lv_aload_n C.1 C.2.1 dX1_reseat_17 rfl (lv_at hl 0 rfl) ?_
      refine g_X1_0 C fl_X1_11 hk0 S rfl dX1_reseat_18 ?_
      refine lv_iload_n C.1 C.2.1 dX1_reseat_21 rfl (lv_at hl 1 rfl) ?_
      have hq28 := (S.2.2 ((s_fin k0 0)) (x1).toNatClampNeg (vp_lt (lnf_X1_0 hk0) h.1)).1 ((kdf_X1_0 hk0))
      refine a_mld C ((kdf_X1_0 hk0)) S (lnf_X1_0 hk0) h.1 dX1_reseat_22 ?_
      replace h := h.2
      obtain ⟨q28, e29⟩ : ∃ z, z = (σ25.2.2 (s_fin k0 0) (x1).toNatClampNeg) := ⟨_, rfl⟩
      rw [← e29] at hq28 ⊢
      replace h := h q28 e29
      refine lv_astore_n (lv' := [(3, .ref (G.2.2 + q28)), (0, .ref (G.2.2 + k0)), (1, .int x1), (2, .int x2)]) C.1 C.2.1 dX1_reseat_23 rfl hl (by decide) rfl (fun ls hl => ?_)
      refine lv_iload_n C.1 C.2.1 dX1_reseat_24 rfl (lv_at hl 2 rfl) ?_
      refine lv_istore (lv' := [(4, .int x1), (3, .ref (G.2.2 + q28)), (0, .ref (G.2.2 + k0)), (1, .int x1), (2, .int x2)]) C.1 C.2.1 dX1_reseat_25 hl (by decide) rfl (fun ls hl => ?_)
      obtain ⟨nf, h⟩ := h
      exact TX1_reseat_27 C hml hcs hk0 hR nf q28 x1 hq28 S (lv_sub hl [2, 3, 4, 1, 0] rfl) h
    · replace h := h.2 c27
      exact hR _ _ _ _ _ dX1_reseat_16 h S
/-! X6_move -/
abbrev rm_X6_move : Room := { frames := 4, cells := 0, slots := 0, locals := 84 }
def wpX6_move (x1 : Int32) (x2 : Int32) (σ : Sg) (post : Int32 → Sg → Prop) : Prop := wpX1_has 5 x1 σ (fun r2 σ1 => (((r2 = 0) → post ((-1 : Int32)) σ1) ∧ ((¬ r2 = 0) → wpX1_has 5 x2 σ1 (fun r5 σ4 => (((¬ r5 = 0) → wpX6_beginChange σ4 (fun σ7 => wpX1_reseat 5 x1 x2 σ7 (fun σ8 => post x2 σ8))) ∧ ((r5 = 0) → post ((-1 : Int32)) σ4))))))
theorem kM_X6_move : s_M yX6_move cX6_move 3 (some .int) 2 := ⟨co_X6_move, in_X6, by decide, by decide, by decide +kernel⟩
set_option maxHeartbeats 4000000 in
set_option maxRecDepth 100000 in
theorem c_X6_move (l : Launch) (G : s_G) (x1 : Int32) (x2 : Int32) (σ : Sg) (post : Int32 → Sg → Prop) (h : wpX6_move x1 x2 σ post) : Met l yX6_move (wsU yX6_move cX6_move 3 (some .int)) rm_X6_move (va_Pc [.ref (G.2.2 + 0), .int x1, .int x2] (s_Pre G σ)) (va_Qi post (s_B G) (s_A G.2.2)) 0 0 (s_A G.2.2) := by
  refine Met.ofW (cc := cX6_move) (maxL := 3) (ret := (some .int)) (by decide) rfl ?_
  intro p e s m args below meth c s₁ B hml hv
  obtain ⟨rfl, hP, hrok, hK, hN⟩ := hv
  have C : s_C G p s (([.ref (G.2.2 + 0), .int x1, .int x2] : List Value).toArray) m c RX6 cX6_move := ⟨B.exec, B.bytes, findClass_of_methodNamed B.named, fun w hw => atoms_spec (ws := wsU yX6_move cX6_move 3 (some .int)) B.pre w (List.mem_cons_of_mem _ hw), hK, hN⟩
  have hr := B.returns
  have hlocks := B.notSynchronized
  have S : s_St G σ s.heap s.heap [] := ⟨hP, va_S.rf, hrok⟩
  have hcs : 0 ≤ (rm_X6_move).cells ∧ 0 ≤ (rm_X6_move).slots := ⟨Nat.le_refl 0, Nat.le_refl 0⟩
  have hR : ∀ (r : Int32) (σ1 : Sg) (H : Heap) (locs : List Loc) (pc : Nat) (ls : Array Slot), decode cX6_move pc = .ok (.ireturn, 1) → post r σ1 → s_St G σ1 s.heap H locs → W p l e rm_X6_move s m ([.ref (G.2.2 + 0), .int x1, .int x2] : List Value).toArray below meth c H locs 0 0 (MQ below (va_Qi post (s_B G) (s_A G.2.2)) ([.ref (G.2.2 + 0), .int x1, .int x2] : List Value).toArray s 0 0 (s_A G.2.2)) (F0 m pc ls [.int r]) := fun _ _ _ _ _ _ hd hp S => ret_i C hr hlocks hd hp S
  have hl := lv_entry ([.ref (G.2.2 + 0), .int x1, .int x2]) (n := 3) (Nat.le_of_ble_eq_true rfl)
  rw [lg_entry_eq]
  generalize (lg_sl ([.ref (G.2.2 + 0), .int x1, .int x2]) ++ List.replicate (3 - (lg_sl ([.ref (G.2.2 + 0), .int x1, .int x2])).length) Slot.unset).toArray = ls at hl ⊢
  have hl : lv_has ls 3 [(0, .ref (G.2.2 + 0)), (1, .int x1), (2, .int x2)] := hl
  unfold wpX6_move at h
  refine lv_aload_n C.1 C.2.1 dX6_move_0 rfl (lv_at hl 0 rfl) ?_
  refine g_X6_2 C fl_X6_22 kd_0 S fn_0_2 dX6_move_1 ?_
  refine lv_iload_n C.1 C.2.1 dX6_move_4 rfl (lv_at hl 1 rfl) ?_
  refine k_i (r_VN (As := [.int x1]) (rest := []) C hml (c_X1_has l G 5 x1 σ _ kd_5 h) kM_X1_has im_X1_has se_X1_has nm_X6_89 ⟨rfl, rfl⟩ ⟨Nat.le_of_ble_eq_true rfl, Nat.le_of_ble_eq_true rfl⟩ hcs S.v kd_5 (by decide) (T := TX1) (N := 4) rfl rfl hl.1 rfl (Nat.le_of_ble_eq_true rfl) dX6_move_5) S (fun r2 σ1 H locs h S => ?_)
  refine lv_if_eq (tgt := 22) C.1 C.2.1 dX6_move_8 (by decide) (fun c3 => ?_) (fun c3 => ?_)
  · replace h := h.1 c3
    refine lv_iconst (v := (-1 : Int32)) C.1 C.2.1 dX6_move_22 (by decide) ?_
    exact hR _ _ _ _ _ _ dX6_move_23 h S
  · replace h := h.2 c3
    refine lv_aload_n C.1 C.2.1 dX6_move_11 rfl (lv_at hl 0 rfl) ?_
    refine g_X6_2 C fl_X6_22 kd_0 S fn_0_2 dX6_move_12 ?_
    refine lv_iload_n C.1 C.2.1 dX6_move_15 rfl (lv_at hl 2 rfl) ?_
    refine k_i (r_VN (As := [.int x2]) (rest := []) C hml (c_X1_has l G 5 x2 σ1 _ kd_5 h) kM_X1_has im_X1_has se_X1_has nm_X6_89 ⟨rfl, rfl⟩ ⟨Nat.le_of_ble_eq_true rfl, Nat.le_of_ble_eq_true rfl⟩ hcs S.v kd_5 (by decide) (T := TX1) (N := 4) rfl rfl hl.1 rfl (Nat.le_of_ble_eq_true rfl) dX6_move_16) S (fun r5 σ4 H locs h S => ?_)
    refine lv_if_ne (tgt := 24) C.1 C.2.1 dX6_move_19 (by decide) (fun c6 => ?_) (fun c6 => ?_)
    · replace h := h.1 c6
      refine lv_aload_n C.1 C.2.1 dX6_move_24 rfl (lv_at hl 0 rfl) ?_
      refine k_v (r_V (As := []) (rest := []) C hml (c_X6_beginChange l G σ4 _ h) kM_X6_beginChange im_X6_beginChange se_X6_beginChange ml_X6_82 ⟨rfl, rfl⟩ ⟨Nat.le_of_ble_eq_true rfl, Nat.le_of_ble_eq_true rfl⟩ hcs S.v kd_0 (by decide) (T := TX6) (N := 8) rfl rfl hl.1 rfl (Nat.le_of_ble_eq_true rfl) dX6_move_25) S (fun σ7 H locs h S => ?_)
      refine lv_aload_n C.1 C.2.1 dX6_move_28 rfl (lv_at hl 0 rfl) ?_
      refine g_X6_2 C fl_X6_22 kd_0 S fn_0_2 dX6_move_29 ?_
      refine lv_iload_n C.1 C.2.1 dX6_move_32 rfl (lv_at hl 1 rfl) ?_
      refine lv_iload_n C.1 C.2.1 dX6_move_33 rfl (lv_at hl 2 rfl) ?_
      refine k_v (r_VN (As := [.int x1, .int x2]) (rest := []) C hml (c_X1_reseat l G 5 x1 x2 σ7 _ kd_5 h) kM_X1_reseat im_X1_reseat se_X1_reseat nm_X6_110 ⟨rfl, rfl⟩ ⟨Nat.le_of_ble_eq_true rfl, Nat.le_of_ble_eq_true rfl⟩ hcs S.v kd_5 (by decide) (T := TX1) (N := 4) rfl rfl hl.1 rfl (Nat.le_of_ble_eq_true rfl) dX6_move_34) S (fun σ8 H locs h S => ?_)
      refine lv_iload_n C.1 C.2.1 dX6_move_37 rfl (lv_at hl 2 rfl) ?_
      exact hR _ _ _ _ _ _ dX6_move_38 h S
    · replace h := h.2 c6
      refine lv_iconst (v := (-1 : Int32)) C.1 C.2.1 dX6_move_22 (by decide) ?_
      exact hR _ _ _ _ _ _ dX6_move_23 h S
/-! X1_takeOut -/
abbrev rm_X1_takeOut : Room := { frames := 3, cells := 0, slots := 0, locals := 68 }
def BX1_takeOut_32 (k0 : Nat) (x1 : Int32) (post : Sg → Prop) : Nat → Int32 → Sg → Prop
  | 0, _, _ => False
  | n + 1, x2, σ => ((((σ.1 k0 2) ≤ x2) → post σ) ∧ ((¬ (σ.1 k0 2) ≤ x2) → wpX1_at k0 x2 σ (fun q3 σ2 => s_kd q3 = 3 → wpX1_at k0 x2 σ2 (fun q5 σ4 => s_kd q5 = 3 → wpX6_bitsBelow ((σ4.1 q5 5)) ((σ4.1 k0 2)) σ4 (fun r7 σ6 => (∀ σ8 : Sg, σ8 = setI σ6 q3 5 r7 → BX1_takeOut_32 k0 x1 post n ((x2 + 1)) σ8))))))
def wpX1_takeOut (k0 : Nat) (x1 : Int32) (σ : Sg) (post : Sg → Prop) : Prop := wpX1_has k0 x1 σ (fun r11 σ10 => (((¬ r11 = 0) → wpX1_reseat k0 x1 (((σ10.1 k0 2) - (1 : Int32))) σ10 (fun σ13 => (∀ σ14 : Sg, σ14 = setI σ13 k0 2 (((σ13.1 k0 2) - (1 : Int32))) → ∃ nf, BX1_takeOut_32 k0 x1 post nf ((0 : Int32)) σ14))) ∧ ((r11 = 0) → post σ10)))
set_option maxHeartbeats 4000000 in
set_option maxRecDepth 100000 in
theorem TX1_takeOut_32 (C : s_C G p s args m c RX1 cX1_takeOut) (hml : c.maxLocals = 3) (hcs : cells ≤ (rm_X1_takeOut).cells ∧ slots ≤ (rm_X1_takeOut).slots) {k0 : Nat} {x1 : Int32} (hk0 : s_kd k0 = 1) {post : Sg → Prop} (hR : ∀ (σ1 : Sg) (H : Heap) (locs : List Loc) (pc : Nat) (ls : Array Slot), decode cX1_takeOut pc = .ok (.return_, 1) → post σ1 → s_St G σ1 H0 H locs → W p l e rm_X1_takeOut s m args below meth c H locs cells slots Q (F0 m pc ls [])) : ∀ (n : Nat) (x2 : Int32), ∀ {σ : Sg} {H : Heap} {locs : List Loc} {ls : Array Slot}, s_St G σ H0 H locs → lv_has ls 3 [(0, .ref (G.2.2 + k0)), (2, .int x2)] → BX1_takeOut_32 k0 x1 post n x2 σ → W p l e rm_X1_takeOut s m args below meth c H locs cells slots Q (F0 m 32 ls []) := by
  intro n
  induction n with
  | zero =>
    intro x2  σ H locs ls S hl h
    exact absurd h (fun h => h)
  | succ n ih0 =>
    have ih : ∀ (x2 : Int32), ∀ (σ : Sg) (H : Heap) (locs : List Loc) (ls : Array Slot), s_St G σ H0 H locs → lv_has ls 3 [(0, .ref (G.2.2 + k0)), (2, .int x2)] → BX1_takeOut_32 k0 x1 post n x2 σ → W p l e rm_X1_takeOut s m args below meth c H locs cells slots Q (F0 m 32 ls []) := fun x2  _ _ _ _ => ih0 x2 
    intro x2  σ H locs ls S hl h
    refine lv_iload_n C.1 C.2.1 dX1_takeOut_32 rfl (lv_at hl 1 rfl) ?_
    refine lv_aload_n C.1 C.2.1 dX1_takeOut_33 rfl (lv_at hl 0 rfl) ?_
    refine g_X1_2 C fl_X1_22 hk0 S dX1_takeOut_34 ?_
    refine lv_icmp_ge (tgt := 69) C.1 C.2.1 dX1_takeOut_37 (by decide) (fun c1 => ?_) (fun c1 => ?_)
    · replace h := h.1 c1
      exact hR _ _ _ _ _ dX1_takeOut_69 h S
    · replace h := h.2 c1
      refine lv_aload_n C.1 C.2.1 dX1_takeOut_40 rfl (lv_at hl 0 rfl) ?_
      refine lv_iload_n C.1 C.2.1 dX1_takeOut_41 rfl (lv_at hl 1 rfl) ?_
      refine k_r (kd := 3) (r_V (As := [.int x2]) (rest := []) C hml (c_X1_at l G k0 x2 σ _ hk0 h) kM_X1_at im_X1_at se_X1_at ml_X1_29 ⟨rfl, rfl⟩ ⟨Nat.le_of_ble_eq_true rfl, Nat.le_of_ble_eq_true rfl⟩ hcs S.v hk0 (by decide) (T := TX1) (N := 4) rfl rfl hl.1 rfl (Nat.le_of_ble_eq_true rfl) dX1_takeOut_42) S (fun q3 σ2 H locs hq3 h S => ?_)
      replace h := h hq3
      refine lv_aload_n C.1 C.2.1 dX1_takeOut_45 rfl (lv_at hl 0 rfl) ?_
      refine lv_iload_n C.1 C.2.1 dX1_takeOut_46 rfl (lv_at hl 1 rfl) ?_
      refine k_r (kd := 3) (r_V (As := [.int x2]) (rest := [.ref (G.2.2 + q3)]) C hml (c_X1_at l G k0 x2 σ2 _ hk0 h) kM_X1_at im_X1_at se_X1_at ml_X1_29 ⟨rfl, rfl⟩ ⟨Nat.le_of_ble_eq_true rfl, Nat.le_of_ble_eq_true rfl⟩ hcs S.v hk0 (by decide) (T := TX1) (N := 4) rfl rfl hl.1 rfl (Nat.le_of_ble_eq_true rfl) dX1_takeOut_47) S (fun q5 σ4 H locs hq5 h S => ?_)
      replace h := h hq5
      refine gn_X3_5 C nf_X1_52 hq5 S dX1_takeOut_50 ?_
      refine lv_aload_n C.1 C.2.1 dX1_takeOut_53 rfl (lv_at hl 0 rfl) ?_
      refine g_X1_2 C fl_X1_22 hk0 S dX1_takeOut_54 ?_
      refine k_i (r_SN (As := [.int (σ4.1 q5 5), .int (σ4.1 k0 2)]) (rest := [.ref (G.2.2 + q3)]) C hml (c_X6_bitsBelow l G ((σ4.1 q5 5)) ((σ4.1 k0 2)) σ4 _ h) kM_X6_bitsBelow st_X6_bitsBelow nm_X1_67 ⟨rfl, rfl⟩ ⟨Nat.le_of_ble_eq_true rfl, Nat.le_of_ble_eq_true rfl⟩ hcs S.v rfl hl.1 rfl (Nat.le_of_ble_eq_true rfl) dX1_takeOut_57) S (fun r7 σ6 H locs h S => ?_)
      refine pn_X3_5 C nf_X1_52 hq3 S dX1_takeOut_60 (fun σ8 H locs e9 S => ?_)
      replace h := h σ8 e9
      refine lv_iinc (v := (x2 + 1)) (lv' := [(2, .int (x2 + 1)), (0, .ref (G.2.2 + k0))]) C.1 C.2.1 dX1_takeOut_63 hl (k := 1) rfl rfl (by decide) rfl (fun ls hl => ?_)
      refine lv_goto (tgt := 32) C.1 C.2.1 dX1_takeOut_66 (by decide) ?_
      exact ih ((x2 + 1)) _ _ _ _ S (lv_sub hl [1, 0] rfl) h
theorem kM_X1_takeOut : s_M yX1_takeOut cX1_takeOut 3 none 1 := ⟨co_X1_takeOut, in_X1, by decide, by decide, by decide +kernel⟩
set_option maxHeartbeats 4000000 in
set_option maxRecDepth 100000 in
theorem c_X1_takeOut (l : Launch) (G : s_G) (k0 : Nat) (x1 : Int32) (σ : Sg) (post : Sg → Prop) (hk0 : s_kd k0 = 1) (h : wpX1_takeOut k0 x1 σ post) : Met l yX1_takeOut (wsU yX1_takeOut cX1_takeOut 3 none) rm_X1_takeOut (va_Pc [.ref (G.2.2 + k0), .int x1] (s_Pre G σ)) (va_Qv post (s_B G) (s_A G.2.2)) 0 0 (s_A G.2.2) := by
  refine Met.ofW (cc := cX1_takeOut) (maxL := 3) (ret := none) (by decide) rfl ?_
  intro p e s m args below meth c s₁ B hml hv
  obtain ⟨rfl, hP, hrok, hK, hN⟩ := hv
  have C : s_C G p s (([.ref (G.2.2 + k0), .int x1] : List Value).toArray) m c RX1 cX1_takeOut := ⟨B.exec, B.bytes, findClass_of_methodNamed B.named, fun w hw => atoms_spec (ws := wsU yX1_takeOut cX1_takeOut 3 none) B.pre w (List.mem_cons_of_mem _ hw), hK, hN⟩
  have hr := B.returns
  have hlocks := B.notSynchronized
  have S : s_St G σ s.heap s.heap [] := ⟨hP, va_S.rf, hrok⟩
  have hcs : 0 ≤ (rm_X1_takeOut).cells ∧ 0 ≤ (rm_X1_takeOut).slots := ⟨Nat.le_refl 0, Nat.le_refl 0⟩
  have hR : ∀ (σ1 : Sg) (H : Heap) (locs : List Loc) (pc : Nat) (ls : Array Slot), decode cX1_takeOut pc = .ok (.return_, 1) → post σ1 → s_St G σ1 s.heap H locs → W p l e rm_X1_takeOut s m ([.ref (G.2.2 + k0), .int x1] : List Value).toArray below meth c H locs 0 0 (MQ below (va_Qv post (s_B G) (s_A G.2.2)) ([.ref (G.2.2 + k0), .int x1] : List Value).toArray s 0 0 (s_A G.2.2)) (F0 m pc ls []) := fun _ _ _ _ _ hd hp S => ret_v C hr hlocks hd hp S
  have hl := lv_entry ([.ref (G.2.2 + k0), .int x1]) (n := 3) (Nat.le_of_ble_eq_true rfl)
  rw [lg_entry_eq]
  generalize (lg_sl ([.ref (G.2.2 + k0), .int x1]) ++ List.replicate (3 - (lg_sl ([.ref (G.2.2 + k0), .int x1])).length) Slot.unset).toArray = ls at hl ⊢
  have hl : lv_has ls 3 [(0, .ref (G.2.2 + k0)), (1, .int x1)] := hl
  unfold wpX1_takeOut at h
  refine lv_aload_n C.1 C.2.1 dX1_takeOut_0 rfl (lv_at hl 0 rfl) ?_
  refine lv_iload_n C.1 C.2.1 dX1_takeOut_1 rfl (lv_at hl 1 rfl) ?_
  refine k_i (r_V (As := [.int x1]) (rest := []) C hml (c_X1_has l G k0 x1 σ _ hk0 h) kM_X1_has im_X1_has se_X1_has ml_X1_55 ⟨rfl, rfl⟩ ⟨Nat.le_of_ble_eq_true rfl, Nat.le_of_ble_eq_true rfl⟩ hcs S.v hk0 (by decide) (T := TX1) (N := 4) rfl rfl hl.1 rfl (Nat.le_of_ble_eq_true rfl) dX1_takeOut_2) S (fun r11 σ10 H locs h S => ?_)
  refine lv_if_ne (tgt := 9) C.1 C.2.1 dX1_takeOut_5 (by decide) (fun c12 => ?_) (fun c12 => ?_)
  · replace h := h.1 c12
    refine lv_aload_n C.1 C.2.1 dX1_takeOut_9 rfl (lv_at hl 0 rfl) ?_
    refine lv_iload_n C.1 C.2.1 dX1_takeOut_10 rfl (lv_at hl 1 rfl) ?_
    refine lv_aload_n C.1 C.2.1 dX1_takeOut_11 rfl (lv_at hl 0 rfl) ?_
    refine g_X1_2 C fl_X1_22 hk0 S dX1_takeOut_12 ?_
    refine lv_iconst (v := (1 : Int32)) C.1 C.2.1 dX1_takeOut_15 (by decide) ?_
    refine lv_isub C.1 C.2.1 dX1_takeOut_16 ?_
    refine k_v (r_V (As := [.int x1, .int ((σ10.1 k0 2) - (1 : Int32))]) (rest := []) C hml (c_X1_reseat l G k0 x1 (((σ10.1 k0 2) - (1 : Int32))) σ10 _ hk0 h) kM_X1_reseat im_X1_reseat se_X1_reseat ml_X1_63 ⟨rfl, rfl⟩ ⟨Nat.le_of_ble_eq_true rfl, Nat.le_of_ble_eq_true rfl⟩ hcs S.v hk0 (by decide) (T := TX1) (N := 4) rfl rfl hl.1 rfl (Nat.le_of_ble_eq_true rfl) dX1_takeOut_17) S (fun σ13 H locs h S => ?_)
    refine lv_aload_n C.1 C.2.1 dX1_takeOut_20 rfl (lv_at hl 0 rfl) ?_
    refine lv_dup C.1 C.2.1 dX1_takeOut_21 rfl ?_
    refine g_X1_2 C fl_X1_22 hk0 S dX1_takeOut_22 ?_
    refine lv_iconst (v := (1 : Int32)) C.1 C.2.1 dX1_takeOut_25 (by decide) ?_
    refine lv_isub C.1 C.2.1 dX1_takeOut_26 ?_
    refine p_X1_2 C fl_X1_22 hk0 S dX1_takeOut_27 (fun σ14 H locs e15 S => ?_)
    replace h := h σ14 e15
    refine lv_iconst (v := (0 : Int32)) C.1 C.2.1 dX1_takeOut_30 (by decide) ?_
    refine lv_istore_n (lv' := [(2, .int (0 : Int32)), (0, .ref (G.2.2 + k0)), (1, .int x1)]) C.1 C.2.1 dX1_takeOut_31 rfl hl (by decide) rfl (fun ls hl => ?_)
    obtain ⟨nf, h⟩ := h
    exact TX1_takeOut_32 C hml hcs hk0 hR nf ((0 : Int32)) S (lv_sub hl [1, 0] rfl) h
  · replace h := h.2 c12
    exact hR _ _ _ _ _ dX1_takeOut_8 h S
/-! X6_remove -/
abbrev rm_X6_remove : Room := { frames := 4, cells := 0, slots := 0, locals := 90 }
def wpX6_remove (x1 : Int32) (σ : Sg) (post : Int32 → Sg → Prop) : Prop := wpX1_has 5 x1 σ (fun r2 σ1 => (((¬ r2 = 0) → wpX6_beginChange σ1 (fun σ4 => wpX1_takeOut 5 x1 σ4 (fun σ5 => post ((σ5.1 5 2)) σ5))) ∧ ((r2 = 0) → post ((-1 : Int32)) σ1)))
theorem kM_X6_remove : s_M yX6_remove cX6_remove 2 (some .int) 1 := ⟨co_X6_remove, in_X6, by decide, by decide, by decide +kernel⟩
set_option maxHeartbeats 4000000 in
set_option maxRecDepth 100000 in
theorem c_X6_remove (l : Launch) (G : s_G) (x1 : Int32) (σ : Sg) (post : Int32 → Sg → Prop) (h : wpX6_remove x1 σ post) : Met l yX6_remove (wsU yX6_remove cX6_remove 2 (some .int)) rm_X6_remove (va_Pc [.ref (G.2.2 + 0), .int x1] (s_Pre G σ)) (va_Qi post (s_B G) (s_A G.2.2)) 0 0 (s_A G.2.2) := by
  refine Met.ofW (cc := cX6_remove) (maxL := 2) (ret := (some .int)) (by decide) rfl ?_
  intro p e s m args below meth c s₁ B hml hv
  obtain ⟨rfl, hP, hrok, hK, hN⟩ := hv
  have C : s_C G p s (([.ref (G.2.2 + 0), .int x1] : List Value).toArray) m c RX6 cX6_remove := ⟨B.exec, B.bytes, findClass_of_methodNamed B.named, fun w hw => atoms_spec (ws := wsU yX6_remove cX6_remove 2 (some .int)) B.pre w (List.mem_cons_of_mem _ hw), hK, hN⟩
  have hr := B.returns
  have hlocks := B.notSynchronized
  have S : s_St G σ s.heap s.heap [] := ⟨hP, va_S.rf, hrok⟩
  have hcs : 0 ≤ (rm_X6_remove).cells ∧ 0 ≤ (rm_X6_remove).slots := ⟨Nat.le_refl 0, Nat.le_refl 0⟩
  have hR : ∀ (r : Int32) (σ1 : Sg) (H : Heap) (locs : List Loc) (pc : Nat) (ls : Array Slot), decode cX6_remove pc = .ok (.ireturn, 1) → post r σ1 → s_St G σ1 s.heap H locs → W p l e rm_X6_remove s m ([.ref (G.2.2 + 0), .int x1] : List Value).toArray below meth c H locs 0 0 (MQ below (va_Qi post (s_B G) (s_A G.2.2)) ([.ref (G.2.2 + 0), .int x1] : List Value).toArray s 0 0 (s_A G.2.2)) (F0 m pc ls [.int r]) := fun _ _ _ _ _ _ hd hp S => ret_i C hr hlocks hd hp S
  have hl := lv_entry ([.ref (G.2.2 + 0), .int x1]) (n := 2) (Nat.le_of_ble_eq_true rfl)
  rw [lg_entry_eq]
  generalize (lg_sl ([.ref (G.2.2 + 0), .int x1]) ++ List.replicate (2 - (lg_sl ([.ref (G.2.2 + 0), .int x1])).length) Slot.unset).toArray = ls at hl ⊢
  have hl : lv_has ls 2 [(0, .ref (G.2.2 + 0)), (1, .int x1)] := hl
  unfold wpX6_remove at h
  refine lv_aload_n C.1 C.2.1 dX6_remove_0 rfl (lv_at hl 0 rfl) ?_
  refine g_X6_2 C fl_X6_22 kd_0 S fn_0_2 dX6_remove_1 ?_
  refine lv_iload_n C.1 C.2.1 dX6_remove_4 rfl (lv_at hl 1 rfl) ?_
  refine k_i (r_VN (As := [.int x1]) (rest := []) C hml (c_X1_has l G 5 x1 σ _ kd_5 h) kM_X1_has im_X1_has se_X1_has nm_X6_89 ⟨rfl, rfl⟩ ⟨Nat.le_of_ble_eq_true rfl, Nat.le_of_ble_eq_true rfl⟩ hcs S.v kd_5 (by decide) (T := TX1) (N := 4) rfl rfl hl.1 rfl (Nat.le_of_ble_eq_true rfl) dX6_remove_5) S (fun r2 σ1 H locs h S => ?_)
  refine lv_if_ne (tgt := 13) C.1 C.2.1 dX6_remove_8 (by decide) (fun c3 => ?_) (fun c3 => ?_)
  · replace h := h.1 c3
    refine lv_aload_n C.1 C.2.1 dX6_remove_13 rfl (lv_at hl 0 rfl) ?_
    refine k_v (r_V (As := []) (rest := []) C hml (c_X6_beginChange l G σ1 _ h) kM_X6_beginChange im_X6_beginChange se_X6_beginChange ml_X6_82 ⟨rfl, rfl⟩ ⟨Nat.le_of_ble_eq_true rfl, Nat.le_of_ble_eq_true rfl⟩ hcs S.v kd_0 (by decide) (T := TX6) (N := 8) rfl rfl hl.1 rfl (Nat.le_of_ble_eq_true rfl) dX6_remove_14) S (fun σ4 H locs h S => ?_)
    refine lv_aload_n C.1 C.2.1 dX6_remove_17 rfl (lv_at hl 0 rfl) ?_
    refine g_X6_2 C fl_X6_22 kd_0 S fn_0_2 dX6_remove_18 ?_
    refine lv_iload_n C.1 C.2.1 dX6_remove_21 rfl (lv_at hl 1 rfl) ?_
    refine k_v (r_VN (As := [.int x1]) (rest := []) C hml (c_X1_takeOut l G 5 x1 σ4 _ kd_5 h) kM_X1_takeOut im_X1_takeOut se_X1_takeOut nm_X6_92 ⟨rfl, rfl⟩ ⟨Nat.le_of_ble_eq_true rfl, Nat.le_of_ble_eq_true rfl⟩ hcs S.v kd_5 (by decide) (T := TX1) (N := 4) rfl rfl hl.1 rfl (Nat.le_of_ble_eq_true rfl) dX6_remove_22) S (fun σ5 H locs h S => ?_)
    refine lv_aload_n C.1 C.2.1 dX6_remove_25 rfl (lv_at hl 0 rfl) ?_
    refine g_X6_2 C fl_X6_22 kd_0 S fn_0_2 dX6_remove_26 ?_
    refine gn_X1_2 C nf_X6_79 kd_5 S dX6_remove_29 ?_
    exact hR _ _ _ _ _ _ dX6_remove_32 h S
  · replace h := h.2 c3
    refine lv_iconst (v := (-1 : Int32)) C.1 C.2.1 dX6_remove_11 (by decide) ?_
    exact hR _ _ _ _ _ _ dX6_remove_12 h S
/-! X6_withBit -/
abbrev rm_X6_withBit : Room := { frames := 0, cells := 0, slots := 0, locals := 0 }
def wpX6_withBit (x0 : Int32) (x1 : Int32) (x2 : Int32) (σ : Sg) (post : Int32 → Sg → Prop) : Prop := post (((x0 &&& (((1 : Int32) <<< (x1 &&& 31)) ^^^ (-1 : Int32))) ||| (x2 <<< (x1 &&& 31)))) σ
theorem kM_X6_withBit : s_M yX6_withBit cX6_withBit 3 (some .int) 3 := ⟨co_X6_withBit, in_X6, by decide, by decide, by decide +kernel⟩
set_option maxHeartbeats 4000000 in
set_option maxRecDepth 100000 in
theorem c_X6_withBit (l : Launch) (G : s_G) (x0 : Int32) (x1 : Int32) (x2 : Int32) (σ : Sg) (post : Int32 → Sg → Prop) (h : wpX6_withBit x0 x1 x2 σ post) : Met l yX6_withBit (wsU yX6_withBit cX6_withBit 3 (some .int)) rm_X6_withBit (va_Pc [.int x0, .int x1, .int x2] (s_Pre G σ)) (va_Qi post (s_B G) (s_A G.2.2)) 0 0 (s_A G.2.2) := by
  refine Met.ofW (cc := cX6_withBit) (maxL := 3) (ret := (some .int)) (by decide) rfl ?_
  intro p e s m args below meth c s₁ B hml hv
  obtain ⟨rfl, hP, hrok, hK, hN⟩ := hv
  have C : s_C G p s (([.int x0, .int x1, .int x2] : List Value).toArray) m c RX6 cX6_withBit := ⟨B.exec, B.bytes, findClass_of_methodNamed B.named, fun w hw => atoms_spec (ws := wsU yX6_withBit cX6_withBit 3 (some .int)) B.pre w (List.mem_cons_of_mem _ hw), hK, hN⟩
  have hr := B.returns
  have hlocks := B.notSynchronized
  have S : s_St G σ s.heap s.heap [] := ⟨hP, va_S.rf, hrok⟩
  have hcs : 0 ≤ (rm_X6_withBit).cells ∧ 0 ≤ (rm_X6_withBit).slots := ⟨Nat.le_refl 0, Nat.le_refl 0⟩
  have hR : ∀ (r : Int32) (σ1 : Sg) (H : Heap) (locs : List Loc) (pc : Nat) (ls : Array Slot), decode cX6_withBit pc = .ok (.ireturn, 1) → post r σ1 → s_St G σ1 s.heap H locs → W p l e rm_X6_withBit s m ([.int x0, .int x1, .int x2] : List Value).toArray below meth c H locs 0 0 (MQ below (va_Qi post (s_B G) (s_A G.2.2)) ([.int x0, .int x1, .int x2] : List Value).toArray s 0 0 (s_A G.2.2)) (F0 m pc ls [.int r]) := fun _ _ _ _ _ _ hd hp S => ret_i C hr hlocks hd hp S
  have hl := lv_entry ([.int x0, .int x1, .int x2]) (n := 3) (Nat.le_of_ble_eq_true rfl)
  rw [lg_entry_eq]
  generalize (lg_sl ([.int x0, .int x1, .int x2]) ++ List.replicate (3 - (lg_sl ([.int x0, .int x1, .int x2])).length) Slot.unset).toArray = ls at hl ⊢
  have hl : lv_has ls 3 [(0, .int x0), (1, .int x1), (2, .int x2)] := hl
  unfold wpX6_withBit at h
  refine lv_iload_n C.1 C.2.1 dX6_withBit_0 rfl (lv_at hl 0 rfl) ?_
  refine lv_iconst (v := (1 : Int32)) C.1 C.2.1 dX6_withBit_1 (by decide) ?_
  refine lv_iload_n C.1 C.2.1 dX6_withBit_2 rfl (lv_at hl 1 rfl) ?_
  refine lv_ishl C.1 C.2.1 dX6_withBit_3 ?_
  refine lv_iconst (v := (-1 : Int32)) C.1 C.2.1 dX6_withBit_4 (by decide) ?_
  refine lv_ixor C.1 C.2.1 dX6_withBit_5 ?_
  refine lv_iand C.1 C.2.1 dX6_withBit_6 ?_
  refine lv_iload_n C.1 C.2.1 dX6_withBit_7 rfl (lv_at hl 2 rfl) ?_
  refine lv_iload_n C.1 C.2.1 dX6_withBit_8 rfl (lv_at hl 1 rfl) ?_
  refine lv_ishl C.1 C.2.1 dX6_withBit_9 ?_
  refine lv_ior C.1 C.2.1 dX6_withBit_10 ?_
  exact hR _ _ _ _ _ _ dX6_withBit_11 h S
/-! X6_rule -/
abbrev rm_X6_rule : Room := { frames := 4, cells := 0, slots := 0, locals := 84 }
def wpX6_rule (x1 : Int32) (x2 : Int32) (x3 : Int32) (σ : Sg) (post : Int32 → Sg → Prop) : Prop := wpX1_has 5 x1 σ (fun r2 σ1 => (((r2 = 0) → post ((-1 : Int32)) σ1) ∧ ((¬ r2 = 0) → wpX1_has 5 x2 σ1 (fun r5 σ4 => (((r5 = 0) → post ((-1 : Int32)) σ4) ∧ ((¬ r5 = 0) → (((x1 = x2) → post ((-1 : Int32)) σ4) ∧ ((¬ x1 = x2) → (((x3 < 0) → post ((-1 : Int32)) σ4) ∧ ((¬ x3 < 0) → (((x3 ≤ (1 : Int32)) → wpX6_beginChange σ4 (fun σ10 => wpX1_at 5 x1 σ10 (fun q12 σ11 => s_kd q12 = 3 → wpX6_bitOf ((σ11.1 q12 5)) x2 σ11 (fun r14 σ13 => wpX6_withBit ((σ13.1 q12 5)) x2 x3 σ13 (fun r16 σ15 => (∀ σ17 : Sg, σ17 = setI σ15 q12 5 r16 → post r14 σ17)))))) ∧ ((¬ x3 ≤ (1 : Int32)) → post ((-1 : Int32)) σ4))))))))))))
theorem kM_X6_rule : s_M yX6_rule cX6_rule 6 (some .int) 3 := ⟨co_X6_rule, in_X6, by decide, by decide, by decide +kernel⟩
set_option maxHeartbeats 4000000 in
set_option maxRecDepth 100000 in
theorem c_X6_rule (l : Launch) (G : s_G) (x1 : Int32) (x2 : Int32) (x3 : Int32) (σ : Sg) (post : Int32 → Sg → Prop) (h : wpX6_rule x1 x2 x3 σ post) : Met l yX6_rule (wsU yX6_rule cX6_rule 6 (some .int)) rm_X6_rule (va_Pc [.ref (G.2.2 + 0), .int x1, .int x2, .int x3] (s_Pre G σ)) (va_Qi post (s_B G) (s_A G.2.2)) 0 0 (s_A G.2.2) := by
  refine Met.ofW (cc := cX6_rule) (maxL := 6) (ret := (some .int)) (by decide) rfl ?_
  intro p e s m args below meth c s₁ B hml hv
  obtain ⟨rfl, hP, hrok, hK, hN⟩ := hv
  have C : s_C G p s (([.ref (G.2.2 + 0), .int x1, .int x2, .int x3] : List Value).toArray) m c RX6 cX6_rule := ⟨B.exec, B.bytes, findClass_of_methodNamed B.named, fun w hw => atoms_spec (ws := wsU yX6_rule cX6_rule 6 (some .int)) B.pre w (List.mem_cons_of_mem _ hw), hK, hN⟩
  have hr := B.returns
  have hlocks := B.notSynchronized
  have S : s_St G σ s.heap s.heap [] := ⟨hP, va_S.rf, hrok⟩
  have hcs : 0 ≤ (rm_X6_rule).cells ∧ 0 ≤ (rm_X6_rule).slots := ⟨Nat.le_refl 0, Nat.le_refl 0⟩
  have hR : ∀ (r : Int32) (σ1 : Sg) (H : Heap) (locs : List Loc) (pc : Nat) (ls : Array Slot), decode cX6_rule pc = .ok (.ireturn, 1) → post r σ1 → s_St G σ1 s.heap H locs → W p l e rm_X6_rule s m ([.ref (G.2.2 + 0), .int x1, .int x2, .int x3] : List Value).toArray below meth c H locs 0 0 (MQ below (va_Qi post (s_B G) (s_A G.2.2)) ([.ref (G.2.2 + 0), .int x1, .int x2, .int x3] : List Value).toArray s 0 0 (s_A G.2.2)) (F0 m pc ls [.int r]) := fun _ _ _ _ _ _ hd hp S => ret_i C hr hlocks hd hp S
  have hl := lv_entry ([.ref (G.2.2 + 0), .int x1, .int x2, .int x3]) (n := 6) (Nat.le_of_ble_eq_true rfl)
  rw [lg_entry_eq]
  generalize (lg_sl ([.ref (G.2.2 + 0), .int x1, .int x2, .int x3]) ++ List.replicate (6 - (lg_sl ([.ref (G.2.2 + 0), .int x1, .int x2, .int x3])).length) Slot.unset).toArray = ls at hl ⊢
  have hl : lv_has ls 6 [(0, .ref (G.2.2 + 0)), (1, .int x1), (2, .int x2), (3, .int x3)] := hl
  unfold wpX6_rule at h
  refine lv_aload_n C.1 C.2.1 dX6_rule_0 rfl (lv_at hl 0 rfl) ?_
  refine g_X6_2 C fl_X6_22 kd_0 S fn_0_2 dX6_rule_1 ?_
  refine lv_iload_n C.1 C.2.1 dX6_rule_4 rfl (lv_at hl 1 rfl) ?_
  refine k_i (r_VN (As := [.int x1]) (rest := []) C hml (c_X1_has l G 5 x1 σ _ kd_5 h) kM_X1_has im_X1_has se_X1_has nm_X6_89 ⟨rfl, rfl⟩ ⟨Nat.le_of_ble_eq_true rfl, Nat.le_of_ble_eq_true rfl⟩ hcs S.v kd_5 (by decide) (T := TX1) (N := 4) rfl rfl hl.1 rfl (Nat.le_of_ble_eq_true rfl) dX6_rule_5) S (fun r2 σ1 H locs h S => ?_)
  refine lv_if_eq (tgt := 36) C.1 C.2.1 dX6_rule_8 (by decide) (fun c3 => ?_) (fun c3 => ?_)
  · replace h := h.1 c3
    refine lv_iconst (v := (-1 : Int32)) C.1 C.2.1 dX6_rule_36 (by decide) ?_
    exact hR _ _ _ _ _ _ dX6_rule_37 h S
  · replace h := h.2 c3
    refine lv_aload_n C.1 C.2.1 dX6_rule_11 rfl (lv_at hl 0 rfl) ?_
    refine g_X6_2 C fl_X6_22 kd_0 S fn_0_2 dX6_rule_12 ?_
    refine lv_iload_n C.1 C.2.1 dX6_rule_15 rfl (lv_at hl 2 rfl) ?_
    refine k_i (r_VN (As := [.int x2]) (rest := []) C hml (c_X1_has l G 5 x2 σ1 _ kd_5 h) kM_X1_has im_X1_has se_X1_has nm_X6_89 ⟨rfl, rfl⟩ ⟨Nat.le_of_ble_eq_true rfl, Nat.le_of_ble_eq_true rfl⟩ hcs S.v kd_5 (by decide) (T := TX1) (N := 4) rfl rfl hl.1 rfl (Nat.le_of_ble_eq_true rfl) dX6_rule_16) S (fun r5 σ4 H locs h S => ?_)
    refine lv_if_eq (tgt := 36) C.1 C.2.1 dX6_rule_19 (by decide) (fun c6 => ?_) (fun c6 => ?_)
    · replace h := h.1 c6
      refine lv_iconst (v := (-1 : Int32)) C.1 C.2.1 dX6_rule_36 (by decide) ?_
      exact hR _ _ _ _ _ _ dX6_rule_37 h S
    · replace h := h.2 c6
      refine lv_iload_n C.1 C.2.1 dX6_rule_22 rfl (lv_at hl 1 rfl) ?_
      refine lv_iload_n C.1 C.2.1 dX6_rule_23 rfl (lv_at hl 2 rfl) ?_
      refine lv_icmp_eq (tgt := 36) C.1 C.2.1 dX6_rule_24 (by decide) (fun c7 => ?_) (fun c7 => ?_)
      · replace h := h.1 c7
        refine lv_iconst (v := (-1 : Int32)) C.1 C.2.1 dX6_rule_36 (by decide) ?_
        exact hR _ _ _ _ _ _ dX6_rule_37 h S
      · replace h := h.2 c7
        refine lv_iload_n C.1 C.2.1 dX6_rule_27 rfl (lv_at hl 3 rfl) ?_
        refine lv_if_lt (tgt := 36) C.1 C.2.1 dX6_rule_28 (by decide) (fun c8 => ?_) (fun c8 => ?_)
        · replace h := h.1 c8
          refine lv_iconst (v := (-1 : Int32)) C.1 C.2.1 dX6_rule_36 (by decide) ?_
          exact hR _ _ _ _ _ _ dX6_rule_37 h S
        · replace h := h.2 c8
          refine lv_iload_n C.1 C.2.1 dX6_rule_31 rfl (lv_at hl 3 rfl) ?_
          refine lv_iconst (v := (1 : Int32)) C.1 C.2.1 dX6_rule_32 (by decide) ?_
          refine lv_icmp_le (tgt := 38) C.1 C.2.1 dX6_rule_33 (by decide) (fun c9 => ?_) (fun c9 => ?_)
          · replace h := h.1 c9
            refine lv_aload_n C.1 C.2.1 dX6_rule_38 rfl (lv_at hl 0 rfl) ?_
            refine k_v (r_V (As := []) (rest := []) C hml (c_X6_beginChange l G σ4 _ h) kM_X6_beginChange im_X6_beginChange se_X6_beginChange ml_X6_82 ⟨rfl, rfl⟩ ⟨Nat.le_of_ble_eq_true rfl, Nat.le_of_ble_eq_true rfl⟩ hcs S.v kd_0 (by decide) (T := TX6) (N := 8) rfl rfl hl.1 rfl (Nat.le_of_ble_eq_true rfl) dX6_rule_39) S (fun σ10 H locs h S => ?_)
            refine lv_aload_n C.1 C.2.1 dX6_rule_42 rfl (lv_at hl 0 rfl) ?_
            refine g_X6_2 C fl_X6_22 kd_0 S fn_0_2 dX6_rule_43 ?_
            refine lv_iload_n C.1 C.2.1 dX6_rule_46 rfl (lv_at hl 1 rfl) ?_
            refine k_r (kd := 3) (r_VN (As := [.int x1]) (rest := []) C hml (c_X1_at l G 5 x1 σ10 _ kd_5 h) kM_X1_at im_X1_at se_X1_at nm_X6_96 ⟨rfl, rfl⟩ ⟨Nat.le_of_ble_eq_true rfl, Nat.le_of_ble_eq_true rfl⟩ hcs S.v kd_5 (by decide) (T := TX1) (N := 4) rfl rfl hl.1 rfl (Nat.le_of_ble_eq_true rfl) dX6_rule_47) S (fun q12 σ11 H locs hq12 h S => ?_)
            replace h := h hq12
            refine lv_astore (lv' := [(4, .ref (G.2.2 + q12)), (0, .ref (G.2.2 + 0)), (1, .int x1), (2, .int x2), (3, .int x3)]) C.1 C.2.1 dX6_rule_50 hl (by decide) rfl (fun ls hl => ?_)
            refine lv_aload C.1 C.2.1 dX6_rule_52 (lv_at hl 0 rfl) ?_
            refine gn_X3_5 C nf_X6_117 hq12 S dX6_rule_54 ?_
            refine lv_iload_n C.1 C.2.1 dX6_rule_57 rfl (lv_at hl 3 rfl) ?_
            refine k_i (r_S (As := [.int (σ11.1 q12 5), .int x2]) (rest := []) C hml (c_X6_bitOf l G ((σ11.1 q12 5)) x2 σ11 _ h) kM_X6_bitOf st_X6_bitOf ml_X6_120 ⟨rfl, rfl⟩ ⟨Nat.le_of_ble_eq_true rfl, Nat.le_of_ble_eq_true rfl⟩ hcs S.v rfl hl.1 rfl (Nat.le_of_ble_eq_true rfl) dX6_rule_58) S (fun r14 σ13 H locs h S => ?_)
            refine lv_istore (lv' := [(5, .int r14), (4, .ref (G.2.2 + q12)), (0, .ref (G.2.2 + 0)), (1, .int x1), (2, .int x2), (3, .int x3)]) C.1 C.2.1 dX6_rule_61 hl (by decide) rfl (fun ls hl => ?_)
            refine lv_aload C.1 C.2.1 dX6_rule_63 (lv_at hl 1 rfl) ?_
            refine lv_aload C.1 C.2.1 dX6_rule_65 (lv_at hl 1 rfl) ?_
            refine gn_X3_5 C nf_X6_117 hq12 S dX6_rule_67 ?_
            refine lv_iload_n C.1 C.2.1 dX6_rule_70 rfl (lv_at hl 4 rfl) ?_
            refine lv_iload_n C.1 C.2.1 dX6_rule_71 rfl (lv_at hl 5 rfl) ?_
            refine k_i (r_S (As := [.int (σ13.1 q12 5), .int x2, .int x3]) (rest := [.ref (G.2.2 + q12)]) C hml (c_X6_withBit l G ((σ13.1 q12 5)) x2 x3 σ13 _ h) kM_X6_withBit st_X6_withBit ml_X6_123 ⟨rfl, rfl⟩ ⟨Nat.le_of_ble_eq_true rfl, Nat.le_of_ble_eq_true rfl⟩ hcs S.v rfl hl.1 rfl (Nat.le_of_ble_eq_true rfl) dX6_rule_72) S (fun r16 σ15 H locs h S => ?_)
            refine pn_X3_5 C nf_X6_117 hq12 S dX6_rule_75 (fun σ17 H locs e18 S => ?_)
            replace h := h σ17 e18
            refine lv_iload C.1 C.2.1 dX6_rule_78 (lv_at hl 0 rfl) ?_
            exact hR _ _ _ _ _ _ dX6_rule_80 h S
          · replace h := h.2 c9
            refine lv_iconst (v := (-1 : Int32)) C.1 C.2.1 dX6_rule_36 (by decide) ?_
            exact hR _ _ _ _ _ _ dX6_rule_37 h S
/-! X3_accepts -/
abbrev rm_X3_accepts : Room := { frames := 1, cells := 0, slots := 0, locals := 20 }
def wpX3_accepts (k0 : Nat) (x1 : Int32) (x2 : Int32) (σ : Sg) (post : Int32 → Sg → Prop) : Prop := ((((x1).toInt < 0 ∨ 3 < (x1).toInt) → post (0 : Int32) σ) ∧ ((x1 = 0) → wpX6_isKind x2 σ (fun r3 σ2 => (narrow .boolean (.int r3) = .int r3 ∧ post r3 σ2))) ∧ ((x1 = 1) → (((x2 < 0) → post (0 : Int32) σ) ∧ ((¬ x2 < 0) → ((((σ.1 k0 3) < x2) → post (0 : Int32) σ) ∧ ((¬ (σ.1 k0 3) < x2) → post (1 : Int32) σ))))) ∧ ((x1 = 2) → (((x2 < (1 : Int32)) → post (0 : Int32) σ) ∧ ((¬ x2 < (1 : Int32)) → ((((3 : Int32) < x2) → post (0 : Int32) σ) ∧ ((¬ (3 : Int32) < x2) → (((x2 < (σ.1 k0 2)) → post (0 : Int32) σ) ∧ ((¬ x2 < (σ.1 k0 2)) → post (1 : Int32) σ))))))) ∧ ((x1 = 3) → (((x2 < 0) → post (0 : Int32) σ) ∧ ((¬ x2 < 0) → ((((999 : Int32) < x2) → post (0 : Int32) σ) ∧ ((¬ (999 : Int32) < x2) → post (1 : Int32) σ))))))
theorem kM_X3_accepts : s_M yX3_accepts cX3_accepts 3 (some .boolean) 2 := ⟨co_X3_accepts, in_X3, by decide, by decide, by decide +kernel⟩
set_option maxHeartbeats 4000000 in
set_option maxRecDepth 100000 in
theorem c_X3_accepts (l : Launch) (G : s_G) (k0 : Nat) (x1 : Int32) (x2 : Int32) (σ : Sg) (post : Int32 → Sg → Prop) (hk0 : s_kd k0 = 3) (h : wpX3_accepts k0 x1 x2 σ post) : Met l yX3_accepts (wsU yX3_accepts cX3_accepts 3 (some .boolean)) rm_X3_accepts (va_Pc [.ref (G.2.2 + k0), .int x1, .int x2] (s_Pre G σ)) (va_Qi post (s_B G) (s_A G.2.2)) 0 0 (s_A G.2.2) := by
  refine Met.ofW (cc := cX3_accepts) (maxL := 3) (ret := (some .boolean)) (by decide) rfl ?_
  intro p e s m args below meth c s₁ B hml hv
  obtain ⟨rfl, hP, hrok, hK, hN⟩ := hv
  have C : s_C G p s (([.ref (G.2.2 + k0), .int x1, .int x2] : List Value).toArray) m c RX3 cX3_accepts := ⟨B.exec, B.bytes, findClass_of_methodNamed B.named, fun w hw => atoms_spec (ws := wsU yX3_accepts cX3_accepts 3 (some .boolean)) B.pre w (List.mem_cons_of_mem _ hw), hK, hN⟩
  have hr := B.returns
  have hlocks := B.notSynchronized
  have S : s_St G σ s.heap s.heap [] := ⟨hP, va_S.rf, hrok⟩
  have hcs : 0 ≤ (rm_X3_accepts).cells ∧ 0 ≤ (rm_X3_accepts).slots := ⟨Nat.le_refl 0, Nat.le_refl 0⟩
  have hR : ∀ (r : Int32) (σ1 : Sg) (H : Heap) (locs : List Loc) (pc : Nat) (ls : Array Slot), decode cX3_accepts pc = .ok (.ireturn, 1) → narrow .boolean (.int r) = .int r → post r σ1 → s_St G σ1 s.heap H locs → W p l e rm_X3_accepts s m ([.ref (G.2.2 + k0), .int x1, .int x2] : List Value).toArray below meth c H locs 0 0 (MQ below (va_Qi post (s_B G) (s_A G.2.2)) ([.ref (G.2.2 + k0), .int x1, .int x2] : List Value).toArray s 0 0 (s_A G.2.2)) (F0 m pc ls [.int r]) := fun _ _ _ _ _ _ hd hn hp S => ret_z C hr hlocks hd hn hp S
  have hl := lv_entry ([.ref (G.2.2 + k0), .int x1, .int x2]) (n := 3) (Nat.le_of_ble_eq_true rfl)
  rw [lg_entry_eq]
  generalize (lg_sl ([.ref (G.2.2 + k0), .int x1, .int x2]) ++ List.replicate (3 - (lg_sl ([.ref (G.2.2 + k0), .int x1, .int x2])).length) Slot.unset).toArray = ls at hl ⊢
  have hl : lv_has ls 3 [(0, .ref (G.2.2 + k0)), (1, .int x1), (2, .int x2)] := hl
  unfold wpX3_accepts at h
  refine lv_iload_n C.1 C.2.1 dX3_accepts_0 rfl (lv_at hl 1 rfl) ?_
  rcases (sw_0_3 x1) with c1 | c1 | c1 | c1 | c1
  · replace h := h.1 c1
    refine lv_tableOut (tgt := 96) C.1 C.2.1 dX3_accepts_1 c1 (by decide) ?_
    refine lv_iconst (v := (0 : Int32)) C.1 C.2.1 dX3_accepts_96 (by decide) ?_
    exact hR _ _ _ _ _ _ dX3_accepts_97 rfl h S
  · replace h := h.2.1 c1
    refine lv_tableIn (tgt := 32) (off := 31) C.1 C.2.1 dX3_accepts_1 (by rw [c1]; decide) (by rw [c1]; decide) (by rw [c1]; decide) (by decide) ?_
    refine lv_iload_n C.1 C.2.1 dX3_accepts_32 rfl (lv_at hl 2 rfl) ?_
    refine k_i (r_SN (As := [.int x2]) (rest := []) C hml (c_X6_isKind l G x2 σ _ h) kM_X6_isKind st_X6_isKind nm_X3_44 ⟨rfl, rfl⟩ ⟨Nat.le_of_ble_eq_true rfl, Nat.le_of_ble_eq_true rfl⟩ hcs S.v rfl hl.1 rfl (Nat.le_of_ble_eq_true rfl) dX3_accepts_33) S (fun r3 σ2 H locs h S => ?_)
    exact hR _ _ _ _ _ _ dX3_accepts_36 h.1 h.2 S
  · replace h := h.2.2.1 c1
    refine lv_tableIn (tgt := 37) (off := 36) C.1 C.2.1 dX3_accepts_1 (by rw [c1]; decide) (by rw [c1]; decide) (by rw [c1]; decide) (by decide) ?_
    refine lv_iload_n C.1 C.2.1 dX3_accepts_37 rfl (lv_at hl 2 rfl) ?_
    refine lv_if_lt (tgt := 53) C.1 C.2.1 dX3_accepts_38 (by decide) (fun c4 => ?_) (fun c4 => ?_)
    · replace h := h.1 c4
      refine lv_iconst (v := (0 : Int32)) C.1 C.2.1 dX3_accepts_53 (by decide) ?_
      exact hR _ _ _ _ _ _ dX3_accepts_54 rfl h S
    · replace h := h.2 c4
      refine lv_iload_n C.1 C.2.1 dX3_accepts_41 rfl (lv_at hl 2 rfl) ?_
      refine lv_aload_n C.1 C.2.1 dX3_accepts_42 rfl (lv_at hl 0 rfl) ?_
      refine g_X3_3 C fl_X3_21 hk0 S dX3_accepts_43 ?_
      refine lv_icmp_gt (tgt := 53) C.1 C.2.1 dX3_accepts_46 (by decide) (fun c5 => ?_) (fun c5 => ?_)
      · replace h := h.1 c5
        refine lv_iconst (v := (0 : Int32)) C.1 C.2.1 dX3_accepts_53 (by decide) ?_
        exact hR _ _ _ _ _ _ dX3_accepts_54 rfl h S
      · replace h := h.2 c5
        refine lv_iconst (v := (1 : Int32)) C.1 C.2.1 dX3_accepts_49 (by decide) ?_
        refine lv_goto (tgt := 54) C.1 C.2.1 dX3_accepts_50 (by decide) ?_
        exact hR _ _ _ _ _ _ dX3_accepts_54 rfl h S
  · replace h := h.2.2.2.1 c1
    refine lv_tableIn (tgt := 55) (off := 54) C.1 C.2.1 dX3_accepts_1 (by rw [c1]; decide) (by rw [c1]; decide) (by rw [c1]; decide) (by decide) ?_
    refine lv_iload_n C.1 C.2.1 dX3_accepts_55 rfl (lv_at hl 2 rfl) ?_
    refine lv_iconst (v := (1 : Int32)) C.1 C.2.1 dX3_accepts_56 (by decide) ?_
    refine lv_icmp_lt (tgt := 77) C.1 C.2.1 dX3_accepts_57 (by decide) (fun c6 => ?_) (fun c6 => ?_)
    · replace h := h.1 c6
      refine lv_iconst (v := (0 : Int32)) C.1 C.2.1 dX3_accepts_77 (by decide) ?_
      exact hR _ _ _ _ _ _ dX3_accepts_78 rfl h S
    · replace h := h.2 c6
      refine lv_iload_n C.1 C.2.1 dX3_accepts_60 rfl (lv_at hl 2 rfl) ?_
      refine lv_iconst (v := (3 : Int32)) C.1 C.2.1 dX3_accepts_61 (by decide) ?_
      refine lv_icmp_gt (tgt := 77) C.1 C.2.1 dX3_accepts_62 (by decide) (fun c7 => ?_) (fun c7 => ?_)
      · replace h := h.1 c7
        refine lv_iconst (v := (0 : Int32)) C.1 C.2.1 dX3_accepts_77 (by decide) ?_
        exact hR _ _ _ _ _ _ dX3_accepts_78 rfl h S
      · replace h := h.2 c7
        refine lv_iload_n C.1 C.2.1 dX3_accepts_65 rfl (lv_at hl 2 rfl) ?_
        refine lv_aload_n C.1 C.2.1 dX3_accepts_66 rfl (lv_at hl 0 rfl) ?_
        refine g_X3_2 C fl_X3_18 hk0 S dX3_accepts_67 ?_
        refine lv_icmp_lt (tgt := 77) C.1 C.2.1 dX3_accepts_70 (by decide) (fun c8 => ?_) (fun c8 => ?_)
        · replace h := h.1 c8
          refine lv_iconst (v := (0 : Int32)) C.1 C.2.1 dX3_accepts_77 (by decide) ?_
          exact hR _ _ _ _ _ _ dX3_accepts_78 rfl h S
        · replace h := h.2 c8
          refine lv_iconst (v := (1 : Int32)) C.1 C.2.1 dX3_accepts_73 (by decide) ?_
          refine lv_goto (tgt := 78) C.1 C.2.1 dX3_accepts_74 (by decide) ?_
          exact hR _ _ _ _ _ _ dX3_accepts_78 rfl h S
  · replace h := h.2.2.2.2 c1
    refine lv_tableIn (tgt := 79) (off := 78) C.1 C.2.1 dX3_accepts_1 (by rw [c1]; decide) (by rw [c1]; decide) (by rw [c1]; decide) (by decide) ?_
    refine lv_iload_n C.1 C.2.1 dX3_accepts_79 rfl (lv_at hl 2 rfl) ?_
    refine lv_if_lt (tgt := 94) C.1 C.2.1 dX3_accepts_80 (by decide) (fun c9 => ?_) (fun c9 => ?_)
    · replace h := h.1 c9
      refine lv_iconst (v := (0 : Int32)) C.1 C.2.1 dX3_accepts_94 (by decide) ?_
      exact hR _ _ _ _ _ _ dX3_accepts_95 rfl h S
    · replace h := h.2 c9
      refine lv_iload_n C.1 C.2.1 dX3_accepts_83 rfl (lv_at hl 2 rfl) ?_
      refine lv_sipush (v := (999 : Int32)) C.1 C.2.1 dX3_accepts_84 (by decide) ?_
      refine lv_icmp_gt (tgt := 94) C.1 C.2.1 dX3_accepts_87 (by decide) (fun c10 => ?_) (fun c10 => ?_)
      · replace h := h.1 c10
        refine lv_iconst (v := (0 : Int32)) C.1 C.2.1 dX3_accepts_94 (by decide) ?_
        exact hR _ _ _ _ _ _ dX3_accepts_95 rfl h S
      · replace h := h.2 c10
        refine lv_iconst (v := (1 : Int32)) C.1 C.2.1 dX3_accepts_90 (by decide) ?_
        refine lv_goto (tgt := 95) C.1 C.2.1 dX3_accepts_91 (by decide) ?_
        exact hR _ _ _ _ _ _ dX3_accepts_95 rfl h S
/-! X3_exchange -/
abbrev rm_X3_exchange : Room := { frames := 1, cells := 0, slots := 0, locals := 21 }
def wpX3_exchange (k0 : Nat) (x1 : Int32) (x2 : Int32) (σ : Sg) (post : Int32 → Sg → Prop) : Prop := wpX3_property k0 x1 σ (fun r2 σ1 => ((((x1).toInt < 0 ∨ 2 < (x1).toInt) → (∀ σ4 : Sg, σ4 = setI σ1 k0 4 x2 → post r2 σ4)) ∧ ((x1 = 0) → (∀ σ6 : Sg, σ6 = setI σ1 k0 1 x2 → post r2 σ6)) ∧ ((x1 = 1) → (∀ σ8 : Sg, σ8 = setI σ1 k0 2 x2 → post r2 σ8)) ∧ ((x1 = 2) → (∀ σ10 : Sg, σ10 = setI σ1 k0 3 x2 → post r2 σ10))))
theorem kM_X3_exchange : s_M yX3_exchange cX3_exchange 4 (some .int) 2 := ⟨co_X3_exchange, in_X3, by decide, by decide, by decide +kernel⟩
set_option maxHeartbeats 4000000 in
set_option maxRecDepth 100000 in
theorem c_X3_exchange (l : Launch) (G : s_G) (k0 : Nat) (x1 : Int32) (x2 : Int32) (σ : Sg) (post : Int32 → Sg → Prop) (hk0 : s_kd k0 = 3) (h : wpX3_exchange k0 x1 x2 σ post) : Met l yX3_exchange (wsU yX3_exchange cX3_exchange 4 (some .int)) rm_X3_exchange (va_Pc [.ref (G.2.2 + k0), .int x1, .int x2] (s_Pre G σ)) (va_Qi post (s_B G) (s_A G.2.2)) 0 0 (s_A G.2.2) := by
  refine Met.ofW (cc := cX3_exchange) (maxL := 4) (ret := (some .int)) (by decide) rfl ?_
  intro p e s m args below meth c s₁ B hml hv
  obtain ⟨rfl, hP, hrok, hK, hN⟩ := hv
  have C : s_C G p s (([.ref (G.2.2 + k0), .int x1, .int x2] : List Value).toArray) m c RX3 cX3_exchange := ⟨B.exec, B.bytes, findClass_of_methodNamed B.named, fun w hw => atoms_spec (ws := wsU yX3_exchange cX3_exchange 4 (some .int)) B.pre w (List.mem_cons_of_mem _ hw), hK, hN⟩
  have hr := B.returns
  have hlocks := B.notSynchronized
  have S : s_St G σ s.heap s.heap [] := ⟨hP, va_S.rf, hrok⟩
  have hcs : 0 ≤ (rm_X3_exchange).cells ∧ 0 ≤ (rm_X3_exchange).slots := ⟨Nat.le_refl 0, Nat.le_refl 0⟩
  have hR : ∀ (r : Int32) (σ1 : Sg) (H : Heap) (locs : List Loc) (pc : Nat) (ls : Array Slot), decode cX3_exchange pc = .ok (.ireturn, 1) → post r σ1 → s_St G σ1 s.heap H locs → W p l e rm_X3_exchange s m ([.ref (G.2.2 + k0), .int x1, .int x2] : List Value).toArray below meth c H locs 0 0 (MQ below (va_Qi post (s_B G) (s_A G.2.2)) ([.ref (G.2.2 + k0), .int x1, .int x2] : List Value).toArray s 0 0 (s_A G.2.2)) (F0 m pc ls [.int r]) := fun _ _ _ _ _ _ hd hp S => ret_i C hr hlocks hd hp S
  have hl := lv_entry ([.ref (G.2.2 + k0), .int x1, .int x2]) (n := 4) (Nat.le_of_ble_eq_true rfl)
  rw [lg_entry_eq]
  generalize (lg_sl ([.ref (G.2.2 + k0), .int x1, .int x2]) ++ List.replicate (4 - (lg_sl ([.ref (G.2.2 + k0), .int x1, .int x2])).length) Slot.unset).toArray = ls at hl ⊢
  have hl : lv_has ls 4 [(0, .ref (G.2.2 + k0)), (1, .int x1), (2, .int x2)] := hl
  unfold wpX3_exchange at h
  refine lv_aload_n C.1 C.2.1 dX3_exchange_0 rfl (lv_at hl 0 rfl) ?_
  refine lv_iload_n C.1 C.2.1 dX3_exchange_1 rfl (lv_at hl 1 rfl) ?_
  refine k_i (r_V (As := [.int x1]) (rest := []) C hml (c_X3_property l G k0 x1 σ _ hk0 h) kM_X3_property im_X3_property se_X3_property ml_X3_48 ⟨rfl, rfl⟩ ⟨Nat.le_of_ble_eq_true rfl, Nat.le_of_ble_eq_true rfl⟩ hcs S.v hk0 (by decide) (T := TX3) (N := 6) rfl rfl hl.1 rfl (Nat.le_of_ble_eq_true rfl) dX3_exchange_2) S (fun r2 σ1 H locs h S => ?_)
  refine lv_istore_n (lv' := [(3, .int r2), (0, .ref (G.2.2 + k0)), (1, .int x1), (2, .int x2)]) C.1 C.2.1 dX3_exchange_5 rfl hl (by decide) rfl (fun ls hl => ?_)
  refine lv_iload_n C.1 C.2.1 dX3_exchange_6 rfl (lv_at hl 2 rfl) ?_
  rcases (sw_0_2 x1) with c3 | c3 | c3 | c3
  · replace h := h.1 c3
    refine lv_tableOut (tgt := 56) C.1 C.2.1 dX3_exchange_7 c3 (by decide) ?_
    refine lv_aload_n C.1 C.2.1 dX3_exchange_56 rfl (lv_at hl 1 rfl) ?_
    refine lv_iload_n C.1 C.2.1 dX3_exchange_57 rfl (lv_at hl 3 rfl) ?_
    refine p_X3_4 C fl_X3_24 hk0 S dX3_exchange_58 (fun σ4 H locs e5 S => ?_)
    replace h := h σ4 e5
    refine lv_iload_n C.1 C.2.1 dX3_exchange_61 rfl (lv_at hl 0 rfl) ?_
    exact hR _ _ _ _ _ _ dX3_exchange_62 h S
  · replace h := h.2.1 c3
    refine lv_tableIn (tgt := 32) (off := 25) C.1 C.2.1 dX3_exchange_7 (by rw [c3]; decide) (by rw [c3]; decide) (by rw [c3]; decide) (by decide) ?_
    refine lv_aload_n C.1 C.2.1 dX3_exchange_32 rfl (lv_at hl 1 rfl) ?_
    refine lv_iload_n C.1 C.2.1 dX3_exchange_33 rfl (lv_at hl 3 rfl) ?_
    refine p_X3_1 C fl_X3_15 hk0 S dX3_exchange_34 (fun σ6 H locs e7 S => ?_)
    replace h := h σ6 e7
    refine lv_goto (tgt := 61) C.1 C.2.1 dX3_exchange_37 (by decide) ?_
    refine lv_iload_n C.1 C.2.1 dX3_exchange_61 rfl (lv_at hl 0 rfl) ?_
    exact hR _ _ _ _ _ _ dX3_exchange_62 h S
  · replace h := h.2.2.1 c3
    refine lv_tableIn (tgt := 40) (off := 33) C.1 C.2.1 dX3_exchange_7 (by rw [c3]; decide) (by rw [c3]; decide) (by rw [c3]; decide) (by decide) ?_
    refine lv_aload_n C.1 C.2.1 dX3_exchange_40 rfl (lv_at hl 1 rfl) ?_
    refine lv_iload_n C.1 C.2.1 dX3_exchange_41 rfl (lv_at hl 3 rfl) ?_
    refine p_X3_2 C fl_X3_18 hk0 S dX3_exchange_42 (fun σ8 H locs e9 S => ?_)
    replace h := h σ8 e9
    refine lv_goto (tgt := 61) C.1 C.2.1 dX3_exchange_45 (by decide) ?_
    refine lv_iload_n C.1 C.2.1 dX3_exchange_61 rfl (lv_at hl 0 rfl) ?_
    exact hR _ _ _ _ _ _ dX3_exchange_62 h S
  · replace h := h.2.2.2 c3
    refine lv_tableIn (tgt := 48) (off := 41) C.1 C.2.1 dX3_exchange_7 (by rw [c3]; decide) (by rw [c3]; decide) (by rw [c3]; decide) (by decide) ?_
    refine lv_aload_n C.1 C.2.1 dX3_exchange_48 rfl (lv_at hl 1 rfl) ?_
    refine lv_iload_n C.1 C.2.1 dX3_exchange_49 rfl (lv_at hl 3 rfl) ?_
    refine p_X3_3 C fl_X3_21 hk0 S dX3_exchange_50 (fun σ10 H locs e11 S => ?_)
    replace h := h σ10 e11
    refine lv_goto (tgt := 61) C.1 C.2.1 dX3_exchange_53 (by decide) ?_
    refine lv_iload_n C.1 C.2.1 dX3_exchange_61 rfl (lv_at hl 0 rfl) ?_
    exact hR _ _ _ _ _ _ dX3_exchange_62 h S
end M5
