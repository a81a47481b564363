section M1
variable {p : Program} {l : Launch} {e : Env} {R : Room} {s : State} {m : MethodId} {args : Array Value} {below : List Frame} {meth : Method} {c : Code} {H0 : Heap} {cells slots : Nat} {Q : State → Prop} {G : s_G}
/-! X1_isEnough -/
abbrev rm_X1_isEnough : Room := { frames := 1, cells := 0, slots := 0, locals := 21 }
def BX1_isEnough_2 (k0 : Nat) (x1 : Int32) (post : Int32 → Sg → Prop) : Nat → Int32 → Sg → Prop
  | 0, _, _ => False
  | n + 1, x2, σ => ((((σ.1 k0 2) ≤ x2) → post (1 : Int32) σ) ∧ ((¬ (σ.1 k0 2) ≤ x2) → wpX6_timesIn x1 x2 σ (fun r3 σ2 => wpX1_at k0 x2 σ2 (fun q5 σ4 => s_kd q5 = 3 → ((((σ4.1 q5 2) ≤ r3) → BX1_isEnough_2 k0 x1 post n ((x2 + 1)) σ4) ∧ ((¬ (σ4.1 q5 2) ≤ r3) → post (0 : Int32) σ4))))))
def wpX1_isEnough (k0 : Nat) (x1 : Int32) (σ : Sg) (post : Int32 → Sg → Prop) : Prop := ∃ nf, BX1_isEnough_2 k0 x1 post nf ((0 : Int32)) σ
set_option maxHeartbeats 4000000 in
set_option maxRecDepth 100000 in
theorem TX1_isEnough_2 (C : s_C G p s args m c RX1 cX1_isEnough) (hml : c.maxLocals = 3) (hcs : cells ≤ (rm_X1_isEnough).cells ∧ slots ≤ (rm_X1_isEnough).slots) {k0 : Nat} {x1 : Int32} (hk0 : s_kd k0 = 1) {post : Int32 → Sg → Prop} (hR : ∀ (r : Int32) (σ1 : Sg) (H : Heap) (locs : List Loc) (pc : Nat) (ls : Array Slot), decode cX1_isEnough pc = .ok (.ireturn, 1) → narrow .boolean (.int r) = .int r → post r σ1 → s_St G σ1 H0 H locs → W p l e rm_X1_isEnough s m args below meth c H locs cells slots Q (F0 m pc ls [.int r])) : ∀ (n : Nat) (x2 : Int32), ∀ {σ : Sg} {H : Heap} {locs : List Loc} {ls : Array Slot}, s_St G σ H0 H locs → lv_has ls 3 [(0, .ref (G.2.2 + k0)), (1, .int x1), (2, .int x2)] → BX1_isEnough_2 k0 x1 post n x2 σ → W p l e rm_X1_isEnough s m args below meth c H locs cells slots Q (F0 m 2 ls []) := by
  intro n
  induction n with
  | zero =>
    intro x2  σ H locs ls S hl h
    exact absurd h (fun h => h)
  | succ n ih0 =>
    have ih : ∀ (x2 : Int32), ∀ (σ : Sg) (H : Heap) (locs : List Loc) (ls : Array Slot), s_St G σ H0 H locs → lv_has ls 3 [(0, .ref (G.2.2 + k0)), (1, .int x1), (2, .int x2)] → BX1_isEnough_2 k0 x1 post n x2 σ → W p l e rm_X1_isEnough s m args below meth c H locs cells slots Q (F0 m 2 ls []) := fun x2  _ _ _ _ => ih0 x2 
    intro x2  σ H locs ls S hl h
    refine lv_iload_n C.1 C.2.1 dX1_isEnough_2 rfl (lv_at hl 2 rfl) ?_
    refine lv_aload_n C.1 C.2.1 dX1_isEnough_3 rfl (lv_at hl 0 rfl) ?_
    refine g_X1_2 C fl_X1_22 hk0 S dX1_isEnough_4 ?_
    refine lv_icmp_ge (tgt := 34) C.1 C.2.1 dX1_isEnough_7 (by decide) (fun c1 => ?_) (fun c1 => ?_)
    · replace h := h.1 c1
      refine lv_iconst (v := (1 : Int32)) C.1 C.2.1 dX1_isEnough_34 (by decide) ?_
      exact hR _ _ _ _ _ _ dX1_isEnough_35 rfl h S
    · replace h := h.2 c1
      refine lv_iload_n C.1 C.2.1 dX1_isEnough_10 rfl (lv_at hl 1 rfl) ?_
      refine lv_iload_n C.1 C.2.1 dX1_isEnough_11 rfl (lv_at hl 2 rfl) ?_
      refine k_i (r_SN (As := [.int x1, .int x2]) (rest := []) C hml (c_X6_timesIn l G x1 x2 σ _ h) kM_X6_timesIn st_X6_timesIn nm_X1_84 ⟨rfl, rfl⟩ ⟨Nat.le_of_ble_eq_true rfl, Nat.le_of_ble_eq_true rfl⟩ hcs S.v rfl hl.1 rfl (Nat.le_of_ble_eq_true rfl) dX1_isEnough_12) S (fun r3 σ2 H locs h S => ?_)
      refine lv_aload_n C.1 C.2.1 dX1_isEnough_15 rfl (lv_at hl 0 rfl) ?_
      refine lv_iload_n C.1 C.2.1 dX1_isEnough_16 rfl (lv_at hl 2 rfl) ?_
      refine k_r (kd := 3) (r_V (As := [.int x2]) (rest := [.int r3]) C hml (c_X1_at l G k0 x2 σ2 _ hk0 h) kM_X1_at im_X1_at se_X1_at ml_X1_29 ⟨rfl, rfl⟩ ⟨Nat.le_of_ble_eq_true rfl, Nat.le_of_ble_eq_true rfl⟩ hcs S.v hk0 (by decide) (T := TX1) (N := 4) rfl rfl hl.1 rfl (Nat.le_of_ble_eq_true rfl) dX1_isEnough_17) S (fun q5 σ4 H locs hq5 h S => ?_)
      replace h := h hq5
      refine gn_X3_2 C nf_X1_43 hq5 S dX1_isEnough_20 ?_
      refine lv_icmp_ge (tgt := 28) C.1 C.2.1 dX1_isEnough_23 (by decide) (fun c6 => ?_) (fun c6 => ?_)
      · replace h := h.1 c6
        refine lv_iinc (v := (x2 + 1)) (lv' := [(2, .int (x2 + 1)), (0, .ref (G.2.2 + k0)), (1, .int x1)]) C.1 C.2.1 dX1_isEnough_28 hl (k := 2) rfl rfl (by decide) rfl (fun ls hl => ?_)
        refine lv_goto (tgt := 2) C.1 C.2.1 dX1_isEnough_31 (by decide) ?_
        exact ih ((x2 + 1)) _ _ _ _ S (lv_sub hl [1, 2, 0] rfl) h
      · replace h := h.2 c6
        refine lv_iconst (v := (0 : Int32)) C.1 C.2.1 dX1_isEnough_26 (by decide) ?_
        exact hR _ _ _ _ _ _ dX1_isEnough_27 rfl h S
theorem kM_X1_isEnough : s_M yX1_isEnough cX1_isEnough 3 (some .boolean) 1 := ⟨co_X1_isEnough, in_X1, by decide, by decide, by decide +kernel⟩
set_option maxHeartbeats 4000000 in
set_option maxRecDepth 100000 in
theorem c_X1_isEnough (l : Launch) (G : s_G) (k0 : Nat) (x1 : Int32) (σ : Sg) (post : Int32 → Sg → Prop) (hk0 : s_kd k0 = 1) (h : wpX1_isEnough k0 x1 σ post) : Met l yX1_isEnough (wsU yX1_isEnough cX1_isEnough 3 (some .boolean)) rm_X1_isEnough (va_Pc [.ref (G.2.2 + k0), .int x1] (s_Pre G σ)) (va_Qi post (s_B G) (s_A G.2.2)) 0 0 (s_A G.2.2) := by
  refine Met.ofW (cc := cX1_isEnough) (maxL := 3) (ret := (some .boolean)) (by decide) rfl ?_
  intro p e s m args below meth c s₁ B hml hv
  obtain ⟨rfl, hP, hrok, hK, hN⟩ := hv
  have C : s_C G p s (([.ref (G.2.2 + k0), .int x1] : List Value).toArray) m c RX1 cX1_isEnough := ⟨B.exec, B.bytes, findClass_of_methodNamed B.named, fun w hw => atoms_spec (ws := wsU yX1_isEnough cX1_isEnough 3 (some .boolean)) B.pre w (List.mem_cons_of_mem _ hw), hK, hN⟩
  have hr := B.returns
  have hlocks := B.notSynchronized
  have S : s_St G σ s.heap s.heap [] := ⟨hP, va_S.rf, hrok⟩
  have hcs : 0 ≤ (rm_X1_isEnough).cells ∧ 0 ≤ (rm_X1_isEnough).slots := ⟨Nat.le_refl 0, Nat.le_refl 0⟩
  have hR : ∀ (r : Int32) (σ1 : Sg) (H : Heap) (locs : List Loc) (pc : Nat) (ls : Array Slot), decode cX1_isEnough pc = .ok (.ireturn, 1) → narrow .boolean (.int r) = .int r → post r σ1 → s_St G σ1 s.heap H locs → W p l e rm_X1_isEnough s m ([.ref (G.2.2 + k0), .int x1] : List Value).toArray below meth c H locs 0 0 (MQ below (va_Qi post (s_B G) (s_A G.2.2)) ([.ref (G.2.2 + k0), .int x1] : List Value).toArray s 0 0 (s_A G.2.2)) (F0 m pc ls [.int r]) := fun _ _ _ _ _ _ hd hn hp S => ret_z C hr hlocks hd hn hp S
  have hl := lv_entry ([.ref (G.2.2 + k0), .int x1]) (n := 3) (Nat.le_of_ble_eq_true rfl)
  rw [lg_entry_eq]
  generalize (lg_sl ([.ref (G.2.2 + k0), .int x1]) ++ List.replicate (3 - (lg_sl ([.ref (G.2.2 + k0), .int x1])).length) Slot.unset).toArray = ls at hl ⊢
  have hl : lv_has ls 3 [(0, .ref (G.2.2 + k0)), (1, .int x1)] := hl
  unfold wpX1_isEnough at h
  refine lv_iconst (v := (0 : Int32)) C.1 C.2.1 dX1_isEnough_0 (by decide) ?_
  refine lv_istore_n (lv' := [(2, .int (0 : Int32)), (0, .ref (G.2.2 + k0)), (1, .int x1)]) C.1 C.2.1 dX1_isEnough_1 rfl hl (by decide) rfl (fun ls hl => ?_)
  obtain ⟨nf, h⟩ := h
  exact TX1_isEnough_2 C hml hcs hk0 hR nf ((0 : Int32)) S (lv_sub hl [1, 2, 0] rfl) h
/-! X5_stepsFrom -/
abbrev rm_X5_stepsFrom : Room := { frames := 0, cells := 0, slots := 0, locals := 0 }
def wpX5_stepsFrom (x1 : Int32) (σ : Sg) (post : Int32 → Sg → Prop) : Prop := (((x1 < 0) → post ((0 : Int32)) σ) ∧ ((¬ x1 < 0) → ((((4096 : Int32) ≤ x1) → post ((0 : Int32)) σ) ∧ ((¬ (4096 : Int32) ≤ x1) → (vp_in x1 4096 ∧ post ((σ.1 92 (x1).toNatClampNeg)) σ)))))
theorem kM_X5_stepsFrom : s_M yX5_stepsFrom cX5_stepsFrom 2 (some .int) 1 := ⟨co_X5_stepsFrom, in_X5, by decide, by decide, by decide +kernel⟩
set_option maxHeartbeats 4000000 in
set_option maxRecDepth 100000 in
theorem c_X5_stepsFrom (l : Launch) (G : s_G) (x1 : Int32) (σ : Sg) (post : Int32 → Sg → Prop) (h : wpX5_stepsFrom x1 σ post) : Met l yX5_stepsFrom (wsU yX5_stepsFrom cX5_stepsFrom 2 (some .int)) rm_X5_stepsFrom (va_Pc [.ref (G.2.2 + 90), .int x1] (s_Pre G σ)) (va_Qi post (s_B G) (s_A G.2.2)) 0 0 (s_A G.2.2) := by
  refine Met.ofW (cc := cX5_stepsFrom) (maxL := 2) (ret := (some .int)) (by decide) rfl ?_
  intro p e s m args below meth c s₁ B hml hv
  obtain ⟨rfl, hP, hrok, hK, hN⟩ := hv
  have C : s_C G p s (([.ref (G.2.2 + 90), .int x1] : List Value).toArray) m c RX5 cX5_stepsFrom := ⟨B.exec, B.bytes, findClass_of_methodNamed B.named, fun w hw => atoms_spec (ws := wsU yX5_stepsFrom cX5_stepsFrom 2 (some .int)) B.pre w (List.mem_cons_of_mem _ hw), hK, hN⟩
  have hr := B.returns
  have hlocks := B.notSynchronized
  have S : s_St G σ s.heap s.heap [] := ⟨hP, va_S.rf, hrok⟩
  have hcs : 0 ≤ (rm_X5_stepsFrom).cells ∧ 0 ≤ (rm_X5_stepsFrom).slots := ⟨Nat.le_refl 0, Nat.le_refl 0⟩
  have hR : ∀ (r : Int32) (σ1 : Sg) (H : Heap) (locs : List Loc) (pc : Nat) (ls : Array Slot), decode cX5_stepsFrom pc = .ok (.ireturn, 1) → post r σ1 → s_St G σ1 s.heap H locs → W p l e rm_X5_stepsFrom s m ([.ref (G.2.2 + 90), .int x1] : List Value).toArray below meth c H locs 0 0 (MQ below (va_Qi post (s_B G) (s_A G.2.2)) ([.ref (G.2.2 + 90), .int x1] : List Value).toArray s 0 0 (s_A G.2.2)) (F0 m pc ls [.int r]) := fun _ _ _ _ _ _ hd hp S => ret_i C hr hlocks hd hp S
  have hl := lv_entry ([.ref (G.2.2 + 90), .int x1]) (n := 2) (Nat.le_of_ble_eq_true rfl)
  rw [lg_entry_eq]
  generalize (lg_sl ([.ref (G.2.2 + 90), .int x1]) ++ List.replicate (2 - (lg_sl ([.ref (G.2.2 + 90), .int x1])).length) Slot.unset).toArray = ls at hl ⊢
  have hl : lv_has ls 2 [(0, .ref (G.2.2 + 90)), (1, .int x1)] := hl
  unfold wpX5_stepsFrom at h
  refine lv_iload_n C.1 C.2.1 dX5_stepsFrom_0 rfl (lv_at hl 1 rfl) ?_
  refine lv_if_lt (tgt := 22) C.1 C.2.1 dX5_stepsFrom_1 (by decide) (fun c1 => ?_) (fun c1 => ?_)
  · replace h := h.1 c1
    refine lv_iconst (v := (0 : Int32)) C.1 C.2.1 dX5_stepsFrom_22 (by decide) ?_
    exact hR _ _ _ _ _ _ dX5_stepsFrom_23 h S
  · replace h := h.2 c1
    refine lv_iload_n C.1 C.2.1 dX5_stepsFrom_4 rfl (lv_at hl 1 rfl) ?_
    refine lv_aload_n C.1 C.2.1 dX5_stepsFrom_5 rfl (lv_at hl 0 rfl) ?_
    refine g_X5_1 C fl_X5_15 kd_90 S fn_90_1 dX5_stepsFrom_6 ?_
    refine a_len8 C kd_92 S (v := (4096 : Int32)) (by rw [ln_92]; rfl) dX5_stepsFrom_9 ?_
    refine lv_icmp_ge (tgt := 22) C.1 C.2.1 dX5_stepsFrom_10 (by decide) (fun c2 => ?_) (fun c2 => ?_)
    · replace h := h.1 c2
      refine lv_iconst (v := (0 : Int32)) C.1 C.2.1 dX5_stepsFrom_22 (by decide) ?_
      exact hR _ _ _ _ _ _ dX5_stepsFrom_23 h S
    · replace h := h.2 c2
      refine lv_aload_n C.1 C.2.1 dX5_stepsFrom_13 rfl (lv_at hl 0 rfl) ?_
      refine g_X5_1 C fl_X5_15 kd_90 S fn_90_1 dX5_stepsFrom_14 ?_
      refine lv_iload_n C.1 C.2.1 dX5_stepsFrom_17 rfl (lv_at hl 1 rfl) ?_
      refine a_ild C kd_92 S ln_92 h.1 dX5_stepsFrom_18 ?_
      replace h := h.2
      refine lv_goto (tgt := 23) C.1 C.2.1 dX5_stepsFrom_19 (by decide) ?_
      exact hR _ _ _ _ _ _ dX5_stepsFrom_23 h S
/-! X6_withOneMore -/
abbrev rm_X6_withOneMore : Room := { frames := 0, cells := 0, slots := 0, locals := 0 }
def wpX6_withOneMore (x0 : Int32) (x1 : Int32) (σ : Sg) (post : Int32 → Sg → Prop) : Prop := post ((x0 + ((1 : Int32) <<< (((2 : Int32) * x1) &&& 31)))) σ
theorem kM_X6_withOneMore : s_M yX6_withOneMore cX6_withOneMore 2 (some .int) 2 := ⟨co_X6_withOneMore, in_X6, by decide, by decide, by decide +kernel⟩
set_option maxHeartbeats 4000000 in
set_option maxRecDepth 100000 in
theorem c_X6_withOneMore (l : Launch) (G : s_G) (x0 : Int32) (x1 : Int32) (σ : Sg) (post : Int32 → Sg → Prop) (h : wpX6_withOneMore x0 x1 σ post) : Met l yX6_withOneMore (wsU yX6_withOneMore cX6_withOneMore 2 (some .int)) rm_X6_withOneMore (va_Pc [.int x0, .int x1] (s_Pre G σ)) (va_Qi post (s_B G) (s_A G.2.2)) 0 0 (s_A G.2.2) := by
  refine Met.ofW (cc := cX6_withOneMore) (maxL := 2) (ret := (some .int)) (by decide) rfl ?_
  intro p e s m args below meth c s₁ B hml hv
  obtain ⟨rfl, hP, hrok, hK, hN⟩ := hv
  have C : s_C G p s (([.int x0, .int x1] : List Value).toArray) m c RX6 cX6_withOneMore := ⟨B.exec, B.bytes, findClass_of_methodNamed B.named, fun w hw => atoms_spec (ws := wsU yX6_withOneMore cX6_withOneMore 2 (some .int)) B.pre w (List.mem_cons_of_mem _ hw), hK, hN⟩
  have hr := B.returns
  have hlocks := B.notSynchronized
  have S : s_St G σ s.heap s.heap [] := ⟨hP, va_S.rf, hrok⟩
  have hcs : 0 ≤ (rm_X6_withOneMore).cells ∧ 0 ≤ (rm_X6_withOneMore).slots := ⟨Nat.le_refl 0, Nat.le_refl 0⟩
  have hR : ∀ (r : Int32) (σ1 : Sg) (H : Heap) (locs : List Loc) (pc : Nat) (ls : Array Slot), decode cX6_withOneMore pc = .ok (.ireturn, 1) → post r σ1 → s_St G σ1 s.heap H locs → W p l e rm_X6_withOneMore s m ([.int x0, .int x1] : List Value).toArray below meth c H locs 0 0 (MQ below (va_Qi post (s_B G) (s_A G.2.2)) ([.int x0, .int x1] : List Value).toArray s 0 0 (s_A G.2.2)) (F0 m pc ls [.int r]) := fun _ _ _ _ _ _ hd hp S => ret_i C hr hlocks hd hp S
  have hl := lv_entry ([.int x0, .int x1]) (n := 2) (Nat.le_of_ble_eq_true rfl)
  rw [lg_entry_eq]
  generalize (lg_sl ([.int x0, .int x1]) ++ List.replicate (2 - (lg_sl ([.int x0, .int x1])).length) Slot.unset).toArray = ls at hl ⊢
  have hl : lv_has ls 2 [(0, .int x0), (1, .int x1)] := hl
  unfold wpX6_withOneMore at h
  refine lv_iload_n C.1 C.2.1 dX6_withOneMore_0 rfl (lv_at hl 0 rfl) ?_
  refine lv_iconst (v := (1 : Int32)) C.1 C.2.1 dX6_withOneMore_1 (by decide) ?_
  refine lv_iconst (v := (2 : Int32)) C.1 C.2.1 dX6_withOneMore_2 (by decide) ?_
  refine lv_iload_n C.1 C.2.1 dX6_withOneMore_3 rfl (lv_at hl 1 rfl) ?_
  refine lv_imul C.1 C.2.1 dX6_withOneMore_4 ?_
  refine lv_ishl C.1 C.2.1 dX6_withOneMore_5 ?_
  refine lv_iadd C.1 C.2.1 dX6_withOneMore_6 ?_
  exact hR _ _ _ _ _ _ dX6_withOneMore_7 h S
/-! X5_countFrom -/
abbrev rm_X5_countFrom : Room := { frames := 2, cells := 0, slots := 0, locals := 43 }
def BX5_countFrom_30 (x1 : Int32) (post : Int64 → Sg → Prop) : Nat → Int64 → Int32 → Sg → Prop
  | 0, _, _, _ => False
  | n + 1, x4, x6, σ => ((((σ.1 5 2) ≤ x6) → post x4 σ) ∧ ((¬ (σ.1 5 2) ≤ x6) → wpX5_stepsFrom x1 σ (fun r3 σ2 => wpX6_bitOf r3 x6 σ2 (fun r5 σ4 => (((¬ r5 = (1 : Int32)) → BX5_countFrom_30 x1 post n x4 ((x6 + 1)) σ4) ∧ ((r5 = (1 : Int32)) → wpX6_withOneMore x1 x6 σ4 (fun r8 σ7 => wpX5_waysFrom r8 σ7 (fun r10 σ9 => BX5_countFrom_30 x1 post n ((x4 + r10)) ((x6 + 1)) σ9))))))))
def wpX5_countFrom (x1 : Int32) (σ : Sg) (post : Int64 → Sg → Prop) : Prop := wpX5_endOf x1 σ (fun r12 σ11 => (((¬ r12 = (σ11.1 1 1)) → ∃ nf, BX5_countFrom_30 x1 post nf ((0 : Int64)) ((0 : Int32)) σ11) ∧ ((r12 = (σ11.1 1 1)) → wpX1_isEnough 5 x1 σ11 (fun r15 σ14 => (((r15 = 0) → ∃ nf, BX5_countFrom_30 x1 post nf ((0 : Int64)) ((0 : Int32)) σ14) ∧ ((¬ r15 = 0) → ∃ nf, BX5_countFrom_30 x1 post nf ((1 : Int64)) ((0 : Int32)) σ14))))))
set_option maxHeartbeats 4000000 in
set_option maxRecDepth 100000 in
theorem TX5_countFrom_30 (C : s_C G p s args m c RX5 cX5_countFrom) (hml : c.maxLocals = 7) (hcs : cells ≤ (rm_X5_countFrom).cells ∧ slots ≤ (rm_X5_countFrom).slots) {x1 : Int32} {post : Int64 → Sg → Prop} (hR : ∀ (r : Int64) (σ1 : Sg) (H : Heap) (locs : List Loc) (pc : Nat) (ls : Array Slot), decode cX5_countFrom pc = .ok (.lreturn, 1) → post r σ1 → s_St G σ1 H0 H locs → W p l e rm_X5_countFrom s m args below meth c H locs cells slots Q (F0 m pc ls [.long r])) : ∀ (n : Nat) (x4 : Int64) (x6 : Int32), ∀ {σ : Sg} {H : Heap} {locs : List Loc} {ls : Array Slot}, s_St G σ H0 H locs → lv_has ls 7 [(0, .ref (G.2.2 + 90)), (1, .int x1), (2, .ref (G.2.2 + 5)), (4, .long x4), (6, .int x6)] → BX5_countFrom_30 x1 post n x4 x6 σ → W p l e rm_X5_countFrom s m args below meth c H locs cells slots Q (F0 m 30 ls []) := by
  intro n
  induction n with
  | zero =>
    intro x4 x6  σ H locs ls S hl h
    exact absurd h (fun h => h)
  | succ n ih0 =>
    have ih : ∀ (x4 : Int64) (x6 : Int32), ∀ (σ : Sg) (H : Heap) (locs : List Loc) (ls : Array Slot), s_St G σ H0 H locs → lv_has ls 7 [(0, .ref (G.2.2 + 90)), (1, .int x1), (2, .ref (G.2.2 + 5)), (4, .long x4), (6, .int x6)] → BX5_countFrom_30 x1 post n x4 x6 σ → W p l e rm_X5_countFrom s m args below meth c H locs cells slots Q (F0 m 30 ls []) := fun x4 x6  _ _ _ _ => ih0 x4 x6 
    intro x4 x6  σ H locs ls S hl h
    refine lv_iload C.1 C.2.1 dX5_countFrom_30 (lv_at hl 4 rfl) ?_
    refine lv_aload_n C.1 C.2.1 dX5_countFrom_32 rfl (lv_at hl 2 rfl) ?_
    refine gn_X1_2 C nf_X5_73 kd_5 S dX5_countFrom_33 ?_
    refine lv_icmp_ge (tgt := 74) C.1 C.2.1 dX5_countFrom_36 (by decide) (fun c1 => ?_) (fun c1 => ?_)
    · replace h := h.1 c1
      refine lv_lload C.1 C.2.1 dX5_countFrom_74 (lv_at hl 3 rfl) ?_
      exact hR _ _ _ _ _ _ dX5_countFrom_76 h S
    · replace h := h.2 c1
      refine lv_aload_n C.1 C.2.1 dX5_countFrom_39 rfl (lv_at hl 0 rfl) ?_
      refine lv_iload_n C.1 C.2.1 dX5_countFrom_40 rfl (lv_at hl 1 rfl) ?_
      refine k_i (r_V (As := [.int x1]) (rest := []) C hml (c_X5_stepsFrom l G x1 σ _ h) kM_X5_stepsFrom im_X5_stepsFrom se_X5_stepsFrom ml_X5_111 ⟨rfl, rfl⟩ ⟨Nat.le_of_ble_eq_true rfl, Nat.le_of_ble_eq_true rfl⟩ hcs S.v kd_90 (by decide) (T := TX5) (N := 8) rfl rfl hl.1 rfl (Nat.le_of_ble_eq_true rfl) dX5_countFrom_41) S (fun r3 σ2 H locs h S => ?_)
      refine lv_iload C.1 C.2.1 dX5_countFrom_44 (lv_at hl 4 rfl) ?_
      refine k_i (r_SN (As := [.int r3, .int x6]) (rest := []) C hml (c_X6_bitOf l G r3 x6 σ2 _ h) kM_X6_bitOf st_X6_bitOf nm_X5_74 ⟨rfl, rfl⟩ ⟨Nat.le_of_ble_eq_true rfl, Nat.le_of_ble_eq_true rfl⟩ hcs S.v rfl hl.1 rfl (Nat.le_of_ble_eq_true rfl) dX5_countFrom_46) S (fun r5 σ4 H locs h S => ?_)
      refine lv_iconst (v := (1 : Int32)) C.1 C.2.1 dX5_countFrom_49 (by decide) ?_
      refine lv_icmp_ne (tgt := 68) C.1 C.2.1 dX5_countFrom_50 (by decide) (fun c6 => ?_) (fun c6 => ?_)
      · replace h := h.1 c6
        refine lv_iinc (v := (x6 + 1)) (lv' := [(6, .int (x6 + 1)), (0, .ref (G.2.2 + 90)), (1, .int x1), (2, .ref (G.2.2 + 5)), (4, .long x4)]) C.1 C.2.1 dX5_countFrom_68 hl (k := 4) rfl rfl (by decide) rfl (fun ls hl => ?_)
        refine lv_goto (tgt := 30) C.1 C.2.1 dX5_countFrom_71 (by decide) ?_
        exact ih x4 ((x6 + 1)) _ _ _ _ S (lv_sub hl [1, 2, 3, 4, 0] rfl) h
      · replace h := h.2 c6
        refine lv_lload C.1 C.2.1 dX5_countFrom_53 (lv_at hl 3 rfl) ?_
        refine lv_aload_n C.1 C.2.1 dX5_countFrom_55 rfl (lv_at hl 0 rfl) ?_
        refine lv_iload_n C.1 C.2.1 dX5_countFrom_56 rfl (lv_at hl 1 rfl) ?_
        refine lv_iload C.1 C.2.1 dX5_countFrom_57 (lv_at hl 4 rfl) ?_
        refine k_i (r_SN (As := [.int x1, .int x6]) (rest := [.ref (G.2.2 + 90), .long x4]) C hml (c_X6_withOneMore l G x1 x6 σ4 _ h) kM_X6_withOneMore st_X6_withOneMore nm_X5_87 ⟨rfl, rfl⟩ ⟨Nat.le_of_ble_eq_true rfl, Nat.le_of_ble_eq_true rfl⟩ hcs S.v rfl hl.1 rfl (Nat.le_of_ble_eq_true rfl) dX5_countFrom_59) S (fun r8 σ7 H locs h S => ?_)
        refine k_l (r_V (As := [.int r8]) (rest := [.long x4]) C hml (c_X5_waysFrom l G r8 σ7 _ h) kM_X5_waysFrom im_X5_waysFrom se_X5_waysFrom ml_X5_45 ⟨rfl, rfl⟩ ⟨Nat.le_of_ble_eq_true rfl, Nat.le_of_ble_eq_true rfl⟩ hcs S.v kd_90 (by decide) (T := TX5) (N := 8) rfl rfl hl.1 rfl (Nat.le_of_ble_eq_true rfl) dX5_countFrom_62) S (fun r10 σ9 H locs h S => ?_)
        refine lv_ladd C.1 C.2.1 dX5_countFrom_65 ?_
        refine lv_lstore (lv' := [(4, .long (x4 + r10)), (0, .ref (G.2.2 + 90)), (1, .int x1), (2, .ref (G.2.2 + 5)), (6, .int x6)]) C.1 C.2.1 dX5_countFrom_66 hl (by decide) rfl (fun ls hl => ?_)
        refine lv_iinc (v := (x6 + 1)) (lv' := [(6, .int (x6 + 1)), (4, .long (x4 + r10)), (0, .ref (G.2.2 + 90)), (1, .int x1), (2, .ref (G.2.2 + 5))]) C.1 C.2.1 dX5_countFrom_68 hl (k := 4) rfl rfl (by decide) rfl (fun ls hl => ?_)
        refine lv_goto (tgt := 30) C.1 C.2.1 dX5_countFrom_71 (by decide) ?_
        exact ih ((x4 + r10)) ((x6 + 1)) _ _ _ _ S (lv_sub hl [2, 3, 4, 1, 0] rfl) h
theorem kM_X5_countFrom : s_M yX5_countFrom cX5_countFrom 7 (some .long) 3 := ⟨co_X5_countFrom, in_X5, by decide, by decide, by decide +kernel⟩
set_option maxHeartbeats 4000000 in
set_option maxRecDepth 100000 in
theorem c_X5_countFrom (l : Launch) (G : s_G) (x1 : Int32) (σ : Sg) (post : Int64 → Sg → Prop) (h : wpX5_countFrom x1 σ post) : Met l yX5_countFrom (wsU yX5_countFrom cX5_countFrom 7 (some .long)) rm_X5_countFrom (va_Pc [.ref (G.2.2 + 90), .int x1, .ref (G.2.2 + 5), .ref (G.2.2 + 1)] (s_Pre G σ)) (va_Ql post (s_B G) (s_A G.2.2)) 0 0 (s_A G.2.2) := by
  refine Met.ofW (cc := cX5_countFrom) (maxL := 7) (ret := (some .long)) (by decide) rfl ?_
  intro p e s m args below meth c s₁ B hml hv
  obtain ⟨rfl, hP, hrok, hK, hN⟩ := hv
  have C : s_C G p s (([.ref (G.2.2 + 90), .int x1, .ref (G.2.2 + 5), .ref (G.2.2 + 1)] : List Value).toArray) m c RX5 cX5_countFrom := ⟨B.exec, B.bytes, findClass_of_methodNamed B.named, fun w hw => atoms_spec (ws := wsU yX5_countFrom cX5_countFrom 7 (some .long)) B.pre w (List.mem_cons_of_mem _ hw), hK, hN⟩
  have hr := B.returns
  have hlocks := B.notSynchronized
  have S : s_St G σ s.heap s.heap [] := ⟨hP, va_S.rf, hrok⟩
  have hcs : 0 ≤ (rm_X5_countFrom).cells ∧ 0 ≤ (rm_X5_countFrom).slots := ⟨Nat.le_refl 0, Nat.le_refl 0⟩
  have hR : ∀ (r : Int64) (σ1 : Sg) (H : Heap) (locs : List Loc) (pc : Nat) (ls : Array Slot), decode cX5_countFrom pc = .ok (.lreturn, 1) → post r σ1 → s_St G σ1 s.heap H locs → W p l e rm_X5_countFrom s m ([.ref (G.2.2 + 90), .int x1, .ref (G.2.2 + 5), .ref (G.2.2 + 1)] : List Value).toArray below meth c H locs 0 0 (MQ below (va_Ql post (s_B G) (s_A G.2.2)) ([.ref (G.2.2 + 90), .int x1, .ref (G.2.2 + 5), .ref (G.2.2 + 1)] : List Value).toArray s 0 0 (s_A G.2.2)) (F0 m pc ls [.long r]) := fun _ _ _ _ _ _ hd hp S => ret_l C hr hlocks hd hp S
  have hl := lv_entry ([.ref (G.2.2 + 90), .int x1, .ref (G.2.2 + 5), .ref (G.2.2 + 1)]) (n := 7) (Nat.le_of_ble_eq_true rfl)
  rw [lg_entry_eq]
  generalize (lg_sl ([.ref (G.2.2 + 90), .int x1, .ref (G.2.2 + 5), .ref (G.2.2 + 1)]) ++ List.replicate (7 - (lg_sl ([.ref (G.2.2 + 90), .int x1, .ref (G.2.2 + 5), .ref (G.2.2 + 1)])).length) Slot.unset).toArray = ls at hl ⊢
  have hl : lv_has ls 7 [(0, .ref (G.2.2 + 90)), (1, .int x1), (2, .ref (G.2.2 + 5)), (3, .ref (G.2.2 + 1))] := hl
  unfold wpX5_countFrom at h
  refine lv_aload_n C.1 C.2.1 dX5_countFrom_0 rfl (lv_at hl 0 rfl) ?_
  refine lv_iload_n C.1 C.2.1 dX5_countFrom_1 rfl (lv_at hl 1 rfl) ?_
  refine k_i (r_V (As := [.int x1]) (rest := []) C hml (c_X5_endOf l G x1 σ _ h) kM_X5_endOf im_X5_endOf se_X5_endOf ml_X5_59 ⟨rfl, rfl⟩ ⟨Nat.le_of_ble_eq_true rfl, Nat.le_of_ble_eq_true rfl⟩ hcs S.v kd_90 (by decide) (T := TX5) (N := 8) rfl rfl hl.1 rfl (Nat.le_of_ble_eq_true rfl) dX5_countFrom_2) S (fun r12 σ11 H locs h S => ?_)
  refine lv_aload_n C.1 C.2.1 dX5_countFrom_5 rfl (lv_at hl 3 rfl) ?_
  refine gn_X0_1 C nf_X5_104 kd_1 S dX5_countFrom_6 ?_
  refine lv_icmp_ne (tgt := 24) C.1 C.2.1 dX5_countFrom_9 (by decide) (fun c13 => ?_) (fun c13 => ?_)
  · replace h := h.1 c13
    refine lv_lconst (v := (0 : Int64)) C.1 C.2.1 dX5_countFrom_24 (by decide) ?_
    refine lv_lstore (lv' := [(4, .long (0 : Int64)), (0, .ref (G.2.2 + 90)), (1, .int x1), (2, .ref (G.2.2 + 5)), (3, .ref (G.2.2 + 1))]) C.1 C.2.1 dX5_countFrom_25 hl (by decide) rfl (fun ls hl => ?_)
    refine lv_iconst (v := (0 : Int32)) C.1 C.2.1 dX5_countFrom_27 (by decide) ?_
    refine lv_istore (lv' := [(6, .int (0 : Int32)), (4, .long (0 : Int64)), (0, .ref (G.2.2 + 90)), (1, .int x1), (2, .ref (G.2.2 + 5)), (3, .ref (G.2.2 + 1))]) C.1 C.2.1 dX5_countFrom_28 hl (by decide) rfl (fun ls hl => ?_)
    obtain ⟨nf, h⟩ := h
    exact TX5_countFrom_30 C hml hcs hR nf ((0 : Int64)) ((0 : Int32)) S (lv_sub hl [2, 3, 4, 1, 0] rfl) h
  · replace h := h.2 c13
    refine lv_aload_n C.1 C.2.1 dX5_countFrom_12 rfl (lv_at hl 2 rfl) ?_
    refine lv_iload_n C.1 C.2.1 dX5_countFrom_13 rfl (lv_at hl 1 rfl) ?_
    refine k_i (r_VN (As := [.int x1]) (rest := []) C hml (c_X1_isEnough l G 5 x1 σ11 _ kd_5 h) kM_X1_isEnough im_X1_isEnough se_X1_isEnough nm_X5_107 ⟨rfl, rfl⟩ ⟨Nat.le_of_ble_eq_true rfl, Nat.le_of_ble_eq_true rfl⟩ hcs S.v kd_5 (by decide) (T := TX1) (N := 4) rfl rfl hl.1 rfl (Nat.le_of_ble_eq_true rfl) dX5_countFrom_14) S (fun r15 σ14 H locs h S => ?_)
    refine lv_if_eq (tgt := 24) C.1 C.2.1 dX5_countFrom_17 (by decide) (fun c16 => ?_) (fun c16 => ?_)
    · replace h := h.1 c16
      refine lv_lconst (v := (0 : Int64)) C.1 C.2.1 dX5_countFrom_24 (by decide) ?_
      refine lv_lstore (lv' := [(4, .long (0 : Int64)), (0, .ref (G.2.2 + 90)), (1, .int x1), (2, .ref (G.2.2 + 5)), (3, .ref (G.2.2 + 1))]) C.1 C.2.1 dX5_countFrom_25 hl (by decide) rfl (fun ls hl => ?_)
      refine lv_iconst (v := (0 : Int32)) C.1 C.2.1 dX5_countFrom_27 (by decide) ?_
      refine lv_istore (lv' := [(6, .int (0 : Int32)), (4, .long (0 : Int64)), (0, .ref (G.2.2 + 90)), (1, .int x1), (2, .ref (G.2.2 + 5)), (3, .ref (G.2.2 + 1))]) C.1 C.2.1 dX5_countFrom_28 hl (by decide) rfl (fun ls hl => ?_)
      obtain ⟨nf, h⟩ := h
      exact TX5_countFrom_30 C hml hcs hR nf ((0 : Int64)) ((0 : Int32)) S (lv_sub hl [2, 3, 4, 1, 0] rfl) h
    · replace h := h.2 c16
      refine lv_lconst (v := (1 : Int64)) C.1 C.2.1 dX5_countFrom_20 (by decide) ?_
      refine lv_goto (tgt := 25) C.1 C.2.1 dX5_countFrom_21 (by decide) ?_
      refine lv_lstore (lv' := [(4, .long (1 : Int64)), (0, .ref (G.2.2 + 90)), (1, .int x1), (2, .ref (G.2.2 + 5)), (3, .ref (G.2.2 + 1))]) C.1 C.2.1 dX5_countFrom_25 hl (by decide) rfl (fun ls hl => ?_)
      refine lv_iconst (v := (0 : Int32)) C.1 C.2.1 dX5_countFrom_27 (by decide) ?_
      refine lv_istore (lv' := [(6, .int (0 : Int32)), (4, .long (1 : Int64)), (0, .ref (G.2.2 + 90)), (1, .int x1), (2, .ref (G.2.2 + 5)), (3, .ref (G.2.2 + 1))]) C.1 C.2.1 dX5_countFrom_28 hl (by decide) rfl (fun ls hl => ?_)
      obtain ⟨nf, h⟩ := h
      exact TX5_countFrom_30 C hml hcs hR nf ((1 : Int64)) ((0 : Int32)) S (lv_sub hl [2, 3, 4, 1, 0] rfl) h
/-! X5_countWays -/
abbrev rm_X5_countWays : Room := { frames := 3, cells := 0, slots := 0, locals := 69 }
def BX5_countWays_15  (post : Sg → Prop) : Nat → Int32 → Sg → Prop
  | 0, _, _ => False
  | n + 1, x3, σ => (((x3 < 0) → post σ) ∧ ((¬ x3 < 0) → wpX5_endOf x3 σ (fun r3 σ2 => (((r3 < 0) → (vp_in x3 4096 ∧ (∀ σ5 : Sg, σ5 = setL σ2 93 (x3).toNatClampNeg ((0 : Int64)) → BX5_countWays_15 post n ((x3 + (-1))) σ5))) ∧ ((¬ r3 < 0) → wpX5_countFrom x3 σ2 (fun r8 σ7 => (vp_in x3 4096 ∧ (∀ σ9 : Sg, σ9 = setL σ7 93 (x3).toNatClampNeg r8 → BX5_countWays_15 post n ((x3 + (-1))) σ9))))))))
def wpX5_countWays  (σ : Sg) (post : Sg → Prop) : Prop := wpX1_tallies 5 σ (fun r12 σ11 => ∃ nf, BX5_countWays_15 post nf (((if (4096 : Int32) < r12 then (4096 : Int32) else r12) - (1 : Int32))) σ11)
set_option maxHeartbeats 4000000 in
set_option maxRecDepth 100000 in
theorem TX5_countWays_15 (C : s_C G p s args m c RX5 cX5_countWays) (hml : c.maxLocals = 4) (hcs : cells ≤ (rm_X5_countWays).cells ∧ slots ≤ (rm_X5_countWays).slots)  {post : Sg → Prop} (hR : ∀ (σ1 : Sg) (H : Heap) (locs : List Loc) (pc : Nat) (ls : Array Slot), decode cX5_countWays pc = .ok (.return_, 1) → post σ1 → s_St G σ1 H0 H locs → W p l e rm_X5_countWays s m args below meth c H locs cells slots Q (F0 m pc ls [])) : ∀ (n : Nat) (x3 : Int32), ∀ {σ : Sg} {H : Heap} {locs : List Loc} {ls : Array Slot}, s_St G σ H0 H locs → lv_has ls 4 [(0, .ref (G.2.2 + 90)), (1, .ref (G.2.2 + 5)), (2, .ref (G.2.2 + 1)), (3, .int x3)] → BX5_countWays_15 post n x3 σ → W p l e rm_X5_countWays s m args below meth c H locs cells slots Q (F0 m 15 ls []) := by
  intro n
  induction n with
  | zero =>
    intro x3  σ H locs ls S hl h
    exact absurd h (fun h => h)
  | succ n ih0 =>
    have ih : ∀ (x3 : Int32), ∀ (σ : Sg) (H : Heap) (locs : List Loc) (ls : Array Slot), s_St G σ H0 H locs → lv_has ls 4 [(0, .ref (G.2.2 + 90)), (1, .ref (G.2.2 + 5)), (2, .ref (G.2.2 + 1)), (3, .int x3)] → BX5_countWays_15 post n x3 σ → W p l e rm_X5_countWays s m args below meth c H locs cells slots Q (F0 m 15 ls []) := fun x3  _ _ _ _ => ih0 x3 
    intro x3  σ H locs ls S hl h
    refine lv_iload_n C.1 C.2.1 dX5_countWays_15 rfl (lv_at hl 3 rfl) ?_
    refine lv_if_lt (tgt := 50) C.1 C.2.1 dX5_countWays_16 (by decide) (fun c1 => ?_) (fun c1 => ?_)
    · replace h := h.1 c1
      exact hR _ _ _ _ _ dX5_countWays_50 h S
    · replace h := h.2 c1
      refine lv_aload_n C.1 C.2.1 dX5_countWays_19 rfl (lv_at hl 0 rfl) ?_
      refine g_X5_2 C fl_X5_18 kd_90 S fn_90_2 dX5_countWays_20 ?_
      refine lv_iload_n C.1 C.2.1 dX5_countWays_23 rfl (lv_at hl 3 rfl) ?_
      refine lv_aload_n C.1 C.2.1 dX5_countWays_24 rfl (lv_at hl 0 rfl) ?_
      refine lv_iload_n C.1 C.2.1 dX5_countWays_25 rfl (lv_at hl 3 rfl) ?_
      refine k_i (r_V (As := [.int x3]) (rest := [.int x3, .ref (G.2.2 + 93)]) C hml (c_X5_endOf l G x3 σ _ h) kM_X5_endOf im_X5_endOf se_X5_endOf ml_X5_59 ⟨rfl, rfl⟩ ⟨Nat.le_of_ble_eq_true rfl, Nat.le_of_ble_eq_true rfl⟩ hcs S.v kd_90 (by decide) (T := TX5) (N := 8) rfl rfl hl.1 rfl (Nat.le_of_ble_eq_true rfl) dX5_countWays_26) S (fun r3 σ2 H locs h S => ?_)
      refine lv_if_lt (tgt := 42) C.1 C.2.1 dX5_countWays_29 (by decide) (fun c4 => ?_) (fun c4 => ?_)
      · replace h := h.1 c4
        refine lv_lconst (v := (0 : Int64)) C.1 C.2.1 dX5_countWays_42 (by decide) ?_
        refine a_lst C kd_93 S ln_93 h.1 dX5_countWays_43 (fun σ5 H locs e6 S => ?_)
        replace h := h.2 σ5 e6
        refine lv_iinc (v := (x3 + (-1))) (lv' := [(3, .int (x3 + (-1))), (0, .ref (G.2.2 + 90)), (1, .ref (G.2.2 + 5)), (2, .ref (G.2.2 + 1))]) C.1 C.2.1 dX5_countWays_44 hl (k := 3) rfl rfl (by decide) rfl (fun ls hl => ?_)
        refine lv_goto (tgt := 15) C.1 C.2.1 dX5_countWays_47 (by decide) ?_
        exact ih ((x3 + (-1))) _ _ _ _ S (lv_sub hl [1, 2, 3, 0] rfl) h
      · replace h := h.2 c4
        refine lv_aload_n C.1 C.2.1 dX5_countWays_32 rfl (lv_at hl 0 rfl) ?_
        refine lv_iload_n C.1 C.2.1 dX5_countWays_33 rfl (lv_at hl 3 rfl) ?_
        refine lv_aload_n C.1 C.2.1 dX5_countWays_34 rfl (lv_at hl 1 rfl) ?_
        refine lv_aload_n C.1 C.2.1 dX5_countWays_35 rfl (lv_at hl 2 rfl) ?_
        refine k_l (r_V (As := [.int x3, .ref (G.2.2 + 5), .ref (G.2.2 + 1)]) (rest := [.int x3, .ref (G.2.2 + 93)]) C hml (c_X5_countFrom l G x3 σ2 _ h) kM_X5_countFrom im_X5_countFrom se_X5_countFrom ml_X5_100 ⟨rfl, rfl⟩ ⟨Nat.le_of_ble_eq_true rfl, Nat.le_of_ble_eq_true rfl⟩ hcs S.v kd_90 (by decide) (T := TX5) (N := 8) rfl rfl hl.1 rfl (Nat.le_of_ble_eq_true rfl) dX5_countWays_36) S (fun r8 σ7 H locs h S => ?_)
        refine lv_goto (tgt := 43) C.1 C.2.1 dX5_countWays_39 (by decide) ?_
        refine a_lst C kd_93 S ln_93 h.1 dX5_countWays_43 (fun σ9 H locs e10 S => ?_)
        replace h := h.2 σ9 e10
        refine lv_iinc (v := (x3 + (-1))) (lv' := [(3, .int (x3 + (-1))), (0, .ref (G.2.2 + 90)), (1, .ref (G.2.2 + 5)), (2, .ref (G.2.2 + 1))]) C.1 C.2.1 dX5_countWays_44 hl (k := 3) rfl rfl (by decide) rfl (fun ls hl => ?_)
        refine lv_goto (tgt := 15) C.1 C.2.1 dX5_countWays_47 (by decide) ?_
        exact ih ((x3 + (-1))) _ _ _ _ S (lv_sub hl [1, 2, 3, 0] rfl) h
theorem kM_X5_countWays : s_M yX5_countWays cX5_countWays 4 none 2 := ⟨co_X5_countWays, in_X5, by decide, by decide, by decide +kernel⟩
set_option maxHeartbeats 4000000 in
set_option maxRecDepth 100000 in
theorem c_X5_countWays (l : Launch) (G : s_G)  (σ : Sg) (post : Sg → Prop) (h : wpX5_countWays σ post) : Met l yX5_countWays (wsU yX5_countWays cX5_countWays 4 none) rm_X5_countWays (va_Pc [.ref (G.2.2 + 90), .ref (G.2.2 + 5), .ref (G.2.2 + 1)] (s_Pre G σ)) (va_Qv post (s_B G) (s_A G.2.2)) 0 0 (s_A G.2.2) := by
  refine Met.ofW (cc := cX5_countWays) (maxL := 4) (ret := none) (by decide) rfl ?_
  intro p e s m args below meth c s₁ B hml hv
  obtain ⟨rfl, hP, hrok, hK, hN⟩ := hv
  have C : s_C G p s (([.ref (G.2.2 + 90), .ref (G.2.2 + 5), .ref (G.2.2 + 1)] : List Value).toArray) m c RX5 cX5_countWays := ⟨B.exec, B.bytes, findClass_of_methodNamed B.named, fun w hw => atoms_spec (ws := wsU yX5_countWays cX5_countWays 4 none) B.pre w (List.mem_cons_of_mem _ hw), hK, hN⟩
  have hr := B.returns
  have hlocks := B.notSynchronized
  have S : s_St G σ s.heap s.heap [] := ⟨hP, va_S.rf, hrok⟩
  have hcs : 0 ≤ (rm_X5_countWays).cells ∧ 0 ≤ (rm_X5_countWays).slots := ⟨Nat.le_refl 0, Nat.le_refl 0⟩
  have hR : ∀ (σ1 : Sg) (H : Heap) (locs : List Loc) (pc : Nat) (ls : Array Slot), decode cX5_countWays pc = .ok (.return_, 1) → post σ1 → s_St G σ1 s.heap H locs → W p l e rm_X5_countWays s m ([.ref (G.2.2 + 90), .ref (G.2.2 + 5), .ref (G.2.2 + 1)] : List Value).toArray below meth c H locs 0 0 (MQ below (va_Qv post (s_B G) (s_A G.2.2)) ([.ref (G.2.2 + 90), .ref (G.2.2 + 5), .ref (G.2.2 + 1)] : List Value).toArray s 0 0 (s_A G.2.2)) (F0 m pc ls []) := fun _ _ _ _ _ hd hp S => ret_v C hr hlocks hd hp S
  have hl := lv_entry ([.ref (G.2.2 + 90), .ref (G.2.2 + 5), .ref (G.2.2 + 1)]) (n := 4) (Nat.le_of_ble_eq_true rfl)
  rw [lg_entry_eq]
  generalize (lg_sl ([.ref (G.2.2 + 90), .ref (G.2.2 + 5), .ref (G.2.2 + 1)]) ++ List.replicate (4 - (lg_sl ([.ref (G.2.2 + 90), .ref (G.2.2 + 5), .ref (G.2.2 + 1)])).length) Slot.unset).toArray = ls at hl ⊢
  have hl : lv_has ls 4 [(0, .ref (G.2.2 + 90)), (1, .ref (G.2.2 + 5)), (2, .ref (G.2.2 + 1))] := hl
  unfold wpX5_countWays at h
  refine lv_aload_n C.1 C.2.1 dX5_countWays_0 rfl (lv_at hl 1 rfl) ?_
  refine k_i (r_VN (As := []) (rest := []) C hml (c_X1_tallies l G 5 σ _ kd_5 h) kM_X1_tallies im_X1_tallies se_X1_tallies nm_X5_53 ⟨rfl, rfl⟩ ⟨Nat.le_of_ble_eq_true rfl, Nat.le_of_ble_eq_true rfl⟩ hcs S.v kd_5 (by decide) (T := TX1) (N := 4) rfl rfl hl.1 rfl (Nat.le_of_ble_eq_true rfl) dX5_countWays_1) S (fun r12 σ11 H locs h S => ?_)
  refine lv_aload_n C.1 C.2.1 dX5_countWays_4 rfl (lv_at hl 0 rfl) ?_
  refine g_X5_2 C fl_X5_18 kd_90 S fn_90_2 dX5_countWays_5 ?_
  refine a_len9 C kd_93 S (v := (4096 : Int32)) (by rw [ln_93]; rfl) dX5_countWays_8 ?_
  refine va_mmin C.1 C.2.1 (hml.trans hl.1.symm) C.2.2.1 (C.2.2.2.1 _ ml_X5_95) (C.2.2.2.1 _ st_min) (C.2.2.2.1 _ in_math) (C.2.2.2.1 _ co_min) (Nat.le_of_ble_eq_true rfl) (Nat.le_of_ble_eq_true rfl) hcs.1 hcs.2 dX5_countWays_9 ?_
  refine lv_iconst (v := (1 : Int32)) C.1 C.2.1 dX5_countWays_12 (by decide) ?_
  refine lv_isub C.1 C.2.1 dX5_countWays_13 ?_
  refine lv_istore_n (lv' := [(3, .int ((if (4096 : Int32) < r12 then (4096 : Int32) else r12) - (1 : Int32))), (0, .ref (G.2.2 + 90)), (1, .ref (G.2.2 + 5)), (2, .ref (G.2.2 + 1))]) C.1 C.2.1 dX5_countWays_14 rfl hl (by decide) rfl (fun ls hl => ?_)
  obtain ⟨nf, h⟩ := h
  exact TX5_countWays_15 C hml hcs hR nf (((if (4096 : Int32) < r12 then (4096 : Int32) else r12) - (1 : Int32))) S (lv_sub hl [1, 2, 3, 0] rfl) h
/-! X6_isDigit -/
abbrev rm_X6_isDigit : Room := { frames := 0, cells := 0, slots := 0, locals := 0 }
def wpX6_isDigit (x0 : Int32) (σ : Sg) (post : Int32 → Sg → Prop) : Prop := (((x0 < (48 : Int32)) → post (0 : Int32) σ) ∧ ((¬ x0 < (48 : Int32)) → ((((57 : Int32) < x0) → post (0 : Int32) σ) ∧ ((¬ (57 : Int32) < x0) → post (1 : Int32) σ))))
theorem kM_X6_isDigit : s_M yX6_isDigit cX6_isDigit 1 (some .boolean) 1 := ⟨co_X6_isDigit, in_X6, by decide, by decide, by decide +kernel⟩
set_option maxHeartbeats 4000000 in
set_option maxRecDepth 100000 in
theorem c_X6_isDigit (l : Launch) (G : s_G) (x0 : Int32) (σ : Sg) (post : Int32 → Sg → Prop) (h : wpX6_isDigit x0 σ post) : Met l yX6_isDigit (wsU yX6_isDigit cX6_isDigit 1 (some .boolean)) rm_X6_isDigit (va_Pc [.int x0] (s_Pre G σ)) (va_Qi post (s_B G) (s_A G.2.2)) 0 0 (s_A G.2.2) := by
  refine Met.ofW (cc := cX6_isDigit) (maxL := 1) (ret := (some .boolean)) (by decide) rfl ?_
  intro p e s m args below meth c s₁ B hml hv
  obtain ⟨rfl, hP, hrok, hK, hN⟩ := hv
  have C : s_C G p s (([.int x0] : List Value).toArray) m c RX6 cX6_isDigit := ⟨B.exec, B.bytes, findClass_of_methodNamed B.named, fun w hw => atoms_spec (ws := wsU yX6_isDigit cX6_isDigit 1 (some .boolean)) B.pre w (List.mem_cons_of_mem _ hw), hK, hN⟩
  have hr := B.returns
  have hlocks := B.notSynchronized
  have S : s_St G σ s.heap s.heap [] := ⟨hP, va_S.rf, hrok⟩
  have hcs : 0 ≤ (rm_X6_isDigit).cells ∧ 0 ≤ (rm_X6_isDigit).slots := ⟨Nat.le_refl 0, Nat.le_refl 0⟩
  have hR : ∀ (r : Int32) (σ1 : Sg) (H : Heap) (locs : List Loc) (pc : Nat) (ls : Array Slot), decode cX6_isDigit pc = .ok (.ireturn, 1) → narrow .boolean (.int r) = .int r → post r σ1 → s_St G σ1 s.heap H locs → W p l e rm_X6_isDigit s m ([.int x0] : List Value).toArray below meth c H locs 0 0 (MQ below (va_Qi post (s_B G) (s_A G.2.2)) ([.int x0] : List Value).toArray s 0 0 (s_A G.2.2)) (F0 m pc ls [.int r]) := fun _ _ _ _ _ _ hd hn hp S => ret_z C hr hlocks hd hn hp S
  have hl := lv_entry ([.int x0]) (n := 1) (Nat.le_of_ble_eq_true rfl)
  rw [lg_entry_eq]
  generalize (lg_sl ([.int x0]) ++ List.replicate (1 - (lg_sl ([.int x0])).length) Slot.unset).toArray = ls at hl ⊢
  have hl : lv_has ls 1 [(0, .int x0)] := hl
  unfold wpX6_isDigit at h
  refine lv_iload_n C.1 C.2.1 dX6_isDigit_0 rfl (lv_at hl 0 rfl) ?_
  refine lv_bipush (v := (48 : Int32)) C.1 C.2.1 dX6_isDigit_1 (by decide) ?_
  refine lv_icmp_lt (tgt := 16) C.1 C.2.1 dX6_isDigit_3 (by decide) (fun c1 => ?_) (fun c1 => ?_)
  · replace h := h.1 c1
    refine lv_iconst (v := (0 : Int32)) C.1 C.2.1 dX6_isDigit_16 (by decide) ?_
    exact hR _ _ _ _ _ _ dX6_isDigit_17 rfl h S
  · replace h := h.2 c1
    refine lv_iload_n C.1 C.2.1 dX6_isDigit_6 rfl (lv_at hl 0 rfl) ?_
    refine lv_bipush (v := (57 : Int32)) C.1 C.2.1 dX6_isDigit_7 (by decide) ?_
    refine lv_icmp_gt (tgt := 16) C.1 C.2.1 dX6_isDigit_9 (by decide) (fun c2 => ?_) (fun c2 => ?_)
    · replace h := h.1 c2
      refine lv_iconst (v := (0 : Int32)) C.1 C.2.1 dX6_isDigit_16 (by decide) ?_
      exact hR _ _ _ _ _ _ dX6_isDigit_17 rfl h S
    · replace h := h.2 c2
      refine lv_iconst (v := (1 : Int32)) C.1 C.2.1 dX6_isDigit_12 (by decide) ?_
      refine lv_goto (tgt := 17) C.1 C.2.1 dX6_isDigit_13 (by decide) ?_
      exact hR _ _ _ _ _ _ dX6_isDigit_17 rfl h S
/-! X0_digitsFrom -/
abbrev rm_X0_digitsFrom : Room := { frames := 1, cells := 0, slots := 0, locals := 21 }
def BX0_digitsFrom_2 (k0 : Nat) (x1 : Int32) (post : Int32 → Sg → Prop) : Nat → Int32 → Sg → Prop
  | 0, _, _ => False
  | n + 1, x2, σ => ((((3 : Int32) ≤ x2) → post x2 σ) ∧ ((¬ (3 : Int32) ≤ x2) → wpX0_at k0 ((x1 + x2)) σ (fun r3 σ2 => wpX6_isDigit r3 σ2 (fun r5 σ4 => (((r5 = 0) → post x2 σ4) ∧ ((¬ r5 = 0) → BX0_digitsFrom_2 k0 x1 post n ((x2 + 1)) σ4))))))
def wpX0_digitsFrom (k0 : Nat) (x1 : Int32) (σ : Sg) (post : Int32 → Sg → Prop) : Prop := ∃ nf, BX0_digitsFrom_2 k0 x1 post nf ((0 : Int32)) σ
set_option maxHeartbeats 4000000 in
set_option maxRecDepth 100000 in
theorem TX0_digitsFrom_2 (C : s_C G p s args m c RX0 cX0_digitsFrom) (hml : c.maxLocals = 3) (hcs : cells ≤ (rm_X0_digitsFrom).cells ∧ slots ≤ (rm_X0_digitsFrom).slots) {k0 : Nat} {x1 : Int32} (hk0 : s_kd k0 = 0) {post : Int32 → Sg → Prop} (hR : ∀ (r : Int32) (σ1 : Sg) (H : Heap) (locs : List Loc) (pc : Nat) (ls : Array Slot), decode cX0_digitsFrom pc = .ok (.ireturn, 1) → post r σ1 → s_St G σ1 H0 H locs → W p l e rm_X0_digitsFrom s m args below meth c H locs cells slots Q (F0 m pc ls [.int r])) : ∀ (n : Nat) (x2 : Int32), ∀ {σ : Sg} {H : Heap} {locs : List Loc} {ls : Array Slot}, s_St G σ H0 H locs → lv_has ls 3 [(0, .ref (G.2.2 + k0)), (1, .int x1), (2, .int x2)] → BX0_digitsFrom_2 k0 x1 post n x2 σ → W p l e rm_X0_digitsFrom s m args below meth c H locs cells slots Q (F0 m 2 ls []) := by
  intro n
  induction n with
  | zero =>
    intro x2  σ H locs ls S hl h
    exact absurd h (fun h => h)
  | succ n ih0 =>
    have ih : ∀ (x2 : Int32), ∀ (σ : Sg) (H : Heap) (locs : List Loc) (ls : Array Slot), s_St G σ H0 H locs → lv_has ls 3 [(0, .ref (G.2.2 + k0)), (1, .int x1), (2, .int x2)] → BX0_digitsFrom_2 k0 x1 post n x2 σ → W p l e rm_X0_digitsFrom s m args below meth c H locs cells slots Q (F0 m 2 ls []) := fun x2  _ _ _ _ => ih0 x2 
    intro x2  σ H locs ls S hl h
    refine lv_iload_n C.1 C.2.1 dX0_digitsFrom_2 rfl (lv_at hl 2 rfl) ?_
    refine lv_iconst (v := (3 : Int32)) C.1 C.2.1 dX0_digitsFrom_3 (by decide) ?_
    refine lv_icmp_ge (tgt := 26) C.1 C.2.1 dX0_digitsFrom_4 (by decide) (fun c1 => ?_) (fun c1 => ?_)
    · replace h := h.1 c1
      refine lv_iload_n C.1 C.2.1 dX0_digitsFrom_26 rfl (lv_at hl 2 rfl) ?_
      exact hR _ _ _ _ _ _ dX0_digitsFrom_27 h S
    · replace h := h.2 c1
      refine lv_aload_n C.1 C.2.1 dX0_digitsFrom_7 rfl (lv_at hl 0 rfl) ?_
      refine lv_iload_n C.1 C.2.1 dX0_digitsFrom_8 rfl (lv_at hl 1 rfl) ?_
      refine lv_iload_n C.1 C.2.1 dX0_digitsFrom_9 rfl (lv_at hl 2 rfl) ?_
      refine lv_iadd C.1 C.2.1 dX0_digitsFrom_10 ?_
      refine k_i (r_V (As := [.int (x1 + x2)]) (rest := []) C hml (c_X0_at l G k0 ((x1 + x2)) σ _ hk0 h) kM_X0_at im_X0_at se_X0_at ml_X0_19 ⟨rfl, rfl⟩ ⟨Nat.le_of_ble_eq_true rfl, Nat.le_of_ble_eq_true rfl⟩ hcs S.v hk0 (by decide) (T := TX0) (N := 2) rfl rfl hl.1 rfl (Nat.le_of_ble_eq_true rfl) dX0_digitsFrom_11) S (fun r3 σ2 H locs h S => ?_)
      refine k_i (r_SN (As := [.int r3]) (rest := []) C hml (c_X6_isDigit l G r3 σ2 _ h) kM_X6_isDigit st_X6_isDigit nm_X0_36 ⟨rfl, rfl⟩ ⟨Nat.le_of_ble_eq_true rfl, Nat.le_of_ble_eq_true rfl⟩ hcs S.v rfl hl.1 rfl (Nat.le_of_ble_eq_true rfl) dX0_digitsFrom_14) S (fun r5 σ4 H locs h S => ?_)
      refine lv_if_eq (tgt := 26) C.1 C.2.1 dX0_digitsFrom_17 (by decide) (fun c6 => ?_) (fun c6 => ?_)
      · replace h := h.1 c6
        refine lv_iload_n C.1 C.2.1 dX0_digitsFrom_26 rfl (lv_at hl 2 rfl) ?_
        exact hR _ _ _ _ _ _ dX0_digitsFrom_27 h S
      · replace h := h.2 c6
        refine lv_iinc (v := (x2 + 1)) (lv' := [(2, .int (x2 + 1)), (0, .ref (G.2.2 + k0)), (1, .int x1)]) C.1 C.2.1 dX0_digitsFrom_20 hl (k := 2) rfl rfl (by decide) rfl (fun ls hl => ?_)
        refine lv_goto (tgt := 2) C.1 C.2.1 dX0_digitsFrom_23 (by decide) ?_
        exact ih ((x2 + 1)) _ _ _ _ S (lv_sub hl [1, 2, 0] rfl) h
theorem kM_X0_digitsFrom : s_M yX0_digitsFrom cX0_digitsFrom 3 (some .int) 1 := ⟨co_X0_digitsFrom, in_X0, by decide, by decide, by decide +kernel⟩
set_option maxHeartbeats 4000000 in
set_option maxRecDepth 100000 in
theorem c_X0_digitsFrom (l : Launch) (G : s_G) (k0 : Nat) (x1 : Int32) (σ : Sg) (post : Int32 → Sg → Prop) (hk0 : s_kd k0 = 0) (h : wpX0_digitsFrom k0 x1 σ post) : Met l yX0_digitsFrom (wsU yX0_digitsFrom cX0_digitsFrom 3 (some .int)) rm_X0_digitsFrom (va_Pc [.ref (G.2.2 + k0), .int x1] (s_Pre G σ)) (va_Qi post (s_B G) (s_A G.2.2)) 0 0 (s_A G.2.2) := by
  refine Met.ofW (cc := cX0_digitsFrom) (maxL := 3) (ret := (some .int)) (by decide) rfl ?_
  intro p e s m args below meth c s₁ B hml hv
  obtain ⟨rfl, hP, hrok, hK, hN⟩ := hv
  have C : s_C G p s (([.ref (G.2.2 + k0), .int x1] : List Value).toArray) m c RX0 cX0_digitsFrom := ⟨B.exec, B.bytes, findClass_of_methodNamed B.named, fun w hw => atoms_spec (ws := wsU yX0_digitsFrom cX0_digitsFrom 3 (some .int)) B.pre w (List.mem_cons_of_mem _ hw), hK, hN⟩
  have hr := B.returns
  have hlocks := B.notSynchronized
  have S : s_St G σ s.heap s.heap [] := ⟨hP, va_S.rf, hrok⟩
  have hcs : 0 ≤ (rm_X0_digitsFrom).cells ∧ 0 ≤ (rm_X0_digitsFrom).slots := ⟨Nat.le_refl 0, Nat.le_refl 0⟩
  have hR : ∀ (r : Int32) (σ1 : Sg) (H : Heap) (locs : List Loc) (pc : Nat) (ls : Array Slot), decode cX0_digitsFrom pc = .ok (.ireturn, 1) → post r σ1 → s_St G σ1 s.heap H locs → W p l e rm_X0_digitsFrom s m ([.ref (G.2.2 + k0), .int x1] : List Value).toArray below meth c H locs 0 0 (MQ below (va_Qi post (s_B G) (s_A G.2.2)) ([.ref (G.2.2 + k0), .int x1] : List Value).toArray s 0 0 (s_A G.2.2)) (F0 m pc ls [.int r]) := fun _ _ _ _ _ _ hd hp S => ret_i C hr hlocks hd hp S
  have hl := lv_entry ([.ref (G.2.2 + k0), .int x1]) (n := 3) (Nat.le_of_ble_eq_true rfl)
  rw [lg_entry_eq]
  generalize (lg_sl ([.ref (G.2.2 + k0), .int x1]) ++ List.replicate (3 - (lg_sl ([.ref (G.2.2 + k0), .int x1])).length) Slot.unset).toArray = ls at hl ⊢
  have hl : lv_has ls 3 [(0, .ref (G.2.2 + k0)), (1, .int x1)] := hl
  unfold wpX0_digitsFrom at h
  refine lv_iconst (v := (0 : Int32)) C.1 C.2.1 dX0_digitsFrom_0 (by decide) ?_
  refine lv_istore_n (lv' := [(2, .int (0 : Int32)), (0, .ref (G.2.2 + k0)), (1, .int x1)]) C.1 C.2.1 dX0_digitsFrom_1 rfl hl (by decide) rfl (fun ls hl => ?_)
  obtain ⟨nf, h⟩ := h
  exact TX0_digitsFrom_2 C hml hcs hk0 hR nf ((0 : Int32)) S (lv_sub hl [1, 2, 0] rfl) h
/-! X6_isCapital -/
abbrev rm_X6_isCapital : Room := { frames := 0, cells := 0, slots := 0, locals := 0 }
def wpX6_isCapital (x0 : Int32) (σ : Sg) (post : Int32 → Sg → Prop) : Prop := (((x0 < (65 : Int32)) → post (0 : Int32) σ) ∧ ((¬ x0 < (65 : Int32)) → ((((90 : Int32) < x0) → post (0 : Int32) σ) ∧ ((¬ (90 : Int32) < x0) → post (1 : Int32) σ))))
theorem kM_X6_isCapital : s_M yX6_isCapital cX6_isCapital 1 (some .boolean) 1 := ⟨co_X6_isCapital, in_X6, by decide, by decide, by decide +kernel⟩
set_option maxHeartbeats 4000000 in
set_option maxRecDepth 100000 in
theorem c_X6_isCapital (l : Launch) (G : s_G) (x0 : Int32) (σ : Sg) (post : Int32 → Sg → Prop) (h : wpX6_isCapital x0 σ post) : Met l yX6_isCapital (wsU yX6_isCapital cX6_isCapital 1 (some .boolean)) rm_X6_isCapital (va_Pc [.int x0] (s_Pre G σ)) (va_Qi post (s_B G) (s_A G.2.2)) 0 0 (s_A G.2.2) := by
  refine Met.ofW (cc := cX6_isCapital) (maxL := 1) (ret := (some .boolean)) (by decide) rfl ?_
  intro p e s m args below meth c s₁ B hml hv
  obtain ⟨rfl, hP, hrok, hK, hN⟩ := hv
  have C : s_C G p s (([.int x0] : List Value).toArray) m c RX6 cX6_isCapital := ⟨B.exec, B.bytes, findClass_of_methodNamed B.named, fun w hw => atoms_spec (ws := wsU yX6_isCapital cX6_isCapital 1 (some .boolean)) B.pre w (List.mem_cons_of_mem _ hw), hK, hN⟩
  have hr := B.returns
  have hlocks := B.notSynchronized
  have S : s_St G σ s.heap s.heap [] := ⟨hP, va_S.rf, hrok⟩
  have hcs : 0 ≤ (rm_X6_isCapital).cells ∧ 0 ≤ (rm_X6_isCapital).slots := ⟨Nat.le_refl 0, Nat.le_refl 0⟩
  have hR : ∀ (r : Int32) (σ1 : Sg) (H : Heap) (locs : List Loc) (pc : Nat) (ls : Array Slot), decode cX6_isCapital pc = .ok (.ireturn, 1) → narrow .boolean (.int r) = .int r → post r σ1 → s_St G σ1 s.heap H locs → W p l e rm_X6_isCapital s m ([.int x0] : List Value).toArray below meth c H locs 0 0 (MQ below (va_Qi post (s_B G) (s_A G.2.2)) ([.int x0] : List Value).toArray s 0 0 (s_A G.2.2)) (F0 m pc ls [.int r]) := fun _ _ _ _ _ _ hd hn hp S => ret_z C hr hlocks hd hn hp S
  have hl := lv_entry ([.int x0]) (n := 1) (Nat.le_of_ble_eq_true rfl)
  rw [lg_entry_eq]
  generalize (lg_sl ([.int x0]) ++ List.replicate (1 - (lg_sl ([.int x0])).length) Slot.unset).toArray = ls at hl ⊢
  have hl : lv_has ls 1 [(0, .int x0)] := hl
  unfold wpX6_isCapital at h
  refine lv_iload_n C.1 C.2.1 dX6_isCapital_0 rfl (lv_at hl 0 rfl) ?_
  refine lv_bipush (v := (65 : Int32)) C.1 C.2.1 dX6_isCapital_1 (by decide) ?_
  refine lv_icmp_lt (tgt := 16) C.1 C.2.1 dX6_isCapital_3 (by decide) (fun c1 => ?_) (fun c1 => ?_)
  · replace h := h.1 c1
    refine lv_iconst (v := (0 : Int32)) C.1 C.2.1 dX6_isCapital_16 (by decide) ?_
    exact hR _ _ _ _ _ _ dX6_isCapital_17 rfl h S
  · replace h := h.2 c1
    refine lv_iload_n C.1 C.2.1 dX6_isCapital_6 rfl (lv_at hl 0 rfl) ?_
    refine lv_bipush (v := (90 : Int32)) C.1 C.2.1 dX6_isCapital_7 (by decide) ?_
    refine lv_icmp_gt (tgt := 16) C.1 C.2.1 dX6_isCapital_9 (by decide) (fun c2 => ?_) (fun c2 => ?_)
    · replace h := h.1 c2
      refine lv_iconst (v := (0 : Int32)) C.1 C.2.1 dX6_isCapital_16 (by decide) ?_
      exact hR _ _ _ _ _ _ dX6_isCapital_17 rfl h S
    · replace h := h.2 c2
      refine lv_iconst (v := (1 : Int32)) C.1 C.2.1 dX6_isCapital_12 (by decide) ?_
      refine lv_goto (tgt := 17) C.1 C.2.1 dX6_isCapital_13 (by decide) ?_
      exact hR _ _ _ _ _ _ dX6_isCapital_17 rfl h S
/-! X0_endOf -/
abbrev rm_X0_endOf : Room := { frames := 2, cells := 0, slots := 0, locals := 45 }
def wpX0_endOf (k0 : Nat) (k1 : Nat) (x2 : Int32) (σ : Sg) (post : Int32 → Sg → Prop) : Prop := wpX3_wordLength k1 σ (fun r2 σ1 => wpX0_lettersMatched k0 k1 x2 σ1 (fun r4 σ3 => wpX3_wordLength k1 σ3 (fun r6 σ5 => (((r6 ≤ r4) → (((¬ (σ5.1 k1 1) = (1 : Int32)) → (((¬ (σ5.1 k1 1) = (2 : Int32)) → post ((x2 + r2)) σ5) ∧ (((σ5.1 k1 1) = (2 : Int32)) → wpX0_at k0 ((x2 + r2)) σ5 (fun r11 σ10 => wpX6_isCapital r11 σ10 (fun r13 σ12 => (((r13 = 0) → post ((-9 : Int32)) σ12) ∧ ((¬ r13 = 0) → post (((x2 + r2) + (1 : Int32))) σ12))))))) ∧ (((σ5.1 k1 1) = (1 : Int32)) → wpX0_digitsFrom k0 ((x2 + r2)) σ5 (fun r16 σ15 => (((r16 ≤ 0) → post ((-9 : Int32)) σ15) ∧ ((¬ r16 ≤ 0) → post (((x2 + r2) + r16)) σ15)))))) ∧ ((¬ r6 ≤ r4) → post ((-9 : Int32)) σ5)))))
theorem kM_X0_endOf : s_M yX0_endOf cX0_endOf 5 (some .int) 2 := ⟨co_X0_endOf, in_X0, by decide, by decide, by decide +kernel⟩
set_option maxHeartbeats 4000000 in
set_option maxRecDepth 100000 in
theorem c_X0_endOf (l : Launch) (G : s_G) (k0 : Nat) (k1 : Nat) (x2 : Int32) (σ : Sg) (post : Int32 → Sg → Prop) (hk0 : s_kd k0 = 0) (hk1 : s_kd k1 = 3) (h : wpX0_endOf k0 k1 x2 σ post) : Met l yX0_endOf (wsU yX0_endOf cX0_endOf 5 (some .int)) rm_X0_endOf (va_Pc [.ref (G.2.2 + k0), .ref (G.2.2 + k1), .int x2] (s_Pre G σ)) (va_Qi post (s_B G) (s_A G.2.2)) 0 0 (s_A G.2.2) := by
  refine Met.ofW (cc := cX0_endOf) (maxL := 5) (ret := (some .int)) (by decide) rfl ?_
  intro p e s m args below meth c s₁ B hml hv
  obtain ⟨rfl, hP, hrok, hK, hN⟩ := hv
  have C : s_C G p s (([.ref (G.2.2 + k0), .ref (G.2.2 + k1), .int x2] : List Value).toArray) m c RX0 cX0_endOf := ⟨B.exec, B.bytes, findClass_of_methodNamed B.named, fun w hw => atoms_spec (ws := wsU yX0_endOf cX0_endOf 5 (some .int)) B.pre w (List.mem_cons_of_mem _ hw), hK, hN⟩
  have hr := B.returns
  have hlocks := B.notSynchronized
  have S : s_St G σ s.heap s.heap [] := ⟨hP, va_S.rf, hrok⟩
  have hcs : 0 ≤ (rm_X0_endOf).cells ∧ 0 ≤ (rm_X0_endOf).slots := ⟨Nat.le_refl 0, Nat.le_refl 0⟩
  have hR : ∀ (r : Int32) (σ1 : Sg) (H : Heap) (locs : List Loc) (pc : Nat) (ls : Array Slot), decode cX0_endOf pc = .ok (.ireturn, 1) → post r σ1 → s_St G σ1 s.heap H locs → W p l e rm_X0_endOf s m ([.ref (G.2.2 + k0), .ref (G.2.2 + k1), .int x2] : List Value).toArray below meth c H locs 0 0 (MQ below (va_Qi post (s_B G) (s_A G.2.2)) ([.ref (G.2.2 + k0), .ref (G.2.2 + k1), .int x2] : List Value).toArray s 0 0 (s_A G.2.2)) (F0 m pc ls [.int r]) := fun _ _ _ _ _ _ hd hp S => ret_i C hr hlocks hd hp S
  have hl := lv_entry ([.ref (G.2.2 + k0), .ref (G.2.2 + k1), .int x2]) (n := 5) (Nat.le_of_ble_eq_true rfl)
  rw [lg_entry_eq]
  generalize (lg_sl ([.ref (G.2.2 + k0), .ref (G.2.2 + k1), .int x2]) ++ List.replicate (5 - (lg_sl ([.ref (G.2.2 + k0), .ref (G.2.2 + k1), .int x2])).length) Slot.unset).toArray = ls at hl ⊢
  have hl : lv_has ls 5 [(0, .ref (G.2.2 + k0)), (1, .ref (G.2.2 + k1)), (2, .int x2)] := hl
  unfold wpX0_endOf at h
  refine lv_iload_n C.1 C.2.1 dX0_endOf_0 rfl (lv_at hl 2 rfl) ?_
  refine lv_aload_n C.1 C.2.1 dX0_endOf_1 rfl (lv_at hl 1 rfl) ?_
  refine k_i (r_VN (As := []) (rest := [.int x2]) C hml (c_X3_wordLength l G k1 σ _ hk1 h) kM_X3_wordLength im_X3_wordLength se_X3_wordLength nm_X0_27 ⟨rfl, rfl⟩ ⟨Nat.le_of_ble_eq_true rfl, Nat.le_of_ble_eq_true rfl⟩ hcs S.v hk1 (by decide) (T := TX3) (N := 6) rfl rfl hl.1 rfl (Nat.le_of_ble_eq_true rfl) dX0_endOf_2) S (fun r2 σ1 H locs h S => ?_)
  refine lv_iadd C.1 C.2.1 dX0_endOf_5 ?_
  refine lv_istore_n (lv' := [(3, .int (x2 + r2)), (0, .ref (G.2.2 + k0)), (1, .ref (G.2.2 + k1)), (2, .int x2)]) C.1 C.2.1 dX0_endOf_6 rfl hl (by decide) rfl (fun ls hl => ?_)
  refine lv_aload_n C.1 C.2.1 dX0_endOf_7 rfl (lv_at hl 1 rfl) ?_
  refine lv_aload_n C.1 C.2.1 dX0_endOf_8 rfl (lv_at hl 2 rfl) ?_
  refine lv_iload_n C.1 C.2.1 dX0_endOf_9 rfl (lv_at hl 3 rfl) ?_
  refine k_i (r_V (As := [.ref (G.2.2 + k1), .int x2]) (rest := []) C hml (c_X0_lettersMatched l G k0 k1 x2 σ1 _ hk0 hk1 h) kM_X0_lettersMatched im_X0_lettersMatched se_X0_lettersMatched ml_X0_39 ⟨rfl, rfl⟩ ⟨Nat.le_of_ble_eq_true rfl, Nat.le_of_ble_eq_true rfl⟩ hcs S.v hk0 (by decide) (T := TX0) (N := 2) rfl rfl hl.1 rfl (Nat.le_of_ble_eq_true rfl) dX0_endOf_10) S (fun r4 σ3 H locs h S => ?_)
  refine lv_aload_n C.1 C.2.1 dX0_endOf_13 rfl (lv_at hl 2 rfl) ?_
  refine k_i (r_VN (As := []) (rest := [.int r4]) C hml (c_X3_wordLength l G k1 σ3 _ hk1 h) kM_X3_wordLength im_X3_wordLength se_X3_wordLength nm_X0_27 ⟨rfl, rfl⟩ ⟨Nat.le_of_ble_eq_true rfl, Nat.le_of_ble_eq_true rfl⟩ hcs S.v hk1 (by decide) (T := TX3) (N := 6) rfl rfl hl.1 rfl (Nat.le_of_ble_eq_true rfl) dX0_endOf_14) S (fun r6 σ5 H locs h S => ?_)
  refine lv_icmp_ge (tgt := 23) C.1 C.2.1 dX0_endOf_17 (by decide) (fun c7 => ?_) (fun c7 => ?_)
  · replace h := h.1 c7
    refine lv_aload_n C.1 C.2.1 dX0_endOf_23 rfl (lv_at hl 2 rfl) ?_
    refine gn_X3_1 C nf_X0_43 hk1 S dX0_endOf_24 ?_
    refine lv_iconst (v := (1 : Int32)) C.1 C.2.1 dX0_endOf_27 (by decide) ?_
    refine lv_icmp_ne (tgt := 53) C.1 C.2.1 dX0_endOf_28 (by decide) (fun c8 => ?_) (fun c8 => ?_)
    · replace h := h.1 c8
      refine lv_aload_n C.1 C.2.1 dX0_endOf_53 rfl (lv_at hl 2 rfl) ?_
      refine gn_X3_1 C nf_X0_43 hk1 S dX0_endOf_54 ?_
      refine lv_iconst (v := (2 : Int32)) C.1 C.2.1 dX0_endOf_57 (by decide) ?_
      refine lv_icmp_ne (tgt := 81) C.1 C.2.1 dX0_endOf_58 (by decide) (fun c9 => ?_) (fun c9 => ?_)
      · replace h := h.1 c9
        refine lv_iload_n C.1 C.2.1 dX0_endOf_81 rfl (lv_at hl 0 rfl) ?_
        exact hR _ _ _ _ _ _ dX0_endOf_82 h S
      · replace h := h.2 c9
        refine lv_aload_n C.1 C.2.1 dX0_endOf_61 rfl (lv_at hl 1 rfl) ?_
        refine lv_iload_n C.1 C.2.1 dX0_endOf_62 rfl (lv_at hl 0 rfl) ?_
        refine k_i (r_V (As := [.int (x2 + r2)]) (rest := []) C hml (c_X0_at l G k0 ((x2 + r2)) σ5 _ hk0 h) kM_X0_at im_X0_at se_X0_at ml_X0_19 ⟨rfl, rfl⟩ ⟨Nat.le_of_ble_eq_true rfl, Nat.le_of_ble_eq_true rfl⟩ hcs S.v hk0 (by decide) (T := TX0) (N := 2) rfl rfl hl.1 rfl (Nat.le_of_ble_eq_true rfl) dX0_endOf_63) S (fun r11 σ10 H locs h S => ?_)
        refine k_i (r_SN (As := [.int r11]) (rest := []) C hml (c_X6_isCapital l G r11 σ10 _ h) kM_X6_isCapital st_X6_isCapital nm_X0_49 ⟨rfl, rfl⟩ ⟨Nat.le_of_ble_eq_true rfl, Nat.le_of_ble_eq_true rfl⟩ hcs S.v rfl hl.1 rfl (Nat.le_of_ble_eq_true rfl) dX0_endOf_66) S (fun r13 σ12 H locs h S => ?_)
        refine lv_if_eq (tgt := 78) C.1 C.2.1 dX0_endOf_69 (by decide) (fun c14 => ?_) (fun c14 => ?_)
        · replace h := h.1 c14
          refine lv_bipush (v := (-9 : Int32)) C.1 C.2.1 dX0_endOf_78 (by decide) ?_
          exact hR _ _ _ _ _ _ dX0_endOf_80 h S
        · replace h := h.2 c14
          refine lv_iload_n C.1 C.2.1 dX0_endOf_72 rfl (lv_at hl 0 rfl) ?_
          refine lv_iconst (v := (1 : Int32)) C.1 C.2.1 dX0_endOf_73 (by decide) ?_
          refine lv_iadd C.1 C.2.1 dX0_endOf_74 ?_
          refine lv_goto (tgt := 80) C.1 C.2.1 dX0_endOf_75 (by decide) ?_
          exact hR _ _ _ _ _ _ dX0_endOf_80 h S
    · replace h := h.2 c8
      refine lv_aload_n C.1 C.2.1 dX0_endOf_31 rfl (lv_at hl 1 rfl) ?_
      refine lv_iload_n C.1 C.2.1 dX0_endOf_32 rfl (lv_at hl 0 rfl) ?_
      refine k_i (r_V (As := [.int (x2 + r2)]) (rest := []) C hml (c_X0_digitsFrom l G k0 ((x2 + r2)) σ5 _ hk0 h) kM_X0_digitsFrom im_X0_digitsFrom se_X0_digitsFrom ml_X0_46 ⟨rfl, rfl⟩ ⟨Nat.le_of_ble_eq_true rfl, Nat.le_of_ble_eq_true rfl⟩ hcs S.v hk0 (by decide) (T := TX0) (N := 2) rfl rfl hl.1 rfl (Nat.le_of_ble_eq_true rfl) dX0_endOf_33) S (fun r16 σ15 H locs h S => ?_)
      refine lv_istore (lv' := [(4, .int r16), (3, .int (x2 + r2)), (0, .ref (G.2.2 + k0)), (1, .ref (G.2.2 + k1)), (2, .int x2)]) C.1 C.2.1 dX0_endOf_36 hl (by decide) rfl (fun ls hl => ?_)
      refine lv_iload C.1 C.2.1 dX0_endOf_38 (lv_at hl 0 rfl) ?_
      refine lv_if_le (tgt := 50) C.1 C.2.1 dX0_endOf_40 (by decide) (fun c17 => ?_) (fun c17 => ?_)
      · replace h := h.1 c17
        refine lv_bipush (v := (-9 : Int32)) C.1 C.2.1 dX0_endOf_50 (by decide) ?_
        exact hR _ _ _ _ _ _ dX0_endOf_52 h S
      · replace h := h.2 c17
        refine lv_iload_n C.1 C.2.1 dX0_endOf_43 rfl (lv_at hl 1 rfl) ?_
        refine lv_iload C.1 C.2.1 dX0_endOf_44 (lv_at hl 0 rfl) ?_
        refine lv_iadd C.1 C.2.1 dX0_endOf_46 ?_
        refine lv_goto (tgt := 52) C.1 C.2.1 dX0_endOf_47 (by decide) ?_
        exact hR _ _ _ _ _ _ dX0_endOf_52 h S
  · replace h := h.2 c7
    refine lv_bipush (v := (-9 : Int32)) C.1 C.2.1 dX0_endOf_20 (by decide) ?_
    exact hR _ _ _ _ _ _ dX0_endOf_22 h S
/-! X5_findSteps -/
abbrev rm_X5_findSteps : Room := { frames := 3, cells := 0, slots := 0, locals := 69 }
def BX5_findSteps_68 (x1 : Int32) (K31 : Int32 → Int32 → Int32 → Int32 → Sg → Prop) (post : Int32 → Sg → Prop) (x4 : Int32) (x5 : Int32) (x6 : Int32) (x7 : Int32) (y0 : Int32) (σ : Sg) : Prop := wpX6_withOneMore x1 x7 σ (fun r2 σ1 => (((y0 < 0) → K31 x4 x5 x6 ((x7 + 1)) σ1) ∧ ((¬ y0 < 0) → (((r2 < 0) → K31 x4 x5 x6 ((x7 + 1)) σ1) ∧ ((¬ r2 < 0) → ((((4096 : Int32) ≤ r2) → K31 x4 x5 x6 ((x7 + 1)) σ1) ∧ ((¬ (4096 : Int32) ≤ r2) → (vp_in r2 4096 ∧ (∀ σ6 : Sg, σ6 = setI σ1 91 (r2).toNatClampNeg y0 → K31 x4 x5 ((x6 ||| ((1 : Int32) <<< (x7 &&& 31)))) ((x7 + 1)) σ6)))))))))
def BX5_findSteps_31 (x1 : Int32) (post : Int32 → Sg → Prop) : Nat → Int32 → Int32 → Int32 → Int32 → Sg → Prop
  | 0, _, _, _, _, _ => False
  | n + 1, x4, x5, x6, x7, σ => ((((σ.1 5 2) ≤ x7) → post x6 σ) ∧ ((¬ (σ.1 5 2) ≤ x7) → wpX6_bitOf x5 x7 σ (fun r10 σ9 => (((¬ r10 = (1 : Int32)) → BX5_findSteps_68 x1 (BX5_findSteps_31 x1 post n) post x4 x5 x6 x7 ((-9 : Int32)) σ9) ∧ ((r10 = (1 : Int32)) → wpX1_at 5 x7 σ9 (fun q13 σ12 => s_kd q13 = 3 → wpX0_endOf 1 q13 x4 σ12 (fun r15 σ14 => BX5_findSteps_68 x1 (BX5_findSteps_31 x1 post n) post x4 x5 x6 x7 r15 σ14)))))))
def wpX5_findSteps (x1 : Int32) (σ : Sg) (post : Int32 → Sg → Prop) : Prop := wpX5_startBehind x1 σ (fun r17 σ16 => (((r17 < 0) → ∃ nf, BX5_findSteps_31 x1 post nf r17 ((0 : Int32)) ((0 : Int32)) ((0 : Int32)) σ16) ∧ ((¬ r17 < 0) → wpX1_followers 5 x1 σ16 (fun r20 σ19 => ∃ nf, BX5_findSteps_31 x1 post nf r17 r20 ((0 : Int32)) ((0 : Int32)) σ19))))
set_option maxHeartbeats 4000000 in
set_option maxRecDepth 100000 in
theorem TX5_findSteps_68 (C : s_C G p s args m c RX5 cX5_findSteps) (hml : c.maxLocals = 10) (hcs : cells ≤ (rm_X5_findSteps).cells ∧ slots ≤ (rm_X5_findSteps).slots) {x1 : Int32} {K31 : Int32 → Int32 → Int32 → Int32 → Sg → Prop} {post : Int32 → Sg → Prop} (hR : ∀ (r : Int32) (σ1 : Sg) (H : Heap) (locs : List Loc) (pc : Nat) (ls : Array Slot), decode cX5_findSteps pc = .ok (.ireturn, 1) → post r σ1 → s_St G σ1 H0 H locs → W p l e rm_X5_findSteps s m args below meth c H locs cells slots Q (F0 m pc ls [.int r])) (hK31 : ∀ (x4 : Int32) (x5 : Int32) (x6 : Int32) (x7 : Int32), ∀ (σ : Sg) (H : Heap) (locs : List Loc) (ls : Array Slot), s_St G σ H0 H locs → lv_has ls 10 [(0, .ref (G.2.2 + 90)), (1, .int x1), (2, .ref (G.2.2 + 5)), (3, .ref (G.2.2 + 1)), (4, .int x4), (5, .int x5), (6, .int x6), (7, .int x7)] → K31 x4 x5 x6 x7 σ → W p l e rm_X5_findSteps s m args below meth c H locs cells slots Q (F0 m 31 ls [])) : ∀ (x4 : Int32) (x5 : Int32) (x6 : Int32) (x7 : Int32) (y0 : Int32), ∀ {σ : Sg} {H : Heap} {locs : List Loc} {ls : Array Slot}, s_St G σ H0 H locs → lv_has ls 10 [(0, .ref (G.2.2 + 90)), (1, .int x1), (2, .ref (G.2.2 + 5)), (3, .ref (G.2.2 + 1)), (4, .int x4), (5, .int x5), (6, .int x6), (7, .int x7)] → BX5_findSteps_68 x1 K31 post x4 x5 x6 x7 y0 σ → W p l e rm_X5_findSteps s m args below meth c H locs cells slots Q (F0 m 68 ls [.int y0]) := by
  intro x4 x5 x6 x7 y0  σ H locs ls S hl h
  unfold BX5_findSteps_68 at h
  refine lv_istore (lv' := [(8, .int y0), (0, .ref (G.2.2 + 90)), (1, .int x1), (2, .ref (G.2.2 + 5)), (3, .ref (G.2.2 + 1)), (4, .int x4), (5, .int x5), (6, .int x6), (7, .int x7)]) C.1 C.2.1 dX5_findSteps_68 hl (by decide) rfl (fun ls hl => ?_)
  refine lv_iload_n C.1 C.2.1 dX5_findSteps_70 rfl (lv_at hl 2 rfl) ?_
  refine lv_iload C.1 C.2.1 dX5_findSteps_71 (lv_at hl 8 rfl) ?_
  refine k_i (r_SN (As := [.int x1, .int x7]) (rest := []) C hml (c_X6_withOneMore l G x1 x7 σ _ h) kM_X6_withOneMore st_X6_withOneMore nm_X5_87 ⟨rfl, rfl⟩ ⟨Nat.le_of_ble_eq_true rfl, Nat.le_of_ble_eq_true rfl⟩ hcs S.v rfl hl.1 rfl (Nat.le_of_ble_eq_true rfl) dX5_findSteps_73) S (fun r2 σ1 H locs h S => ?_)
  refine lv_istore (lv' := [(9, .int r2), (8, .int y0), (0, .ref (G.2.2 + 90)), (1, .int x1), (2, .ref (G.2.2 + 5)), (3, .ref (G.2.2 + 1)), (4, .int x4), (5, .int x5), (6, .int x6), (7, .int x7)]) C.1 C.2.1 dX5_findSteps_76 hl (by decide) rfl (fun ls hl => ?_)
  refine lv_iload C.1 C.2.1 dX5_findSteps_78 (lv_at hl 1 rfl) ?_
  refine lv_if_lt (tgt := 116) C.1 C.2.1 dX5_findSteps_80 (by decide) (fun c3 => ?_) (fun c3 => ?_)
  · replace h := h.1 c3
    refine lv_iinc (v := (x7 + 1)) (lv' := [(7, .int (x7 + 1)), (9, .int r2), (8, .int y0), (0, .ref (G.2.2 + 90)), (1, .int x1), (2, .ref (G.2.2 + 5)), (3, .ref (G.2.2 + 1)), (4, .int x4), (5, .int x5), (6, .int x6)]) C.1 C.2.1 dX5_findSteps_116 hl (k := 9) rfl rfl (by decide) rfl (fun ls hl => ?_)
    refine lv_goto (tgt := 31) C.1 C.2.1 dX5_findSteps_119 (by decide) ?_
    exact hK31 x4 x5 x6 ((x7 + 1)) _ _ _ _ S (lv_sub hl [3, 4, 5, 6, 7, 8, 9, 0] rfl) h
  · replace h := h.2 c3
    refine lv_iload C.1 C.2.1 dX5_findSteps_83 (lv_at hl 0 rfl) ?_
    refine lv_if_lt (tgt := 116) C.1 C.2.1 dX5_findSteps_85 (by decide) (fun c4 => ?_) (fun c4 => ?_)
    · replace h := h.1 c4
      refine lv_iinc (v := (x7 + 1)) (lv' := [(7, .int (x7 + 1)), (9, .int r2), (8, .int y0), (0, .ref (G.2.2 + 90)), (1, .int x1), (2, .ref (G.2.2 + 5)), (3, .ref (G.2.2 + 1)), (4, .int x4), (5, .int x5), (6, .int x6)]) C.1 C.2.1 dX5_findSteps_116 hl (k := 9) rfl rfl (by decide) rfl (fun ls hl => ?_)
      refine lv_goto (tgt := 31) C.1 C.2.1 dX5_findSteps_119 (by decide) ?_
      exact hK31 x4 x5 x6 ((x7 + 1)) _ _ _ _ S (lv_sub hl [3, 4, 5, 6, 7, 8, 9, 0] rfl) h
    · replace h := h.2 c4
      refine lv_iload C.1 C.2.1 dX5_findSteps_88 (lv_at hl 0 rfl) ?_
      refine lv_aload_n C.1 C.2.1 dX5_findSteps_90 rfl (lv_at hl 2 rfl) ?_
      refine g_X5_0 C fl_X5_9 kd_90 S fn_90_0 dX5_findSteps_91 ?_
      refine a_len8 C kd_91 S (v := (4096 : Int32)) (by rw [ln_91]; rfl) dX5_findSteps_94 ?_
      refine lv_icmp_ge (tgt := 116) C.1 C.2.1 dX5_findSteps_95 (by decide) (fun c5 => ?_) (fun c5 => ?_)
      · replace h := h.1 c5
        refine lv_iinc (v := (x7 + 1)) (lv' := [(7, .int (x7 + 1)), (9, .int r2), (8, .int y0), (0, .ref (G.2.2 + 90)), (1, .int x1), (2, .ref (G.2.2 + 5)), (3, .ref (G.2.2 + 1)), (4, .int x4), (5, .int x5), (6, .int x6)]) C.1 C.2.1 dX5_findSteps_116 hl (k := 9) rfl rfl (by decide) rfl (fun ls hl => ?_)
        refine lv_goto (tgt := 31) C.1 C.2.1 dX5_findSteps_119 (by decide) ?_
        exact hK31 x4 x5 x6 ((x7 + 1)) _ _ _ _ S (lv_sub hl [3, 4, 5, 6, 7, 8, 9, 0] rfl) h
      · replace h := h.2 c5
        refine lv_aload_n C.1 C.2.1 dX5_findSteps_98 rfl (lv_at hl 2 rfl) ?_
        refine g_X5_0 C fl_X5_9 kd_90 S fn_90_0 dX5_findSteps_99 ?_
        refine lv_iload C.1 C.2.1 dX5_findSteps_102 (lv_at hl 0 rfl) ?_
        refine lv_iload C.1 C.2.1 dX5_findSteps_104 (lv_at hl 1 rfl) ?_
        refine a_ist C kd_91 S ln_91 h.1 dX5_findSteps_106 (fun σ6 H locs e7 S => ?_)
        replace h := h.2 σ6 e7
        refine lv_iload C.1 C.2.1 dX5_findSteps_107 (lv_at hl 8 rfl) ?_
        refine lv_iconst (v := (1 : Int32)) C.1 C.2.1 dX5_findSteps_109 (by decide) ?_
        refine lv_iload C.1 C.2.1 dX5_findSteps_110 (lv_at hl 9 rfl) ?_
        refine lv_ishl C.1 C.2.1 dX5_findSteps_112 ?_
        refine lv_ior C.1 C.2.1 dX5_findSteps_113 ?_
        refine lv_istore (lv' := [(6, .int (x6 ||| ((1 : Int32) <<< (x7 &&& 31)))), (9, .int r2), (8, .int y0), (0, .ref (G.2.2 + 90)), (1, .int x1), (2, .ref (G.2.2 + 5)), (3, .ref (G.2.2 + 1)), (4, .int x4), (5, .int x5), (7, .int x7)]) C.1 C.2.1 dX5_findSteps_114 hl (by decide) rfl (fun ls hl => ?_)
        refine lv_iinc (v := (x7 + 1)) (lv' := [(7, .int (x7 + 1)), (6, .int (x6 ||| ((1 : Int32) <<< (x7 &&& 31)))), (9, .int r2), (8, .int y0), (0, .ref (G.2.2 + 90)), (1, .int x1), (2, .ref (G.2.2 + 5)), (3, .ref (G.2.2 + 1)), (4, .int x4), (5, .int x5)]) C.1 C.2.1 dX5_findSteps_116 hl (k := 9) rfl rfl (by decide) rfl (fun ls hl => ?_)
        refine lv_goto (tgt := 31) C.1 C.2.1 dX5_findSteps_119 (by decide) ?_
        exact hK31 x4 x5 ((x6 ||| ((1 : Int32) <<< (x7 &&& 31)))) ((x7 + 1)) _ _ _ _ S (lv_sub hl [4, 5, 6, 7, 8, 9, 1, 0] rfl) h
set_option maxHeartbeats 4000000 in
set_option maxRecDepth 100000 in
theorem TX5_findSteps_31 (C : s_C G p s args m c RX5 cX5_findSteps) (hml : c.maxLocals = 10) (hcs : cells ≤ (rm_X5_findSteps).cells ∧ slots ≤ (rm_X5_findSteps).slots) {x1 : Int32} {post : Int32 → Sg → Prop} (hR : ∀ (r : Int32) (σ1 : Sg) (H : Heap) (locs : List Loc) (pc : Nat) (ls : Array Slot), decode cX5_findSteps pc = .ok (.ireturn, 1) → post r σ1 → s_St G σ1 H0 H locs → W p l e rm_X5_findSteps s m args below meth c H locs cells slots Q (F0 m pc ls [.int r])) : ∀ (n : Nat) (x4 : Int32) (x5 : Int32) (x6 : Int32) (x7 : Int32), ∀ {σ : Sg} {H : Heap} {locs : List Loc} {ls : Array Slot}, s_St G σ H0 H locs → lv_has ls 10 [(0, .ref (G.2.2 + 90)), (1, .int x1), (2, .ref (G.2.2 + 5)), (3, .ref (G.2.2 + 1)), (4, .int x4), (5, .int x5), (6, .int x6), (7, .int x7)] → BX5_findSteps_31 x1 post n x4 x5 x6 x7 σ → W p l e rm_X5_findSteps s m args below meth c H locs cells slots Q (F0 m 31 ls []) := by
  intro n
  induction n with
  | zero =>
    intro x4 x5 x6 x7  σ H locs ls S hl h
    exact absurd h (fun h => h)
  | succ n ih0 =>
    have ih : ∀ (x4 : Int32) (x5 : Int32) (x6 : Int32) (x7 : Int32), ∀ (σ : Sg) (H : Heap) (locs : List Loc) (ls : Array Slot), s_St G σ H0 H locs → lv_has ls 10 [(0, .ref (G.2.2 + 90)), (1, .int x1), (2, .ref (G.2.2 + 5)), (3, .ref (G.2.2 + 1)), (4, .int x4), (5, .int x5), (6, .int x6), (7, .int x7)] → BX5_findSteps_31 x1 post n x4 x5 x6 x7 σ → W p l e rm_X5_findSteps s m args below meth c H locs cells slots Q (F0 m 31 ls []) := fun x4 x5 x6 x7  _ _ _ _ => ih0 x4 x5 x6 x7 
    intro x4 x5 x6 x7  σ H locs ls S hl h
    refine lv_iload C.1 C.2.1 dX5_findSteps_31 (lv_at hl 7 rfl) ?_
    refine lv_aload_n C.1 C.2.1 dX5_findSteps_33 rfl (lv_at hl 2 rfl) ?_
    refine gn_X1_2 C nf_X5_73 kd_5 S dX5_findSteps_34 ?_
    refine lv_icmp_ge (tgt := 122) C.1 C.2.1 dX5_findSteps_37 (by decide) (fun c8 => ?_) (fun c8 => ?_)
    · replace h := h.1 c8
      refine lv_iload C.1 C.2.1 dX5_findSteps_122 (lv_at hl 6 rfl) ?_
      exact hR _ _ _ _ _ _ dX5_findSteps_124 h S
    · replace h := h.2 c8
      refine lv_iload C.1 C.2.1 dX5_findSteps_40 (lv_at hl 5 rfl) ?_
      refine lv_iload C.1 C.2.1 dX5_findSteps_42 (lv_at hl 7 rfl) ?_
      refine k_i (r_SN (As := [.int x5, .int x7]) (rest := []) C hml (c_X6_bitOf l G x5 x7 σ _ h) kM_X6_bitOf st_X6_bitOf nm_X5_74 ⟨rfl, rfl⟩ ⟨Nat.le_of_ble_eq_true rfl, Nat.le_of_ble_eq_true rfl⟩ hcs S.v rfl hl.1 rfl (Nat.le_of_ble_eq_true rfl) dX5_findSteps_44) S (fun r10 σ9 H locs h S => ?_)
      refine lv_iconst (v := (1 : Int32)) C.1 C.2.1 dX5_findSteps_47 (by decide) ?_
      refine lv_icmp_ne (tgt := 66) C.1 C.2.1 dX5_findSteps_48 (by decide) (fun c11 => ?_) (fun c11 => ?_)
      · replace h := h.1 c11
        refine lv_bipush (v := (-9 : Int32)) C.1 C.2.1 dX5_findSteps_66 (by decide) ?_
        exact TX5_findSteps_68 C hml hcs hR ih x4 x5 x6 x7 ((-9 : Int32)) S (lv_sub hl [0, 1, 2, 3, 4, 5, 6, 7] rfl) h
      · replace h := h.2 c11
        refine lv_aload_n C.1 C.2.1 dX5_findSteps_51 rfl (lv_at hl 3 rfl) ?_
        refine lv_aload_n C.1 C.2.1 dX5_findSteps_52 rfl (lv_at hl 2 rfl) ?_
        refine lv_iload C.1 C.2.1 dX5_findSteps_53 (lv_at hl 7 rfl) ?_
        refine k_r (kd := 3) (r_VN (As := [.int x7]) (rest := [.ref (G.2.2 + 1)]) C hml (c_X1_at l G 5 x7 σ9 _ kd_5 h) kM_X1_at im_X1_at se_X1_at nm_X5_78 ⟨rfl, rfl⟩ ⟨Nat.le_of_ble_eq_true rfl, Nat.le_of_ble_eq_true rfl⟩ hcs S.v kd_5 (by decide) (T := TX1) (N := 4) rfl rfl hl.1 rfl (Nat.le_of_ble_eq_true rfl) dX5_findSteps_55) S (fun q13 σ12 H locs hq13 h S => ?_)
        replace h := h hq13
        refine lv_iload C.1 C.2.1 dX5_findSteps_58 (lv_at hl 4 rfl) ?_
        refine k_i (r_VN (As := [.ref (G.2.2 + q13), .int x4]) (rest := []) C hml (c_X0_endOf l G 1 q13 x4 σ12 _ kd_1 hq13 h) kM_X0_endOf im_X0_endOf se_X0_endOf nm_X5_82 ⟨rfl, rfl⟩ ⟨Nat.le_of_ble_eq_true rfl, Nat.le_of_ble_eq_true rfl⟩ hcs S.v kd_1 (by decide) (T := TX0) (N := 2) rfl rfl hl.1 rfl (Nat.le_of_ble_eq_true rfl) dX5_findSteps_60) S (fun r15 σ14 H locs h S => ?_)
        refine lv_goto (tgt := 68) C.1 C.2.1 dX5_findSteps_63 (by decide) ?_
        exact TX5_findSteps_68 C hml hcs hR ih x4 x5 x6 x7 r15 S (lv_sub hl [0, 1, 2, 3, 4, 5, 6, 7] rfl) h
theorem kM_X5_findSteps : s_M yX5_findSteps cX5_findSteps 10 (some .int) 3 := ⟨co_X5_findSteps, in_X5, by decide, by decide, by decide +kernel⟩
set_option maxHeartbeats 4000000 in
set_option maxRecDepth 100000 in
theorem c_X5_findSteps (l : Launch) (G : s_G) (x1 : Int32) (σ : Sg) (post : Int32 → Sg → Prop) (h : wpX5_findSteps x1 σ post) : Met l yX5_findSteps (wsU yX5_findSteps cX5_findSteps 10 (some .int)) rm_X5_findSteps (va_Pc [.ref (G.2.2 + 90), .int x1, .ref (G.2.2 + 5), .ref (G.2.2 + 1)] (s_Pre G σ)) (va_Qi post (s_B G) (s_A G.2.2)) 0 0 (s_A G.2.2) := by
  refine Met.ofW (cc := cX5_findSteps) (maxL := 10) (ret := (some .int)) (by decide) rfl ?_
  intro p e s m args below meth c s₁ B hml hv
  obtain ⟨rfl, hP, hrok, hK, hN⟩ := hv
  have C : s_C G p s (([.ref (G.2.2 + 90), .int x1, .ref (G.2.2 + 5), .ref (G.2.2 + 1)] : List Value).toArray) m c RX5 cX5_findSteps := ⟨B.exec, B.bytes, findClass_of_methodNamed B.named, fun w hw => atoms_spec (ws := wsU yX5_findSteps cX5_findSteps 10 (some .int)) B.pre w (List.mem_cons_of_mem _ hw), hK, hN⟩
  have hr := B.returns
  have hlocks := B.notSynchronized
  have S : s_St G σ s.heap s.heap [] := ⟨hP, va_S.rf, hrok⟩
  have hcs : 0 ≤ (rm_X5_findSteps).cells ∧ 0 ≤ (rm_X5_findSteps).slots := ⟨Nat.le_refl 0, Nat.le_refl 0⟩
  have hR : ∀ (r : Int32) (σ1 : Sg) (H : Heap) (locs : List Loc) (pc : Nat) (ls : Array Slot), decode cX5_findSteps pc = .ok (.ireturn, 1) → post r σ1 → s_St G σ1 s.heap H locs → W p l e rm_X5_findSteps s m ([.ref (G.2.2 + 90), .int x1, .ref (G.2.2 + 5), .ref (G.2.2 + 1)] : List Value).toArray below meth c H locs 0 0 (MQ below (va_Qi post (s_B G) (s_A G.2.2)) ([.ref (G.2.2 + 90), .int x1, .ref (G.2.2 + 5), .ref (G.2.2 + 1)] : List Value).toArray s 0 0 (s_A G.2.2)) (F0 m pc ls [.int r]) := fun _ _ _ _ _ _ hd hp S => ret_i C hr hlocks hd hp S
  have hl := lv_entry ([.ref (G.2.2 + 90), .int x1, .ref (G.2.2 + 5), .ref (G.2.2 + 1)]) (n := 10) (Nat.le_of_ble_eq_true rfl)
  rw [lg_entry_eq]
  generalize (lg_sl ([.ref (G.2.2 + 90), .int x1, .ref (G.2.2 + 5), .ref (G.2.2 + 1)]) ++ List.replicate (10 - (lg_sl ([.ref (G.2.2 + 90), .int x1, .ref (G.2.2 + 5), .ref (G.2.2 + 1)])).length) Slot.unset).toArray = ls at hl ⊢
  have hl : lv_has ls 10 [(0, .ref (G.2.2 + 90)), (1, .int x1), (2, .ref (G.2.2 + 5)), (3, .ref (G.2.2 + 1))] := hl
  unfold wpX5_findSteps at h
  refine lv_aload_n C.1 C.2.1 dX5_findSteps_0 rfl (lv_at hl 0 rfl) ?_
  refine lv_iload_n C.1 C.2.1 dX5_findSteps_1 rfl (lv_at hl 1 rfl) ?_
  refine lv_aload_n C.1 C.2.1 dX5_findSteps_2 rfl (lv_at hl 2 rfl) ?_
  refine lv_aload_n C.1 C.2.1 dX5_findSteps_3 rfl (lv_at hl 3 rfl) ?_
  refine k_i (r_V (As := [.int x1, .ref (G.2.2 + 5), .ref (G.2.2 + 1)]) (rest := []) C hml (c_X5_startBehind l G x1 σ _ h) kM_X5_startBehind im_X5_startBehind se_X5_startBehind ml_X5_67 ⟨rfl, rfl⟩ ⟨Nat.le_of_ble_eq_true rfl, Nat.le_of_ble_eq_true rfl⟩ hcs S.v kd_90 (by decide) (T := TX5) (N := 8) rfl rfl hl.1 rfl (Nat.le_of_ble_eq_true rfl) dX5_findSteps_4) S (fun r17 σ16 H locs h S => ?_)
  refine lv_istore (lv' := [(4, .int r17), (0, .ref (G.2.2 + 90)), (1, .int x1), (2, .ref (G.2.2 + 5)), (3, .ref (G.2.2 + 1))]) C.1 C.2.1 dX5_findSteps_7 hl (by decide) rfl (fun ls hl => ?_)
  refine lv_iload C.1 C.2.1 dX5_findSteps_9 (lv_at hl 0 rfl) ?_
  refine lv_if_lt (tgt := 22) C.1 C.2.1 dX5_findSteps_11 (by decide) (fun c18 => ?_) (fun c18 => ?_)
  · replace h := h.1 c18
    refine lv_iconst (v := (0 : Int32)) C.1 C.2.1 dX5_findSteps_22 (by decide) ?_
    refine lv_istore (lv' := [(5, .int (0 : Int32)), (4, .int r17), (0, .ref (G.2.2 + 90)), (1, .int x1), (2, .ref (G.2.2 + 5)), (3, .ref (G.2.2 + 1))]) C.1 C.2.1 dX5_findSteps_23 hl (by decide) rfl (fun ls hl => ?_)
    refine lv_iconst (v := (0 : Int32)) C.1 C.2.1 dX5_findSteps_25 (by decide) ?_
    refine lv_istore (lv' := [(6, .int (0 : Int32)), (5, .int (0 : Int32)), (4, .int r17), (0, .ref (G.2.2 + 90)), (1, .int x1), (2, .ref (G.2.2 + 5)), (3, .ref (G.2.2 + 1))]) C.1 C.2.1 dX5_findSteps_26 hl (by decide) rfl (fun ls hl => ?_)
    refine lv_iconst (v := (0 : Int32)) C.1 C.2.1 dX5_findSteps_28 (by decide) ?_
    refine lv_istore (lv' := [(7, .int (0 : Int32)), (6, .int (0 : Int32)), (5, .int (0 : Int32)), (4, .int r17), (0, .ref (G.2.2 + 90)), (1, .int x1), (2, .ref (G.2.2 + 5)), (3, .ref (G.2.2 + 1))]) C.1 C.2.1 dX5_findSteps_29 hl (by decide) rfl (fun ls hl => ?_)
    obtain ⟨nf, h⟩ := h
    exact TX5_findSteps_31 C hml hcs hR nf r17 ((0 : Int32)) ((0 : Int32)) ((0 : Int32)) S (lv_sub hl [4, 5, 6, 7, 3, 2, 1, 0] rfl) h
  · replace h := h.2 c18
    refine lv_aload_n C.1 C.2.1 dX5_findSteps_14 rfl (lv_at hl 3 rfl) ?_
    refine lv_iload_n C.1 C.2.1 dX5_findSteps_15 rfl (lv_at hl 2 rfl) ?_
    refine k_i (r_VN (As := [.int x1]) (rest := []) C hml (c_X1_followers l G 5 x1 σ16 _ kd_5 h) kM_X1_followers im_X1_followers se_X1_followers nm_X5_70 ⟨rfl, rfl⟩ ⟨Nat.le_of_ble_eq_true rfl, Nat.le_of_ble_eq_true rfl⟩ hcs S.v kd_5 (by decide) (T := TX1) (N := 4) rfl rfl hl.1 rfl (Nat.le_of_ble_eq_true rfl) dX5_findSteps_16) S (fun r20 σ19 H locs h S => ?_)
    refine lv_goto (tgt := 23) C.1 C.2.1 dX5_findSteps_19 (by decide) ?_
    refine lv_istore (lv' := [(5, .int r20), (4, .int r17), (0, .ref (G.2.2 + 90)), (1, .int x1), (2, .ref (G.2.2 + 5)), (3, .ref (G.2.2 + 1))]) C.1 C.2.1 dX5_findSteps_23 hl (by decide) rfl (fun ls hl => ?_)
    refine lv_iconst (v := (0 : Int32)) C.1 C.2.1 dX5_findSteps_25 (by decide) ?_
    refine lv_istore (lv' := [(6, .int (0 : Int32)), (5, .int r20), (4, .int r17), (0, .ref (G.2.2 + 90)), (1, .int x1), (2, .ref (G.2.2 + 5)), (3, .ref (G.2.2 + 1))]) C.1 C.2.1 dX5_findSteps_26 hl (by decide) rfl (fun ls hl => ?_)
    refine lv_iconst (v := (0 : Int32)) C.1 C.2.1 dX5_findSteps_28 (by decide) ?_
    refine lv_istore (lv' := [(7, .int (0 : Int32)), (6, .int (0 : Int32)), (5, .int r20), (4, .int r17), (0, .ref (G.2.2 + 90)), (1, .int x1), (2, .ref (G.2.2 + 5)), (3, .ref (G.2.2 + 1))]) C.1 C.2.1 dX5_findSteps_29 hl (by decide) rfl (fun ls hl => ?_)
    obtain ⟨nf, h⟩ := h
    exact TX5_findSteps_31 C hml hcs hR nf r17 r20 ((0 : Int32)) ((0 : Int32)) S (lv_sub hl [4, 5, 6, 7, 3, 2, 1, 0] rfl) h
/-! X5_findEnds -/
abbrev rm_X5_findEnds : Room := { frames := 4, cells := 0, slots := 0, locals := 98 }
def BX5_findEnds_51  (post : Sg → Prop) : Nat → Int32 → Int32 → Sg → Prop
  | 0, _, _, _ => False
  | n + 1, x3, x4, σ => (((x3 ≤ x4) → post σ) ∧ ((¬ x3 ≤ x4) → ((((4096 : Int32) ≤ x4) → post σ) ∧ ((¬ (4096 : Int32) ≤ x4) → (vp_in x4 4096 ∧ (∀ σ3 : Sg, σ3 = setI σ 92 (x4).toNatClampNeg ((0 : Int32)) → wpX5_endOf x4 σ3 (fun r6 σ5 => (((r6 < 0) → BX5_findEnds_51 post n x3 ((x4 + 1)) σ5) ∧ ((¬ r6 < 0) → wpX5_findSteps x4 σ5 (fun r9 σ8 => (vp_in x4 4096 ∧ (∀ σ10 : Sg, σ10 = setI σ8 92 (x4).toNatClampNeg r9 → BX5_findEnds_51 post n x3 ((x4 + 1)) σ10))))))))))))
def BX5_findEnds_8  (post : Sg → Prop) : Nat → Int32 → Int32 → Sg → Prop
  | 0, _, _, _ => False
  | n + 1, x3, x4, σ => (((x3 ≤ x4) → ∃ nf, BX5_findEnds_51 post nf x3 ((0 : Int32)) σ) ∧ ((¬ x3 ≤ x4) → ((((4096 : Int32) ≤ x4) → ∃ nf, BX5_findEnds_51 post nf x3 ((0 : Int32)) σ) ∧ ((¬ (4096 : Int32) ≤ x4) → (((¬ x4 = 0) → (vp_in x4 4096 ∧ (∀ σ15 : Sg, σ15 = setI σ 91 (x4).toNatClampNeg ((-9 : Int32)) → BX5_findEnds_8 post n x3 ((x4 + 1)) σ15))) ∧ ((x4 = 0) → (vp_in x4 4096 ∧ (∀ σ17 : Sg, σ17 = setI σ 91 (x4).toNatClampNeg ((0 : Int32)) → BX5_findEnds_8 post n x3 ((x4 + 1)) σ17))))))))
def wpX5_findEnds  (σ : Sg) (post : Sg → Prop) : Prop := wpX1_tallies 5 σ (fun r20 σ19 => ∃ nf, BX5_findEnds_8 post nf r20 ((0 : Int32)) σ19)
set_option maxHeartbeats 4000000 in
set_option maxRecDepth 100000 in
theorem TX5_findEnds_51 (C : s_C G p s args m c RX5 cX5_findEnds) (hml : c.maxLocals = 5) (hcs : cells ≤ (rm_X5_findEnds).cells ∧ slots ≤ (rm_X5_findEnds).slots)  {post : Sg → Prop} (hR : ∀ (σ1 : Sg) (H : Heap) (locs : List Loc) (pc : Nat) (ls : Array Slot), decode cX5_findEnds pc = .ok (.return_, 1) → post σ1 → s_St G σ1 H0 H locs → W p l e rm_X5_findEnds s m args below meth c H locs cells slots Q (F0 m pc ls [])) : ∀ (n : Nat) (x3 : Int32) (x4 : Int32), ∀ {σ : Sg} {H : Heap} {locs : List Loc} {ls : Array Slot}, s_St G σ H0 H locs → lv_has ls 5 [(0, .ref (G.2.2 + 90)), (1, .ref (G.2.2 + 5)), (2, .ref (G.2.2 + 1)), (3, .int x3), (4, .int x4)] → BX5_findEnds_51 post n x3 x4 σ → W p l e rm_X5_findEnds s m args below meth c H locs cells slots Q (F0 m 51 ls []) := by
  intro n
  induction n with
  | zero =>
    intro x3 x4  σ H locs ls S hl h
    exact absurd h (fun h => h)
  | succ n ih0 =>
    have ih : ∀ (x3 : Int32) (x4 : Int32), ∀ (σ : Sg) (H : Heap) (locs : List Loc) (ls : Array Slot), s_St G σ H0 H locs → lv_has ls 5 [(0, .ref (G.2.2 + 90)), (1, .ref (G.2.2 + 5)), (2, .ref (G.2.2 + 1)), (3, .int x3), (4, .int x4)] → BX5_findEnds_51 post n x3 x4 σ → W p l e rm_X5_findEnds s m args below meth c H locs cells slots Q (F0 m 51 ls []) := fun x3 x4  _ _ _ _ => ih0 x3 x4 
    intro x3 x4  σ H locs ls S hl h
    refine lv_iload C.1 C.2.1 dX5_findEnds_51 (lv_at hl 4 rfl) ?_
    refine lv_iload_n C.1 C.2.1 dX5_findEnds_53 rfl (lv_at hl 3 rfl) ?_
    refine lv_icmp_ge (tgt := 105) C.1 C.2.1 dX5_findEnds_54 (by decide) (fun c1 => ?_) (fun c1 => ?_)
    · replace h := h.1 c1
      exact hR _ _ _ _ _ dX5_findEnds_105 h S
    · replace h := h.2 c1
      refine lv_iload C.1 C.2.1 dX5_findEnds_57 (lv_at hl 4 rfl) ?_
      refine lv_aload_n C.1 C.2.1 dX5_findEnds_59 rfl (lv_at hl 0 rfl) ?_
      refine g_X5_1 C fl_X5_15 kd_90 S fn_90_1 dX5_findEnds_60 ?_
      refine a_len8 C kd_92 S (v := (4096 : Int32)) (by rw [ln_92]; rfl) dX5_findEnds_63 ?_
      refine lv_icmp_ge (tgt := 105) C.1 C.2.1 dX5_findEnds_64 (by decide) (fun c2 => ?_) (fun c2 => ?_)
      · replace h := h.1 c2
        exact hR _ _ _ _ _ dX5_findEnds_105 h S
      · replace h := h.2 c2
        refine lv_aload_n C.1 C.2.1 dX5_findEnds_67 rfl (lv_at hl 0 rfl) ?_
        refine g_X5_1 C fl_X5_15 kd_90 S fn_90_1 dX5_findEnds_68 ?_
        refine lv_iload C.1 C.2.1 dX5_findEnds_71 (lv_at hl 4 rfl) ?_
        refine lv_iconst (v := (0 : Int32)) C.1 C.2.1 dX5_findEnds_73 (by decide) ?_
        refine a_ist C kd_92 S ln_92 h.1 dX5_findEnds_74 (fun σ3 H locs e4 S => ?_)
        replace h := h.2 σ3 e4
        refine lv_aload_n C.1 C.2.1 dX5_findEnds_75 rfl (lv_at hl 0 rfl) ?_
        refine lv_iload C.1 C.2.1 dX5_findEnds_76 (lv_at hl 4 rfl) ?_
        refine k_i (r_V (As := [.int x4]) (rest := []) C hml (c_X5_endOf l G x4 σ3 _ h) kM_X5_endOf im_X5_endOf se_X5_endOf ml_X5_59 ⟨rfl, rfl⟩ ⟨Nat.le_of_ble_eq_true rfl, Nat.le_of_ble_eq_true rfl⟩ hcs S.v kd_90 (by decide) (T := TX5) (N := 8) rfl rfl hl.1 rfl (Nat.le_of_ble_eq_true rfl) dX5_findEnds_78) S (fun r6 σ5 H locs h S => ?_)
        refine lv_if_lt (tgt := 99) C.1 C.2.1 dX5_findEnds_81 (by decide) (fun c7 => ?_) (fun c7 => ?_)
        · replace h := h.1 c7
          refine lv_iinc (v := (x4 + 1)) (lv' := [(4, .int (x4 + 1)), (0, .ref (G.2.2 + 90)), (1, .ref (G.2.2 + 5)), (2, .ref (G.2.2 + 1)), (3, .int x3)]) C.1 C.2.1 dX5_findEnds_99 hl (k := 4) rfl rfl (by decide) rfl (fun ls hl => ?_)
          refine lv_goto (tgt := 51) C.1 C.2.1 dX5_findEnds_102 (by decide) ?_
          exact ih x3 ((x4 + 1)) _ _ _ _ S (lv_sub hl [1, 2, 3, 4, 0] rfl) h
        · replace h := h.2 c7
          refine lv_aload_n C.1 C.2.1 dX5_findEnds_84 rfl (lv_at hl 0 rfl) ?_
          refine g_X5_1 C fl_X5_15 kd_90 S fn_90_1 dX5_findEnds_85 ?_
          refine lv_iload C.1 C.2.1 dX5_findEnds_88 (lv_at hl 4 rfl) ?_
          refine lv_aload_n C.1 C.2.1 dX5_findEnds_90 rfl (lv_at hl 0 rfl) ?_
          refine lv_iload C.1 C.2.1 dX5_findEnds_91 (lv_at hl 4 rfl) ?_
          refine lv_aload_n C.1 C.2.1 dX5_findEnds_93 rfl (lv_at hl 1 rfl) ?_
          refine lv_aload_n C.1 C.2.1 dX5_findEnds_94 rfl (lv_at hl 2 rfl) ?_
          refine k_i (r_V (As := [.int x4, .ref (G.2.2 + 5), .ref (G.2.2 + 1)]) (rest := [.int x4, .ref (G.2.2 + 92)]) C hml (c_X5_findSteps l G x4 σ5 _ h) kM_X5_findSteps im_X5_findSteps se_X5_findSteps ml_X5_63 ⟨rfl, rfl⟩ ⟨Nat.le_of_ble_eq_true rfl, Nat.le_of_ble_eq_true rfl⟩ hcs S.v kd_90 (by decide) (T := TX5) (N := 8) rfl rfl hl.1 rfl (Nat.le_of_ble_eq_true rfl) dX5_findEnds_95) S (fun r9 σ8 H locs h S => ?_)
          refine a_ist C kd_92 S ln_92 h.1 dX5_findEnds_98 (fun σ10 H locs e11 S => ?_)
          replace h := h.2 σ10 e11
          refine lv_iinc (v := (x4 + 1)) (lv' := [(4, .int (x4 + 1)), (0, .ref (G.2.2 + 90)), (1, .ref (G.2.2 + 5)), (2, .ref (G.2.2 + 1)), (3, .int x3)]) C.1 C.2.1 dX5_findEnds_99 hl (k := 4) rfl rfl (by decide) rfl (fun ls hl => ?_)
          refine lv_goto (tgt := 51) C.1 C.2.1 dX5_findEnds_102 (by decide) ?_
          exact ih x3 ((x4 + 1)) _ _ _ _ S (lv_sub hl [1, 2, 3, 4, 0] rfl) h
set_option maxHeartbeats 4000000 in
set_option maxRecDepth 100000 in
theorem TX5_findEnds_8 (C : s_C G p s args m c RX5 cX5_findEnds) (hml : c.maxLocals = 5) (hcs : cells ≤ (rm_X5_findEnds).cells ∧ slots ≤ (rm_X5_findEnds).slots)  {post : Sg → Prop} (hR : ∀ (σ1 : Sg) (H : Heap) (locs : List Loc) (pc : Nat) (ls : Array Slot), decode cX5_findEnds pc = .ok (.return_, 1) → post σ1 → s_St G σ1 H0 H locs → W p l e rm_X5_findEnds s m args below meth c H locs cells slots Q (F0 m pc ls [])) : ∀ (n : Nat) (x3 : Int32) (x4 : Int32), ∀ {σ : Sg} {H : Heap} {locs : List Loc} {ls : Array Slot}, s_St G σ H0 H locs → lv_has ls 5 [(0, .ref (G.2.2 + 90)), (1, .ref (G.2.2 + 5)), (2, .ref (G.2.2 + 1)), (3, .int x3), (4, .int x4)] → BX5_findEnds_8 post n x3 x4 σ → W p l e rm_X5_findEnds s m args below meth c H locs cells slots Q (F0 m 8 ls []) := by
  intro n
  induction n with
  | zero =>
    intro x3 x4  σ H locs ls S hl h
    exact absurd h (fun h => h)
  | succ n ih0 =>
    have ih : ∀ (x3 : Int32) (x4 : Int32), ∀ (σ : Sg) (H : Heap) (locs : List Loc) (ls : Array Slot), s_St G σ H0 H locs → lv_has ls 5 [(0, .ref (G.2.2 + 90)), (1, .ref (G.2.2 + 5)), (2, .ref (G.2.2 + 1)), (3, .int x3), (4, .int x4)] → BX5_findEnds_8 post n x3 x4 σ → W p l e rm_X5_findEnds s m args below meth c H locs cells slots Q (F0 m 8 ls []) := fun x3 x4  _ _ _ _ => ih0 x3 x4 
    intro x3 x4  σ H locs ls S hl h
    refine lv_iload C.1 C.2.1 dX5_findEnds_8 (lv_at hl 4 rfl) ?_
    refine lv_iload_n C.1 C.2.1 dX5_findEnds_10 rfl (lv_at hl 3 rfl) ?_
    refine lv_icmp_ge (tgt := 48) C.1 C.2.1 dX5_findEnds_11 (by decide) (fun c12 => ?_) (fun c12 => ?_)
    · replace h := h.1 c12
      refine lv_iconst (v := (0 : Int32)) C.1 C.2.1 dX5_findEnds_48 (by decide) ?_
      refine lv_istore (lv' := [(4, .int (0 : Int32)), (0, .ref (G.2.2 + 90)), (1, .ref (G.2.2 + 5)), (2, .ref (G.2.2 + 1)), (3, .int x3)]) C.1 C.2.1 dX5_findEnds_49 hl (by decide) rfl (fun ls hl => ?_)
      obtain ⟨nf, h⟩ := h
      exact TX5_findEnds_51 C hml hcs hR nf x3 ((0 : Int32)) S (lv_sub hl [1, 2, 3, 4, 0] rfl) h
    · replace h := h.2 c12
      refine lv_iload C.1 C.2.1 dX5_findEnds_14 (lv_at hl 4 rfl) ?_
      refine lv_aload_n C.1 C.2.1 dX5_findEnds_16 rfl (lv_at hl 0 rfl) ?_
      refine g_X5_0 C fl_X5_9 kd_90 S fn_90_0 dX5_findEnds_17 ?_
      refine a_len8 C kd_91 S (v := (4096 : Int32)) (by rw [ln_91]; rfl) dX5_findEnds_20 ?_
      refine lv_icmp_ge (tgt := 48) C.1 C.2.1 dX5_findEnds_21 (by decide) (fun c13 => ?_) (fun c13 => ?_)
      · replace h := h.1 c13
        refine lv_iconst (v := (0 : Int32)) C.1 C.2.1 dX5_findEnds_48 (by decide) ?_
        refine lv_istore (lv' := [(4, .int (0 : Int32)), (0, .ref (G.2.2 + 90)), (1, .ref (G.2.2 + 5)), (2, .ref (G.2.2 + 1)), (3, .int x3)]) C.1 C.2.1 dX5_findEnds_49 hl (by decide) rfl (fun ls hl => ?_)
        obtain ⟨nf, h⟩ := h
        exact TX5_findEnds_51 C hml hcs hR nf x3 ((0 : Int32)) S (lv_sub hl [1, 2, 3, 4, 0] rfl) h
      · replace h := h.2 c13
        refine lv_aload_n C.1 C.2.1 dX5_findEnds_24 rfl (lv_at hl 0 rfl) ?_
        refine g_X5_0 C fl_X5_9 kd_90 S fn_90_0 dX5_findEnds_25 ?_
        refine lv_iload C.1 C.2.1 dX5_findEnds_28 (lv_at hl 4 rfl) ?_
        refine lv_iload C.1 C.2.1 dX5_findEnds_30 (lv_at hl 4 rfl) ?_
        refine lv_if_ne (tgt := 39) C.1 C.2.1 dX5_findEnds_32 (by decide) (fun c14 => ?_) (fun c14 => ?_)
        · replace h := h.1 c14
          refine lv_bipush (v := (-9 : Int32)) C.1 C.2.1 dX5_findEnds_39 (by decide) ?_
          refine a_ist C kd_91 S ln_91 h.1 dX5_findEnds_41 (fun σ15 H locs e16 S => ?_)
          replace h := h.2 σ15 e16
          refine lv_iinc (v := (x4 + 1)) (lv' := [(4, .int (x4 + 1)), (0, .ref (G.2.2 + 90)), (1, .ref (G.2.2 + 5)), (2, .ref (G.2.2 + 1)), (3, .int x3)]) C.1 C.2.1 dX5_findEnds_42 hl (k := 4) rfl rfl (by decide) rfl (fun ls hl => ?_)
          refine lv_goto (tgt := 8) C.1 C.2.1 dX5_findEnds_45 (by decide) ?_
          exact ih x3 ((x4 + 1)) _ _ _ _ S (lv_sub hl [1, 2, 3, 4, 0] rfl) h
        · replace h := h.2 c14
          refine lv_iconst (v := (0 : Int32)) C.1 C.2.1 dX5_findEnds_35 (by decide) ?_
          refine lv_goto (tgt := 41) C.1 C.2.1 dX5_findEnds_36 (by decide) ?_
          refine a_ist C kd_91 S ln_91 h.1 dX5_findEnds_41 (fun σ17 H locs e18 S => ?_)
          replace h := h.2 σ17 e18
          refine lv_iinc (v := (x4 + 1)) (lv' := [(4, .int (x4 + 1)), (0, .ref (G.2.2 + 90)), (1, .ref (G.2.2 + 5)), (2, .ref (G.2.2 + 1)), (3, .int x3)]) C.1 C.2.1 dX5_findEnds_42 hl (k := 4) rfl rfl (by decide) rfl (fun ls hl => ?_)
          refine lv_goto (tgt := 8) C.1 C.2.1 dX5_findEnds_45 (by decide) ?_
          exact ih x3 ((x4 + 1)) _ _ _ _ S (lv_sub hl [1, 2, 3, 4, 0] rfl) h
theorem kM_X5_findEnds : s_M yX5_findEnds cX5_findEnds 5 none 2 := ⟨co_X5_findEnds, in_X5, by decide, by decide, by decide +kernel⟩
set_option maxHeartbeats 4000000 in
set_option maxRecDepth 100000 in
theorem c_X5_findEnds (l : Launch) (G : s_G)  (σ : Sg) (post : Sg → Prop) (h : wpX5_findEnds σ post) : Met l yX5_findEnds (wsU yX5_findEnds cX5_findEnds 5 none) rm_X5_findEnds (va_Pc [.ref (G.2.2 + 90), .ref (G.2.2 + 5), .ref (G.2.2 + 1)] (s_Pre G σ)) (va_Qv post (s_B G) (s_A G.2.2)) 0 0 (s_A G.2.2) := by
  refine Met.ofW (cc := cX5_findEnds) (maxL := 5) (ret := none) (by decide) rfl ?_
  intro p e s m args below meth c s₁ B hml hv
  obtain ⟨rfl, hP, hrok, hK, hN⟩ := hv
  have C : s_C G p s (([.ref (G.2.2 + 90), .ref (G.2.2 + 5), .ref (G.2.2 + 1)] : List Value).toArray) m c RX5 cX5_findEnds := ⟨B.exec, B.bytes, findClass_of_methodNamed B.named, fun w hw => atoms_spec (ws := wsU yX5_findEnds cX5_findEnds 5 none) B.pre w (List.mem_cons_of_mem _ hw), hK, hN⟩
  have hr := B.returns
  have hlocks := B.notSynchronized
  have S : s_St G σ s.heap s.heap [] := ⟨hP, va_S.rf, hrok⟩
  have hcs : 0 ≤ (rm_X5_findEnds).cells ∧ 0 ≤ (rm_X5_findEnds).slots := ⟨Nat.le_refl 0, Nat.le_refl 0⟩
  have hR : ∀ (σ1 : Sg) (H : Heap) (locs : List Loc) (pc : Nat) (ls : Array Slot), decode cX5_findEnds pc = .ok (.return_, 1) → post σ1 → s_St G σ1 s.heap H locs → W p l e rm_X5_findEnds s m ([.ref (G.2.2 + 90), .ref (G.2.2 + 5), .ref (G.2.2 + 1)] : List Value).toArray below meth c H locs 0 0 (MQ below (va_Qv post (s_B G) (s_A G.2.2)) ([.ref (G.2.2 + 90), .ref (G.2.2 + 5), .ref (G.2.2 + 1)] : List Value).toArray s 0 0 (s_A G.2.2)) (F0 m pc ls []) := fun _ _ _ _ _ hd hp S => ret_v C hr hlocks hd hp S
  have hl := lv_entry ([.ref (G.2.2 + 90), .ref (G.2.2 + 5), .ref (G.2.2 + 1)]) (n := 5) (Nat.le_of_ble_eq_true rfl)
  rw [lg_entry_eq]
  generalize (lg_sl ([.ref (G.2.2 + 90), .ref (G.2.2 + 5), .ref (G.2.2 + 1)]) ++ List.replicate (5 - (lg_sl ([.ref (G.2.2 + 90), .ref (G.2.2 + 5), .ref (G.2.2 + 1)])).length) Slot.unset).toArray = ls at hl ⊢
  have hl : lv_has ls 5 [(0, .ref (G.2.2 + 90)), (1, .ref (G.2.2 + 5)), (2, .ref (G.2.2 + 1))] := hl
  unfold wpX5_findEnds at h
  refine lv_aload_n C.1 C.2.1 dX5_findEnds_0 rfl (lv_at hl 1 rfl) ?_
  refine k_i (r_VN (As := []) (rest := []) C hml (c_X1_tallies l G 5 σ _ kd_5 h) kM_X1_tallies im_X1_tallies se_X1_tallies nm_X5_53 ⟨rfl, rfl⟩ ⟨Nat.le_of_ble_eq_true rfl, Nat.le_of_ble_eq_true rfl⟩ hcs S.v kd_5 (by decide) (T := TX1) (N := 4) rfl rfl hl.1 rfl (Nat.le_of_ble_eq_true rfl) dX5_findEnds_1) S (fun r20 σ19 H locs h S => ?_)
  refine lv_istore_n (lv' := [(3, .int r20), (0, .ref (G.2.2 + 90)), (1, .ref (G.2.2 + 5)), (2, .ref (G.2.2 + 1))]) C.1 C.2.1 dX5_findEnds_4 rfl hl (by decide) rfl (fun ls hl => ?_)
  refine lv_iconst (v := (0 : Int32)) C.1 C.2.1 dX5_findEnds_5 (by decide) ?_
  refine lv_istore (lv' := [(4, .int (0 : Int32)), (3, .int r20), (0, .ref (G.2.2 + 90)), (1, .ref (G.2.2 + 5)), (2, .ref (G.2.2 + 1))]) C.1 C.2.1 dX5_findEnds_6 hl (by decide) rfl (fun ls hl => ?_)
  obtain ⟨nf, h⟩ := h
  exact TX5_findEnds_8 C hml hcs hR nf r20 ((0 : Int32)) S (lv_sub hl [2, 3, 4, 1, 0] rfl) h
/-! X0_numberIn -/
abbrev rm_X0_numberIn : Room := { frames := 1, cells := 0, slots := 0, locals := 21 }
def BX0_numberIn_23 (k0 : Nat) (k1 : Nat) (x2 : Int32) (x3 : Int32) (post : Int32 → Sg → Prop) : Nat → Int32 → Int32 → Sg → Prop
  | 0, _, _, _ => False
  | n + 1, x5, x6, σ => (((x3 ≤ x6) → post x5 σ) ∧ ((¬ x3 ≤ x6) → ((((σ.1 k0 1) ≤ x6) → post x5 σ) ∧ ((¬ (σ.1 k0 1) ≤ x6) → wpX0_at k0 x6 σ (fun r4 σ3 => BX0_numberIn_23 k0 k1 x2 x3 post n (((((10 : Int32) * x5) + r4) - (48 : Int32))) ((x6 + 1)) σ3)))))
def wpX0_numberIn (k0 : Nat) (k1 : Nat) (x2 : Int32) (x3 : Int32) (σ : Sg) (post : Int32 → Sg → Prop) : Prop := wpX3_wordLength k1 σ (fun r6 σ5 => (((¬ (σ5.1 k1 1) = (1 : Int32)) → (((¬ (σ5.1 k1 1) = (2 : Int32)) → post ((1 : Int32)) σ5) ∧ (((σ5.1 k1 1) = (2 : Int32)) → wpX0_at k0 ((x2 + r6)) σ5 (fun r10 σ9 => post ((r10 - (65 : Int32))) σ9)))) ∧ (((σ5.1 k1 1) = (1 : Int32)) → ∃ nf, BX0_numberIn_23 k0 k1 x2 x3 post nf ((0 : Int32)) ((x2 + r6)) σ5)))
set_option maxHeartbeats 4000000 in
set_option maxRecDepth 100000 in
theorem TX0_numberIn_23 (C : s_C G p s args m c RX0 cX0_numberIn) (hml : c.maxLocals = 7) (hcs : cells ≤ (rm_X0_numberIn).cells ∧ slots ≤ (rm_X0_numberIn).slots) {k0 : Nat} {k1 : Nat} {x2 : Int32} {x3 : Int32} (hk0 : s_kd k0 = 0) (hk1 : s_kd k1 = 3) {post : Int32 → Sg → Prop} (hR : ∀ (r : Int32) (σ1 : Sg) (H : Heap) (locs : List Loc) (pc : Nat) (ls : Array Slot), decode cX0_numberIn pc = .ok (.ireturn, 1) → post r σ1 → s_St G σ1 H0 H locs → W p l e rm_X0_numberIn s m args below meth c H locs cells slots Q (F0 m pc ls [.int r])) : ∀ (n : Nat) (x5 : Int32) (x6 : Int32), ∀ {σ : Sg} {H : Heap} {locs : List Loc} {ls : Array Slot}, s_St G σ H0 H locs → lv_has ls 7 [(0, .ref (G.2.2 + k0)), (3, .int x3), (5, .int x5), (6, .int x6)] → BX0_numberIn_23 k0 k1 x2 x3 post n x5 x6 σ → W p l e rm_X0_numberIn s m args below meth c H locs cells slots Q (F0 m 23 ls []) := by
  intro n
  induction n with
  | zero =>
    intro x5 x6  σ H locs ls S hl h
    exact absurd h (fun h => h)
  | succ n ih0 =>
    have ih : ∀ (x5 : Int32) (x6 : Int32), ∀ (σ : Sg) (H : Heap) (locs : List Loc) (ls : Array Slot), s_St G σ H0 H locs → lv_has ls 7 [(0, .ref (G.2.2 + k0)), (3, .int x3), (5, .int x5), (6, .int x6)] → BX0_numberIn_23 k0 k1 x2 x3 post n x5 x6 σ → W p l e rm_X0_numberIn s m args below meth c H locs cells slots Q (F0 m 23 ls []) := fun x5 x6  _ _ _ _ => ih0 x5 x6 
    intro x5 x6  σ H locs ls S hl h
    refine lv_iload C.1 C.2.1 dX0_numberIn_23 (lv_at hl 3 rfl) ?_
    refine lv_iload_n C.1 C.2.1 dX0_numberIn_25 rfl (lv_at hl 1 rfl) ?_
    refine lv_icmp_ge (tgt := 61) C.1 C.2.1 dX0_numberIn_26 (by decide) (fun c1 => ?_) (fun c1 => ?_)
    · replace h := h.1 c1
      refine lv_iload C.1 C.2.1 dX0_numberIn_61 (lv_at hl 2 rfl) ?_
      exact hR _ _ _ _ _ _ dX0_numberIn_63 h S
    · replace h := h.2 c1
      refine lv_iload C.1 C.2.1 dX0_numberIn_29 (lv_at hl 3 rfl) ?_
      refine lv_aload_n C.1 C.2.1 dX0_numberIn_31 rfl (lv_at hl 0 rfl) ?_
      refine g_X0_1 C fl_X0_15 hk0 S dX0_numberIn_32 ?_
      refine lv_icmp_ge (tgt := 61) C.1 C.2.1 dX0_numberIn_35 (by decide) (fun c2 => ?_) (fun c2 => ?_)
      · replace h := h.1 c2
        refine lv_iload C.1 C.2.1 dX0_numberIn_61 (lv_at hl 2 rfl) ?_
        exact hR _ _ _ _ _ _ dX0_numberIn_63 h S
      · replace h := h.2 c2
        refine lv_bipush (v := (10 : Int32)) C.1 C.2.1 dX0_numberIn_38 (by decide) ?_
        refine lv_iload C.1 C.2.1 dX0_numberIn_40 (lv_at hl 2 rfl) ?_
        refine lv_imul C.1 C.2.1 dX0_numberIn_42 ?_
        refine lv_aload_n C.1 C.2.1 dX0_numberIn_43 rfl (lv_at hl 0 rfl) ?_
        refine lv_iload C.1 C.2.1 dX0_numberIn_44 (lv_at hl 3 rfl) ?_
        refine k_i (r_V (As := [.int x6]) (rest := [.int ((10 : Int32) * x5)]) C hml (c_X0_at l G k0 x6 σ _ hk0 h) kM_X0_at im_X0_at se_X0_at ml_X0_19 ⟨rfl, rfl⟩ ⟨Nat.le_of_ble_eq_true rfl, Nat.le_of_ble_eq_true rfl⟩ hcs S.v hk0 (by decide) (T := TX0) (N := 2) rfl rfl hl.1 rfl (Nat.le_of_ble_eq_true rfl) dX0_numberIn_46) S (fun r4 σ3 H locs h S => ?_)
        refine lv_iadd C.1 C.2.1 dX0_numberIn_49 ?_
        refine lv_bipush (v := (48 : Int32)) C.1 C.2.1 dX0_numberIn_50 (by decide) ?_
        refine lv_isub C.1 C.2.1 dX0_numberIn_52 ?_
        refine lv_istore (lv' := [(5, .int ((((10 : Int32) * x5) + r4) - (48 : Int32))), (0, .ref (G.2.2 + k0)), (3, .int x3), (6, .int x6)]) C.1 C.2.1 dX0_numberIn_53 hl (by decide) rfl (fun ls hl => ?_)
        refine lv_iinc (v := (x6 + 1)) (lv' := [(6, .int (x6 + 1)), (5, .int ((((10 : Int32) * x5) + r4) - (48 : Int32))), (0, .ref (G.2.2 + k0)), (3, .int x3)]) C.1 C.2.1 dX0_numberIn_55 hl (k := 3) rfl rfl (by decide) rfl (fun ls hl => ?_)
        refine lv_goto (tgt := 23) C.1 C.2.1 dX0_numberIn_58 (by decide) ?_
        exact ih (((((10 : Int32) * x5) + r4) - (48 : Int32))) ((x6 + 1)) _ _ _ _ S (lv_sub hl [2, 3, 1, 0] rfl) h
theorem kM_X0_numberIn : s_M yX0_numberIn cX0_numberIn 7 (some .int) 3 := ⟨co_X0_numberIn, in_X0, by decide, by decide, by decide +kernel⟩
set_option maxHeartbeats 4000000 in
set_option maxRecDepth 100000 in
theorem c_X0_numberIn (l : Launch) (G : s_G) (k0 : Nat) (k1 : Nat) (x2 : Int32) (x3 : Int32) (σ : Sg) (post : Int32 → Sg → Prop) (hk0 : s_kd k0 = 0) (hk1 : s_kd k1 = 3) (h : wpX0_numberIn k0 k1 x2 x3 σ post) : Met l yX0_numberIn (wsU yX0_numberIn cX0_numberIn 7 (some .int)) rm_X0_numberIn (va_Pc [.ref (G.2.2 + k0), .ref (G.2.2 + k1), .int x2, .int x3] (s_Pre G σ)) (va_Qi post (s_B G) (s_A G.2.2)) 0 0 (s_A G.2.2) := by
  refine Met.ofW (cc := cX0_numberIn) (maxL := 7) (ret := (some .int)) (by decide) rfl ?_
  intro p e s m args below meth c s₁ B hml hv
  obtain ⟨rfl, hP, hrok, hK, hN⟩ := hv
  have C : s_C G p s (([.ref (G.2.2 + k0), .ref (G.2.2 + k1), .int x2, .int x3] : List Value).toArray) m c RX0 cX0_numberIn := ⟨B.exec, B.bytes, findClass_of_methodNamed B.named, fun w hw => atoms_spec (ws := wsU yX0_numberIn cX0_numberIn 7 (some .int)) B.pre w (List.mem_cons_of_mem _ hw), hK, hN⟩
  have hr := B.returns
  have hlocks := B.notSynchronized
  have S : s_St G σ s.heap s.heap [] := ⟨hP, va_S.rf, hrok⟩
  have hcs : 0 ≤ (rm_X0_numberIn).cells ∧ 0 ≤ (rm_X0_numberIn).slots := ⟨Nat.le_refl 0, Nat.le_refl 0⟩
  have hR : ∀ (r : Int32) (σ1 : Sg) (H : Heap) (locs : List Loc) (pc : Nat) (ls : Array Slot), decode cX0_numberIn pc = .ok (.ireturn, 1) → post r σ1 → s_St G σ1 s.heap H locs → W p l e rm_X0_numberIn s m ([.ref (G.2.2 + k0), .ref (G.2.2 + k1), .int x2, .int x3] : List Value).toArray below meth c H locs 0 0 (MQ below (va_Qi post (s_B G) (s_A G.2.2)) ([.ref (G.2.2 + k0), .ref (G.2.2 + k1), .int x2, .int x3] : List Value).toArray s 0 0 (s_A G.2.2)) (F0 m pc ls [.int r]) := fun _ _ _ _ _ _ hd hp S => ret_i C hr hlocks hd hp S
  have hl := lv_entry ([.ref (G.2.2 + k0), .ref (G.2.2 + k1), .int x2, .int x3]) (n := 7) (Nat.le_of_ble_eq_true rfl)
  rw [lg_entry_eq]
  generalize (lg_sl ([.ref (G.2.2 + k0), .ref (G.2.2 + k1), .int x2, .int x3]) ++ List.replicate (7 - (lg_sl ([.ref (G.2.2 + k0), .ref (G.2.2 + k1), .int x2, .int x3])).length) Slot.unset).toArray = ls at hl ⊢
  have hl : lv_has ls 7 [(0, .ref (G.2.2 + k0)), (1, .ref (G.2.2 + k1)), (2, .int x2), (3, .int x3)] := hl
  unfold wpX0_numberIn at h
  refine lv_iload_n C.1 C.2.1 dX0_numberIn_0 rfl (lv_at hl 2 rfl) ?_
  refine lv_aload_n C.1 C.2.1 dX0_numberIn_1 rfl (lv_at hl 1 rfl) ?_
  refine k_i (r_VN (As := []) (rest := [.int x2]) C hml (c_X3_wordLength l G k1 σ _ hk1 h) kM_X3_wordLength im_X3_wordLength se_X3_wordLength nm_X0_27 ⟨rfl, rfl⟩ ⟨Nat.le_of_ble_eq_true rfl, Nat.le_of_ble_eq_true rfl⟩ hcs S.v hk1 (by decide) (T := TX3) (N := 6) rfl rfl hl.1 rfl (Nat.le_of_ble_eq_true rfl) dX0_numberIn_2) S (fun r6 σ5 H locs h S => ?_)
  refine lv_iadd C.1 C.2.1 dX0_numberIn_5 ?_
  refine lv_istore (lv' := [(4, .int (x2 + r6)), (0, .ref (G.2.2 + k0)), (1, .ref (G.2.2 + k1)), (2, .int x2), (3, .int x3)]) C.1 C.2.1 dX0_numberIn_6 hl (by decide) rfl (fun ls hl => ?_)
  refine lv_aload_n C.1 C.2.1 dX0_numberIn_8 rfl (lv_at hl 2 rfl) ?_
  refine gn_X3_1 C nf_X0_43 hk1 S dX0_numberIn_9 ?_
  refine lv_iconst (v := (1 : Int32)) C.1 C.2.1 dX0_numberIn_12 (by decide) ?_
  refine lv_icmp_ne (tgt := 64) C.1 C.2.1 dX0_numberIn_13 (by decide) (fun c7 => ?_) (fun c7 => ?_)
  · replace h := h.1 c7
    refine lv_aload_n C.1 C.2.1 dX0_numberIn_64 rfl (lv_at hl 2 rfl) ?_
    refine gn_X3_1 C nf_X0_43 hk1 S dX0_numberIn_65 ?_
    refine lv_iconst (v := (2 : Int32)) C.1 C.2.1 dX0_numberIn_68 (by decide) ?_
    refine lv_icmp_ne (tgt := 84) C.1 C.2.1 dX0_numberIn_69 (by decide) (fun c8 => ?_) (fun c8 => ?_)
    · replace h := h.1 c8
      refine lv_iconst (v := (1 : Int32)) C.1 C.2.1 dX0_numberIn_84 (by decide) ?_
      exact hR _ _ _ _ _ _ dX0_numberIn_85 h S
    · replace h := h.2 c8
      refine lv_aload_n C.1 C.2.1 dX0_numberIn_72 rfl (lv_at hl 1 rfl) ?_
      refine lv_iload C.1 C.2.1 dX0_numberIn_73 (lv_at hl 0 rfl) ?_
      refine k_i (r_V (As := [.int (x2 + r6)]) (rest := []) C hml (c_X0_at l G k0 ((x2 + r6)) σ5 _ hk0 h) kM_X0_at im_X0_at se_X0_at ml_X0_19 ⟨rfl, rfl⟩ ⟨Nat.le_of_ble_eq_true rfl, Nat.le_of_ble_eq_true rfl⟩ hcs S.v hk0 (by decide) (T := TX0) (N := 2) rfl rfl hl.1 rfl (Nat.le_of_ble_eq_true rfl) dX0_numberIn_75) S (fun r10 σ9 H locs h S => ?_)
      refine lv_bipush (v := (65 : Int32)) C.1 C.2.1 dX0_numberIn_78 (by decide) ?_
      refine lv_isub C.1 C.2.1 dX0_numberIn_80 ?_
      refine lv_goto (tgt := 85) C.1 C.2.1 dX0_numberIn_81 (by decide) ?_
      exact hR _ _ _ _ _ _ dX0_numberIn_85 h S
  · replace h := h.2 c7
    refine lv_iconst (v := (0 : Int32)) C.1 C.2.1 dX0_numberIn_16 (by decide) ?_
    refine lv_istore (lv' := [(5, .int (0 : Int32)), (4, .int (x2 + r6)), (0, .ref (G.2.2 + k0)), (1, .ref (G.2.2 + k1)), (2, .int x2), (3, .int x3)]) C.1 C.2.1 dX0_numberIn_17 hl (by decide) rfl (fun ls hl => ?_)
    refine lv_iload C.1 C.2.1 dX0_numberIn_19 (lv_at hl 1 rfl) ?_
    refine lv_istore (lv' := [(6, .int (x2 + r6)), (5, .int (0 : Int32)), (4, .int (x2 + r6)), (0, .ref (G.2.2 + k0)), (1, .ref (G.2.2 + k1)), (2, .int x2), (3, .int x3)]) C.1 C.2.1 dX0_numberIn_21 hl (by decide) rfl (fun ls hl => ?_)
    obtain ⟨nf, h⟩ := h
    exact TX0_numberIn_23 C hml hcs hk0 hk1 hR nf ((0 : Int32)) ((x2 + r6)) S (lv_sub hl [3, 6, 1, 0] rfl) h
/-! X5_firstBehind -/
abbrev rm_X5_firstBehind : Room := { frames := 1, cells := 0, slots := 0, locals := 21 }
def BX5_firstBehind_2 (x1 : Int32) (post : Int32 → Sg → Prop) : Nat → Int32 → Sg → Prop
  | 0, _, _ => False
  | n + 1, x3, σ => ((((σ.1 5 2) ≤ x3) → post ((-9 : Int32)) σ) ∧ ((¬ (σ.1 5 2) ≤ x3) → wpX5_stepsFrom x1 σ (fun r3 σ2 => wpX6_bitOf r3 x3 σ2 (fun r5 σ4 => (((¬ r5 = (1 : Int32)) → BX5_firstBehind_2 x1 post n ((x3 + 1)) σ4) ∧ ((r5 = (1 : Int32)) → wpX6_withOneMore x1 x3 σ4 (fun r8 σ7 => wpX5_waysFrom r8 σ7 (fun r10 σ9 => ((((lg_cmp r10 (0 : Int64)) ≤ 0) → BX5_firstBehind_2 x1 post n ((x3 + 1)) σ9) ∧ ((¬ (lg_cmp r10 (0 : Int64)) ≤ 0) → post x3 σ9))))))))))
def wpX5_firstBehind (x1 : Int32) (σ : Sg) (post : Int32 → Sg → Prop) : Prop := ∃ nf, BX5_firstBehind_2 x1 post nf ((0 : Int32)) σ
set_option maxHeartbeats 4000000 in
set_option maxRecDepth 100000 in
theorem TX5_firstBehind_2 (C : s_C G p s args m c RX5 cX5_firstBehind) (hml : c.maxLocals = 4) (hcs : cells ≤ (rm_X5_firstBehind).cells ∧ slots ≤ (rm_X5_firstBehind).slots) {x1 : Int32} {post : Int32 → Sg → Prop} (hR : ∀ (r : Int32) (σ1 : Sg) (H : Heap) (locs : List Loc) (pc : Nat) (ls : Array Slot), decode cX5_firstBehind pc = .ok (.ireturn, 1) → post r σ1 → s_St G σ1 H0 H locs → W p l e rm_X5_firstBehind s m args below meth c H locs cells slots Q (F0 m pc ls [.int r])) : ∀ (n : Nat) (x3 : Int32), ∀ {σ : Sg} {H : Heap} {locs : List Loc} {ls : Array Slot}, s_St G σ H0 H locs → lv_has ls 4 [(0, .ref (G.2.2 + 90)), (1, .int x1), (2, .ref (G.2.2 + 5)), (3, .int x3)] → BX5_firstBehind_2 x1 post n x3 σ → W p l e rm_X5_firstBehind s m args below meth c H locs cells slots Q (F0 m 2 ls []) := by
  intro n
  induction n with
  | zero =>
    intro x3  σ H locs ls S hl h
    exact absurd h (fun h => h)
  | succ n ih0 =>
    have ih : ∀ (x3 : Int32), ∀ (σ : Sg) (H : Heap) (locs : List Loc) (ls : Array Slot), s_St G σ H0 H locs → lv_has ls 4 [(0, .ref (G.2.2 + 90)), (1, .int x1), (2, .ref (G.2.2 + 5)), (3, .int x3)] → BX5_firstBehind_2 x1 post n x3 σ → W p l e rm_X5_firstBehind s m args below meth c H locs cells slots Q (F0 m 2 ls []) := fun x3  _ _ _ _ => ih0 x3 
    intro x3  σ H locs ls S hl h
    refine lv_iload_n C.1 C.2.1 dX5_firstBehind_2 rfl (lv_at hl 3 rfl) ?_
    refine lv_aload_n C.1 C.2.1 dX5_firstBehind_3 rfl (lv_at hl 2 rfl) ?_
    refine gn_X1_2 C nf_X5_73 kd_5 S dX5_firstBehind_4 ?_
    refine lv_icmp_ge (tgt := 45) C.1 C.2.1 dX5_firstBehind_7 (by decide) (fun c1 => ?_) (fun c1 => ?_)
    · replace h := h.1 c1
      refine lv_bipush (v := (-9 : Int32)) C.1 C.2.1 dX5_firstBehind_45 (by decide) ?_
      exact hR _ _ _ _ _ _ dX5_firstBehind_47 h S
    · replace h := h.2 c1
      refine lv_aload_n C.1 C.2.1 dX5_firstBehind_10 rfl (lv_at hl 0 rfl) ?_
      refine lv_iload_n C.1 C.2.1 dX5_firstBehind_11 rfl (lv_at hl 1 rfl) ?_
      refine k_i (r_V (As := [.int x1]) (rest := []) C hml (c_X5_stepsFrom l G x1 σ _ h) kM_X5_stepsFrom im_X5_stepsFrom se_X5_stepsFrom ml_X5_111 ⟨rfl, rfl⟩ ⟨Nat.le_of_ble_eq_true rfl, Nat.le_of_ble_eq_true rfl⟩ hcs S.v kd_90 (by decide) (T := TX5) (N := 8) rfl rfl hl.1 rfl (Nat.le_of_ble_eq_true rfl) dX5_firstBehind_12) S (fun r3 σ2 H locs h S => ?_)
      refine lv_iload_n C.1 C.2.1 dX5_firstBehind_15 rfl (lv_at hl 3 rfl) ?_
      refine k_i (r_SN (As := [.int r3, .int x3]) (rest := []) C hml (c_X6_bitOf l G r3 x3 σ2 _ h) kM_X6_bitOf st_X6_bitOf nm_X5_74 ⟨rfl, rfl⟩ ⟨Nat.le_of_ble_eq_true rfl, Nat.le_of_ble_eq_true rfl⟩ hcs S.v rfl hl.1 rfl (Nat.le_of_ble_eq_true rfl) dX5_firstBehind_16) S (fun r5 σ4 H locs h S => ?_)
      refine lv_iconst (v := (1 : Int32)) C.1 C.2.1 dX5_firstBehind_19 (by decide) ?_
      refine lv_icmp_ne (tgt := 39) C.1 C.2.1 dX5_firstBehind_20 (by decide) (fun c6 => ?_) (fun c6 => ?_)
      · replace h := h.1 c6
        refine lv_iinc (v := (x3 + 1)) (lv' := [(3, .int (x3 + 1)), (0, .ref (G.2.2 + 90)), (1, .int x1), (2, .ref (G.2.2 + 5))]) C.1 C.2.1 dX5_firstBehind_39 hl (k := 3) rfl rfl (by decide) rfl (fun ls hl => ?_)
        refine lv_goto (tgt := 2) C.1 C.2.1 dX5_firstBehind_42 (by decide) ?_
        exact ih ((x3 + 1)) _ _ _ _ S (lv_sub hl [1, 2, 3, 0] rfl) h
      · replace h := h.2 c6
        refine lv_aload_n C.1 C.2.1 dX5_firstBehind_23 rfl (lv_at hl 0 rfl) ?_
        refine lv_iload_n C.1 C.2.1 dX5_firstBehind_24 rfl (lv_at hl 1 rfl) ?_
        refine lv_iload_n C.1 C.2.1 dX5_firstBehind_25 rfl (lv_at hl 3 rfl) ?_
        refine k_i (r_SN (As := [.int x1, .int x3]) (rest := [.ref (G.2.2 + 90)]) C hml (c_X6_withOneMore l G x1 x3 σ4 _ h) kM_X6_withOneMore st_X6_withOneMore nm_X5_87 ⟨rfl, rfl⟩ ⟨Nat.le_of_ble_eq_true rfl, Nat.le_of_ble_eq_true rfl⟩ hcs S.v rfl hl.1 rfl (Nat.le_of_ble_eq_true rfl) dX5_firstBehind_26) S (fun r8 σ7 H locs h S => ?_)
        refine k_l (r_V (As := [.int r8]) (rest := []) C hml (c_X5_waysFrom l G r8 σ7 _ h) kM_X5_waysFrom im_X5_waysFrom se_X5_waysFrom ml_X5_45 ⟨rfl, rfl⟩ ⟨Nat.le_of_ble_eq_true rfl, Nat.le_of_ble_eq_true rfl⟩ hcs S.v kd_90 (by decide) (T := TX5) (N := 8) rfl rfl hl.1 rfl (Nat.le_of_ble_eq_true rfl) dX5_firstBehind_29) S (fun r10 σ9 H locs h S => ?_)
        refine lv_lconst (v := (0 : Int64)) C.1 C.2.1 dX5_firstBehind_32 (by decide) ?_
        refine W.lcmp C.1 C.2.1 dX5_firstBehind_33 ?_
        refine lv_if_le (tgt := 39) C.1 C.2.1 dX5_firstBehind_34 (by decide) (fun c11 => ?_) (fun c11 => ?_)
        · replace h := h.1 c11
          refine lv_iinc (v := (x3 + 1)) (lv' := [(3, .int (x3 + 1)), (0, .ref (G.2.2 + 90)), (1, .int x1), (2, .ref (G.2.2 + 5))]) C.1 C.2.1 dX5_firstBehind_39 hl (k := 3) rfl rfl (by decide) rfl (fun ls hl => ?_)
          refine lv_goto (tgt := 2) C.1 C.2.1 dX5_firstBehind_42 (by decide) ?_
          exact ih ((x3 + 1)) _ _ _ _ S (lv_sub hl [1, 2, 3, 0] rfl) h
        · replace h := h.2 c11
          refine lv_iload_n C.1 C.2.1 dX5_firstBehind_37 rfl (lv_at hl 3 rfl) ?_
          exact hR _ _ _ _ _ _ dX5_firstBehind_38 h S
theorem kM_X5_firstBehind : s_M yX5_firstBehind cX5_firstBehind 4 (some .int) 2 := ⟨co_X5_firstBehind, in_X5, by decide, by decide, by decide +kernel⟩
set_option maxHeartbeats 4000000 in
set_option maxRecDepth 100000 in
theorem c_X5_firstBehind (l : Launch) (G : s_G) (x1 : Int32) (σ : Sg) (post : Int32 → Sg → Prop) (h : wpX5_firstBehind x1 σ post) : Met l yX5_firstBehind (wsU yX5_firstBehind cX5_firstBehind 4 (some .int)) rm_X5_firstBehind (va_Pc [.ref (G.2.2 + 90), .int x1, .ref (G.2.2 + 5)] (s_Pre G σ)) (va_Qi post (s_B G) (s_A G.2.2)) 0 0 (s_A G.2.2) := by
  refine Met.ofW (cc := cX5_firstBehind) (maxL := 4) (ret := (some .int)) (by decide) rfl ?_
  intro p e s m args below meth c s₁ B hml hv
  obtain ⟨rfl, hP, hrok, hK, hN⟩ := hv
  have C : s_C G p s (([.ref (G.2.2 + 90), .int x1, .ref (G.2.2 + 5)] : List Value).toArray) m c RX5 cX5_firstBehind := ⟨B.exec, B.bytes, findClass_of_methodNamed B.named, fun w hw => atoms_spec (ws := wsU yX5_firstBehind cX5_firstBehind 4 (some .int)) B.pre w (List.mem_cons_of_mem _ hw), hK, hN⟩
  have hr := B.returns
  have hlocks := B.notSynchronized
  have S : s_St G σ s.heap s.heap [] := ⟨hP, va_S.rf, hrok⟩
  have hcs : 0 ≤ (rm_X5_firstBehind).cells ∧ 0 ≤ (rm_X5_firstBehind).slots := ⟨Nat.le_refl 0, Nat.le_refl 0⟩
  have hR : ∀ (r : Int32) (σ1 : Sg) (H : Heap) (locs : List Loc) (pc : Nat) (ls : Array Slot), decode cX5_firstBehind pc = .ok (.ireturn, 1) → post r σ1 → s_St G σ1 s.heap H locs → W p l e rm_X5_firstBehind s m ([.ref (G.2.2 + 90), .int x1, .ref (G.2.2 + 5)] : List Value).toArray below meth c H locs 0 0 (MQ below (va_Qi post (s_B G) (s_A G.2.2)) ([.ref (G.2.2 + 90), .int x1, .ref (G.2.2 + 5)] : List Value).toArray s 0 0 (s_A G.2.2)) (F0 m pc ls [.int r]) := fun _ _ _ _ _ _ hd hp S => ret_i C hr hlocks hd hp S
  have hl := lv_entry ([.ref (G.2.2 + 90), .int x1, .ref (G.2.2 + 5)]) (n := 4) (Nat.le_of_ble_eq_true rfl)
  rw [lg_entry_eq]
  generalize (lg_sl ([.ref (G.2.2 + 90), .int x1, .ref (G.2.2 + 5)]) ++ List.replicate (4 - (lg_sl ([.ref (G.2.2 + 90), .int x1, .ref (G.2.2 + 5)])).length) Slot.unset).toArray = ls at hl ⊢
  have hl : lv_has ls 4 [(0, .ref (G.2.2 + 90)), (1, .int x1), (2, .ref (G.2.2 + 5))] := hl
  unfold wpX5_firstBehind at h
  refine lv_iconst (v := (0 : Int32)) C.1 C.2.1 dX5_firstBehind_0 (by decide) ?_
  refine lv_istore_n (lv' := [(3, .int (0 : Int32)), (0, .ref (G.2.2 + 90)), (1, .int x1), (2, .ref (G.2.2 + 5))]) C.1 C.2.1 dX5_firstBehind_1 rfl hl (by decide) rfl (fun ls hl => ?_)
  obtain ⟨nf, h⟩ := h
  exact TX5_firstBehind_2 C hml hcs hR nf ((0 : Int32)) S (lv_sub hl [1, 2, 3, 0] rfl) h
end M1
