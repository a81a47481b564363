section M4
variable {p : Program} {l : Launch} {e : Env} {R : Room} {s : State} {m : MethodId} {args : Array Value} {below : List Frame} {meth : Method} {c : Code} {H0 : Heap} {cells slots : Nat} {Q : State → Prop} {G : s_G}
/-! L_low -/
abbrev rm_L_low : Room := { frames := 0, cells := 0, slots := 0, locals := 0 }
def wpL_low (x0 : Int32) (x1 : Int32) (σ : Sg) (post : Int32 → Sg → Prop) : Prop := ((¬ x1 = 0) ∧ post (((x0 &&& (2147483647 : Int32)) - (x0 &&& (2147483647 : Int32)) / x1 * x1)) σ)
theorem kM_L_low : s_M yL_low cL_low 2 (some .int) 2 := ⟨co_L_low, in_L, by decide, by decide, by decide +kernel⟩
set_option maxHeartbeats 4000000 in
set_option maxRecDepth 100000 in
theorem c_L_low (l : Launch) (G : s_G) (x0 : Int32) (x1 : Int32) (σ : Sg) (post : Int32 → Sg → Prop) (h : wpL_low x0 x1 σ post) : Met l yL_low (wsU yL_low cL_low 2 (some .int)) rm_L_low (va_Pc [.int x0, .int x1] (s_Pre G σ)) (va_Qi post (s_B G) (s_A G.2.2)) 0 0 (s_A G.2.2) := by
  refine Met.ofW (cc := cL_low) (maxL := 2) (ret := (some .int)) (by decide) rfl ?_
  intro p e s m args below meth c s₁ B hml hv
  obtain ⟨rfl, hP, hrok, hK, hN⟩ := hv
  have C : s_C G p s (([.int x0, .int x1] : List Value).toArray) m c RL cL_low := ⟨B.exec, B.bytes, findClass_of_methodNamed B.named, fun w hw => atoms_spec (ws := wsU yL_low cL_low 2 (some .int)) B.pre w (List.mem_cons_of_mem _ hw), hK, hN⟩
  have hr := B.returns
  have hlocks := B.notSynchronized
  have S : s_St G σ s.heap s.heap [] := ⟨hP, va_S.rf, hrok⟩
  have hcs : 0 ≤ (rm_L_low).cells ∧ 0 ≤ (rm_L_low).slots := ⟨Nat.le_refl 0, Nat.le_refl 0⟩
  have hR : ∀ (r : Int32) (σ1 : Sg) (H : Heap) (locs : List Loc) (pc : Nat) (ls : Array Slot), decode cL_low pc = .ok (.ireturn, 1) → post r σ1 → s_St G σ1 s.heap H locs → W p l e rm_L_low s m ([.int x0, .int x1] : List Value).toArray below meth c H locs 0 0 (MQ below (va_Qi post (s_B G) (s_A G.2.2)) ([.int x0, .int x1] : List Value).toArray s 0 0 (s_A G.2.2)) (F0 m pc ls [.int r]) := fun _ _ _ _ _ _ hd hp S => ret_i C hr hlocks hd hp S
  have hl := lv_entry ([.int x0, .int x1]) (n := 2) (Nat.le_of_ble_eq_true rfl)
  rw [lg_entry_eq]
  generalize (lg_sl ([.int x0, .int x1]) ++ List.replicate (2 - (lg_sl ([.int x0, .int x1])).length) Slot.unset).toArray = ls at hl ⊢
  have hl : lv_has ls 2 [(0, .int x0), (1, .int x1)] := hl
  unfold wpL_low at h
  refine lv_iload_n C.1 C.2.1 dL_low_0 rfl (lv_at hl 0 rfl) ?_
  refine lv_ldc (v := (2147483647 : Int32)) C.1 C.2.1 C.2.2.1 (C.2.2.2.1 _ ct_L_8) dL_low_1 ?_
  refine lv_iand C.1 C.2.1 dL_low_3 ?_
  refine lv_iload_n C.1 C.2.1 dL_low_4 rfl (lv_at hl 1 rfl) ?_
  refine lv_irem C.1 C.2.1 dL_low_5 h.1 ?_
  replace h := h.2
  exact hR _ _ _ _ _ _ dL_low_6 h S
/-! X0_clear -/
abbrev rm_X0_clear : Room := { frames := 0, cells := 0, slots := 0, locals := 0 }
def wpX0_clear (k0 : Nat) (σ : Sg) (post : Sg → Prop) : Prop := (∀ σ1 : Sg, σ1 = setI σ k0 1 ((0 : Int32)) → post σ1)
theorem kM_X0_clear : s_M yX0_clear cX0_clear 1 none 0 := ⟨co_X0_clear, in_X0, by decide, by decide, by decide +kernel⟩
set_option maxHeartbeats 4000000 in
set_option maxRecDepth 100000 in
theorem c_X0_clear (l : Launch) (G : s_G) (k0 : Nat) (σ : Sg) (post : Sg → Prop) (hk0 : s_kd k0 = 0) (h : wpX0_clear k0 σ post) : Met l yX0_clear (wsU yX0_clear cX0_clear 1 none) rm_X0_clear (va_Pc [.ref (G.2.2 + k0)] (s_Pre G σ)) (va_Qv post (s_B G) (s_A G.2.2)) 0 0 (s_A G.2.2) := by
  refine Met.ofW (cc := cX0_clear) (maxL := 1) (ret := none) (by decide) rfl ?_
  intro p e s m args below meth c s₁ B hml hv
  obtain ⟨rfl, hP, hrok, hK, hN⟩ := hv
  have C : s_C G p s (([.ref (G.2.2 + k0)] : List Value).toArray) m c RX0 cX0_clear := ⟨B.exec, B.bytes, findClass_of_methodNamed B.named, fun w hw => atoms_spec (ws := wsU yX0_clear cX0_clear 1 none) B.pre w (List.mem_cons_of_mem _ hw), hK, hN⟩
  have hr := B.returns
  have hlocks := B.notSynchronized
  have S : s_St G σ s.heap s.heap [] := ⟨hP, va_S.rf, hrok⟩
  have hcs : 0 ≤ (rm_X0_clear).cells ∧ 0 ≤ (rm_X0_clear).slots := ⟨Nat.le_refl 0, Nat.le_refl 0⟩
  have hR : ∀ (σ1 : Sg) (H : Heap) (locs : List Loc) (pc : Nat) (ls : Array Slot), decode cX0_clear pc = .ok (.return_, 1) → post σ1 → s_St G σ1 s.heap H locs → W p l e rm_X0_clear s m ([.ref (G.2.2 + k0)] : List Value).toArray below meth c H locs 0 0 (MQ below (va_Qv post (s_B G) (s_A G.2.2)) ([.ref (G.2.2 + k0)] : List Value).toArray s 0 0 (s_A G.2.2)) (F0 m pc ls []) := fun _ _ _ _ _ hd hp S => ret_v C hr hlocks hd hp S
  have hl := lv_entry ([.ref (G.2.2 + k0)]) (n := 1) (Nat.le_of_ble_eq_true rfl)
  rw [lg_entry_eq]
  generalize (lg_sl ([.ref (G.2.2 + k0)]) ++ List.replicate (1 - (lg_sl ([.ref (G.2.2 + k0)])).length) Slot.unset).toArray = ls at hl ⊢
  have hl : lv_has ls 1 [(0, .ref (G.2.2 + k0))] := hl
  unfold wpX0_clear at h
  refine lv_aload_n C.1 C.2.1 dX0_clear_0 rfl (lv_at hl 0 rfl) ?_
  refine lv_iconst (v := (0 : Int32)) C.1 C.2.1 dX0_clear_1 (by decide) ?_
  refine p_X0_1 C fl_X0_15 hk0 S dX0_clear_2 (fun σ1 H locs e2 S => ?_)
  replace h := h σ1 e2
  exact hR _ _ _ _ _ dX0_clear_5 h S
/-! X5_forget -/
abbrev rm_X5_forget : Room := { frames := 0, cells := 0, slots := 0, locals := 0 }
def wpX5_forget  (σ : Sg) (post : Sg → Prop) : Prop := (∀ σ1 : Sg, σ1 = setI σ 90 7 ((0 : Int32)) → post σ1)
theorem kM_X5_forget : s_M yX5_forget cX5_forget 1 none 0 := ⟨co_X5_forget, in_X5, by decide, by decide, by decide +kernel⟩
set_option maxHeartbeats 4000000 in
set_option maxRecDepth 100000 in
theorem c_X5_forget (l : Launch) (G : s_G)  (σ : Sg) (post : Sg → Prop) (h : wpX5_forget σ post) : Met l yX5_forget (wsU yX5_forget cX5_forget 1 none) rm_X5_forget (va_Pc [.ref (G.2.2 + 90)] (s_Pre G σ)) (va_Qv post (s_B G) (s_A G.2.2)) 0 0 (s_A G.2.2) := by
  refine Met.ofW (cc := cX5_forget) (maxL := 1) (ret := none) (by decide) rfl ?_
  intro p e s m args below meth c s₁ B hml hv
  obtain ⟨rfl, hP, hrok, hK, hN⟩ := hv
  have C : s_C G p s (([.ref (G.2.2 + 90)] : List Value).toArray) m c RX5 cX5_forget := ⟨B.exec, B.bytes, findClass_of_methodNamed B.named, fun w hw => atoms_spec (ws := wsU yX5_forget cX5_forget 1 none) B.pre w (List.mem_cons_of_mem _ hw), hK, hN⟩
  have hr := B.returns
  have hlocks := B.notSynchronized
  have S : s_St G σ s.heap s.heap [] := ⟨hP, va_S.rf, hrok⟩
  have hcs : 0 ≤ (rm_X5_forget).cells ∧ 0 ≤ (rm_X5_forget).slots := ⟨Nat.le_refl 0, Nat.le_refl 0⟩
  have hR : ∀ (σ1 : Sg) (H : Heap) (locs : List Loc) (pc : Nat) (ls : Array Slot), decode cX5_forget pc = .ok (.return_, 1) → post σ1 → s_St G σ1 s.heap H locs → W p l e rm_X5_forget s m ([.ref (G.2.2 + 90)] : List Value).toArray below meth c H locs 0 0 (MQ below (va_Qv post (s_B G) (s_A G.2.2)) ([.ref (G.2.2 + 90)] : List Value).toArray s 0 0 (s_A G.2.2)) (F0 m pc ls []) := fun _ _ _ _ _ hd hp S => ret_v C hr hlocks hd hp S
  have hl := lv_entry ([.ref (G.2.2 + 90)]) (n := 1) (Nat.le_of_ble_eq_true rfl)
  rw [lg_entry_eq]
  generalize (lg_sl ([.ref (G.2.2 + 90)]) ++ List.replicate (1 - (lg_sl ([.ref (G.2.2 + 90)])).length) Slot.unset).toArray = ls at hl ⊢
  have hl : lv_has ls 1 [(0, .ref (G.2.2 + 90))] := hl
  unfold wpX5_forget at h
  refine lv_aload_n C.1 C.2.1 dX5_forget_0 rfl (lv_at hl 0 rfl) ?_
  refine lv_iconst (v := (0 : Int32)) C.1 C.2.1 dX5_forget_1 (by decide) ?_
  refine p_X5_7 C fl_X5_31 kd_90 S rfl rfl dX5_forget_2 (fun σ1 H locs e2 S => ?_)
  replace h := h σ1 e2
  exact hR _ _ _ _ _ dX5_forget_5 h S
/-! X6_wipe -/
abbrev rm_X6_wipe : Room := { frames := 1, cells := 0, slots := 0, locals := 20 }
def wpX6_wipe  (σ : Sg) (post : Int32 → Sg → Prop) : Prop := wpX0_clear 1 σ (fun σ1 => wpX5_forget σ1 (fun σ2 => post ((σ.1 1 1)) σ2))
theorem kM_X6_wipe : s_M yX6_wipe cX6_wipe 2 (some .int) 0 := ⟨co_X6_wipe, in_X6, by decide, by decide, by decide +kernel⟩
set_option maxHeartbeats 4000000 in
set_option maxRecDepth 100000 in
theorem c_X6_wipe (l : Launch) (G : s_G)  (σ : Sg) (post : Int32 → Sg → Prop) (h : wpX6_wipe σ post) : Met l yX6_wipe (wsU yX6_wipe cX6_wipe 2 (some .int)) rm_X6_wipe (va_Pc [.ref (G.2.2 + 0)] (s_Pre G σ)) (va_Qi post (s_B G) (s_A G.2.2)) 0 0 (s_A G.2.2) := by
  refine Met.ofW (cc := cX6_wipe) (maxL := 2) (ret := (some .int)) (by decide) rfl ?_
  intro p e s m args below meth c s₁ B hml hv
  obtain ⟨rfl, hP, hrok, hK, hN⟩ := hv
  have C : s_C G p s (([.ref (G.2.2 + 0)] : List Value).toArray) m c RX6 cX6_wipe := ⟨B.exec, B.bytes, findClass_of_methodNamed B.named, fun w hw => atoms_spec (ws := wsU yX6_wipe cX6_wipe 2 (some .int)) B.pre w (List.mem_cons_of_mem _ hw), hK, hN⟩
  have hr := B.returns
  have hlocks := B.notSynchronized
  have S : s_St G σ s.heap s.heap [] := ⟨hP, va_S.rf, hrok⟩
  have hcs : 0 ≤ (rm_X6_wipe).cells ∧ 0 ≤ (rm_X6_wipe).slots := ⟨Nat.le_refl 0, Nat.le_refl 0⟩
  have hR : ∀ (r : Int32) (σ1 : Sg) (H : Heap) (locs : List Loc) (pc : Nat) (ls : Array Slot), decode cX6_wipe pc = .ok (.ireturn, 1) → post r σ1 → s_St G σ1 s.heap H locs → W p l e rm_X6_wipe s m ([.ref (G.2.2 + 0)] : List Value).toArray below meth c H locs 0 0 (MQ below (va_Qi post (s_B G) (s_A G.2.2)) ([.ref (G.2.2 + 0)] : List Value).toArray s 0 0 (s_A G.2.2)) (F0 m pc ls [.int r]) := fun _ _ _ _ _ _ hd hp S => ret_i C hr hlocks hd hp S
  have hl := lv_entry ([.ref (G.2.2 + 0)]) (n := 2) (Nat.le_of_ble_eq_true rfl)
  rw [lg_entry_eq]
  generalize (lg_sl ([.ref (G.2.2 + 0)]) ++ List.replicate (2 - (lg_sl ([.ref (G.2.2 + 0)])).length) Slot.unset).toArray = ls at hl ⊢
  have hl : lv_has ls 2 [(0, .ref (G.2.2 + 0))] := hl
  unfold wpX6_wipe at h
  refine lv_aload_n C.1 C.2.1 dX6_wipe_0 rfl (lv_at hl 0 rfl) ?_
  refine g_X6_0 C fl_X6_10 kd_0 S fn_0_0 dX6_wipe_1 ?_
  refine gn_X0_1 C nf_X6_62 kd_1 S dX6_wipe_4 ?_
  refine lv_istore_n (lv' := [(1, .int (σ.1 1 1)), (0, .ref (G.2.2 + 0))]) C.1 C.2.1 dX6_wipe_7 rfl hl (by decide) rfl (fun ls hl => ?_)
  refine lv_aload_n C.1 C.2.1 dX6_wipe_8 rfl (lv_at hl 1 rfl) ?_
  refine g_X6_0 C fl_X6_10 kd_0 S fn_0_0 dX6_wipe_9 ?_
  refine k_v (r_VN (As := []) (rest := []) C hml (c_X0_clear l G 1 σ _ kd_1 h) kM_X0_clear im_X0_clear se_X0_clear nm_X6_66 ⟨rfl, rfl⟩ ⟨Nat.le_of_ble_eq_true rfl, Nat.le_of_ble_eq_true rfl⟩ hcs S.v kd_1 (by decide) (T := TX0) (N := 2) rfl rfl hl.1 rfl (Nat.le_of_ble_eq_true rfl) dX6_wipe_12) S (fun σ1 H locs h S => ?_)
  refine lv_aload_n C.1 C.2.1 dX6_wipe_15 rfl (lv_at hl 1 rfl) ?_
  refine g_X6_6 C fl_X6_44 kd_0 S fn_0_6 dX6_wipe_16 ?_
  refine k_v (r_VN (As := []) (rest := []) C hml (c_X5_forget l G σ1 _ h) kM_X5_forget im_X5_forget se_X5_forget nm_X6_59 ⟨rfl, rfl⟩ ⟨Nat.le_of_ble_eq_true rfl, Nat.le_of_ble_eq_true rfl⟩ hcs S.v kd_90 (by decide) (T := TX5) (N := 8) rfl rfl hl.1 rfl (Nat.le_of_ble_eq_true rfl) dX6_wipe_19) S (fun σ2 H locs h S => ?_)
  refine lv_iload_n C.1 C.2.1 dX6_wipe_22 rfl (lv_at hl 0 rfl) ?_
  exact hR _ _ _ _ _ _ dX6_wipe_23 h S
/-! X0_append -/
abbrev rm_X0_append : Room := { frames := 0, cells := 0, slots := 0, locals := 0 }
def wpX0_append (k0 : Nat) (x1 : Int32) (σ : Sg) (post : Int32 → Sg → Prop) : Prop := ((((σ.1 k0 1) < 0) → post (0 : Int32) σ) ∧ ((¬ (σ.1 k0 1) < 0) → ((((σ.1 k0 1) < (60 : Int32)) → (vp_in ((σ.1 k0 1)) 60 ∧ (∀ σ3 : Sg, σ3 = setI σ (s_fin k0 0) ((σ.1 k0 1)).toNatClampNeg x1 → (∀ σ5 : Sg, σ5 = setI σ3 k0 1 (((σ3.1 k0 1) + (1 : Int32))) → post (1 : Int32) σ5)))) ∧ ((¬ (σ.1 k0 1) < (60 : Int32)) → post (0 : Int32) σ))))
theorem kM_X0_append : s_M yX0_append cX0_append 2 (some .boolean) 1 := ⟨co_X0_append, in_X0, by decide, by decide, by decide +kernel⟩
set_option maxHeartbeats 4000000 in
set_option maxRecDepth 100000 in
theorem c_X0_append (l : Launch) (G : s_G) (k0 : Nat) (x1 : Int32) (σ : Sg) (post : Int32 → Sg → Prop) (hk0 : s_kd k0 = 0) (h : wpX0_append k0 x1 σ post) : Met l yX0_append (wsU yX0_append cX0_append 2 (some .boolean)) rm_X0_append (va_Pc [.ref (G.2.2 + k0), .int x1] (s_Pre G σ)) (va_Qi post (s_B G) (s_A G.2.2)) 0 0 (s_A G.2.2) := by
  refine Met.ofW (cc := cX0_append) (maxL := 2) (ret := (some .boolean)) (by decide) rfl ?_
  intro p e s m args below meth c s₁ B hml hv
  obtain ⟨rfl, hP, hrok, hK, hN⟩ := hv
  have C : s_C G p s (([.ref (G.2.2 + k0), .int x1] : List Value).toArray) m c RX0 cX0_append := ⟨B.exec, B.bytes, findClass_of_methodNamed B.named, fun w hw => atoms_spec (ws := wsU yX0_append cX0_append 2 (some .boolean)) B.pre w (List.mem_cons_of_mem _ hw), hK, hN⟩
  have hr := B.returns
  have hlocks := B.notSynchronized
  have S : s_St G σ s.heap s.heap [] := ⟨hP, va_S.rf, hrok⟩
  have hcs : 0 ≤ (rm_X0_append).cells ∧ 0 ≤ (rm_X0_append).slots := ⟨Nat.le_refl 0, Nat.le_refl 0⟩
  have hR : ∀ (r : Int32) (σ1 : Sg) (H : Heap) (locs : List Loc) (pc : Nat) (ls : Array Slot), decode cX0_append pc = .ok (.ireturn, 1) → narrow .boolean (.int r) = .int r → post r σ1 → s_St G σ1 s.heap H locs → W p l e rm_X0_append s m ([.ref (G.2.2 + k0), .int x1] : List Value).toArray below meth c H locs 0 0 (MQ below (va_Qi post (s_B G) (s_A G.2.2)) ([.ref (G.2.2 + k0), .int x1] : List Value).toArray s 0 0 (s_A G.2.2)) (F0 m pc ls [.int r]) := fun _ _ _ _ _ _ hd hn hp S => ret_z C hr hlocks hd hn hp S
  have hl := lv_entry ([.ref (G.2.2 + k0), .int x1]) (n := 2) (Nat.le_of_ble_eq_true rfl)
  rw [lg_entry_eq]
  generalize (lg_sl ([.ref (G.2.2 + k0), .int x1]) ++ List.replicate (2 - (lg_sl ([.ref (G.2.2 + k0), .int x1])).length) Slot.unset).toArray = ls at hl ⊢
  have hl : lv_has ls 2 [(0, .ref (G.2.2 + k0)), (1, .int x1)] := hl
  unfold wpX0_append at h
  refine lv_aload_n C.1 C.2.1 dX0_append_0 rfl (lv_at hl 0 rfl) ?_
  refine g_X0_1 C fl_X0_15 hk0 S dX0_append_1 ?_
  refine lv_if_lt (tgt := 19) C.1 C.2.1 dX0_append_4 (by decide) (fun c1 => ?_) (fun c1 => ?_)
  · replace h := h.1 c1
    refine lv_iconst (v := (0 : Int32)) C.1 C.2.1 dX0_append_19 (by decide) ?_
    exact hR _ _ _ _ _ _ dX0_append_20 rfl h S
  · replace h := h.2 c1
    refine lv_aload_n C.1 C.2.1 dX0_append_7 rfl (lv_at hl 0 rfl) ?_
    refine g_X0_1 C fl_X0_15 hk0 S dX0_append_8 ?_
    refine lv_aload_n C.1 C.2.1 dX0_append_11 rfl (lv_at hl 0 rfl) ?_
    refine g_X0_0 C fl_X0_9 hk0 S rfl dX0_append_12 ?_
    refine a_len8 C ((kdf_X0_0 hk0)) S (v := (60 : Int32)) (by rw [(lnf_X0_0 hk0)]; rfl) dX0_append_15 ?_
    refine lv_icmp_lt (tgt := 21) C.1 C.2.1 dX0_append_16 (by decide) (fun c2 => ?_) (fun c2 => ?_)
    · replace h := h.1 c2
      refine lv_aload_n C.1 C.2.1 dX0_append_21 rfl (lv_at hl 0 rfl) ?_
      refine g_X0_0 C fl_X0_9 hk0 S rfl dX0_append_22 ?_
      refine lv_aload_n C.1 C.2.1 dX0_append_25 rfl (lv_at hl 0 rfl) ?_
      refine g_X0_1 C fl_X0_15 hk0 S dX0_append_26 ?_
      refine lv_iload_n C.1 C.2.1 dX0_append_29 rfl (lv_at hl 1 rfl) ?_
      refine a_ist C ((kdf_X0_0 hk0)) S (lnf_X0_0 hk0) h.1 dX0_append_30 (fun σ3 H locs e4 S => ?_)
      replace h := h.2 σ3 e4
      refine lv_aload_n C.1 C.2.1 dX0_append_31 rfl (lv_at hl 0 rfl) ?_
      refine lv_dup C.1 C.2.1 dX0_append_32 rfl ?_
      refine g_X0_1 C fl_X0_15 hk0 S dX0_append_33 ?_
      refine lv_iconst (v := (1 : Int32)) C.1 C.2.1 dX0_append_36 (by decide) ?_
      refine lv_iadd C.1 C.2.1 dX0_append_37 ?_
      refine p_X0_1 C fl_X0_15 hk0 S dX0_append_38 (fun σ5 H locs e6 S => ?_)
      replace h := h σ5 e6
      refine lv_iconst (v := (1 : Int32)) C.1 C.2.1 dX0_append_41 (by decide) ?_
      exact hR _ _ _ _ _ _ dX0_append_42 rfl h S
    · replace h := h.2 c2
      refine lv_iconst (v := (0 : Int32)) C.1 C.2.1 dX0_append_19 (by decide) ?_
      exact hR _ _ _ _ _ _ dX0_append_20 rfl h S
/-! X6_write -/
abbrev rm_X6_write : Room := { frames := 1, cells := 0, slots := 0, locals := 21 }
def wpX6_write (x1 : Int32) (σ : Sg) (post : Int32 → Sg → Prop) : Prop := (((x1 < (32 : Int32)) → post ((-1 : Int32)) σ) ∧ ((¬ x1 < (32 : Int32)) → (((x1 ≤ (126 : Int32)) → wpX0_append 1 x1 σ (fun r4 σ3 => (((¬ r4 = 0) → wpX5_forget σ3 (fun σ6 => post ((σ6.1 1 1)) σ6)) ∧ ((r4 = 0) → post ((-3 : Int32)) σ3)))) ∧ ((¬ x1 ≤ (126 : Int32)) → post ((-1 : Int32)) σ))))
theorem kM_X6_write : s_M yX6_write cX6_write 2 (some .int) 1 := ⟨co_X6_write, in_X6, by decide, by decide, by decide +kernel⟩
set_option maxHeartbeats 4000000 in
set_option maxRecDepth 100000 in
theorem c_X6_write (l : Launch) (G : s_G) (x1 : Int32) (σ : Sg) (post : Int32 → Sg → Prop) (h : wpX6_write x1 σ post) : Met l yX6_write (wsU yX6_write cX6_write 2 (some .int)) rm_X6_write (va_Pc [.ref (G.2.2 + 0), .int x1] (s_Pre G σ)) (va_Qi post (s_B G) (s_A G.2.2)) 0 0 (s_A G.2.2) := by
  refine Met.ofW (cc := cX6_write) (maxL := 2) (ret := (some .int)) (by decide) rfl ?_
  intro p e s m args below meth c s₁ B hml hv
  obtain ⟨rfl, hP, hrok, hK, hN⟩ := hv
  have C : s_C G p s (([.ref (G.2.2 + 0), .int x1] : List Value).toArray) m c RX6 cX6_write := ⟨B.exec, B.bytes, findClass_of_methodNamed B.named, fun w hw => atoms_spec (ws := wsU yX6_write cX6_write 2 (some .int)) B.pre w (List.mem_cons_of_mem _ hw), hK, hN⟩
  have hr := B.returns
  have hlocks := B.notSynchronized
  have S : s_St G σ s.heap s.heap [] := ⟨hP, va_S.rf, hrok⟩
  have hcs : 0 ≤ (rm_X6_write).cells ∧ 0 ≤ (rm_X6_write).slots := ⟨Nat.le_refl 0, Nat.le_refl 0⟩
  have hR : ∀ (r : Int32) (σ1 : Sg) (H : Heap) (locs : List Loc) (pc : Nat) (ls : Array Slot), decode cX6_write pc = .ok (.ireturn, 1) → post r σ1 → s_St G σ1 s.heap H locs → W p l e rm_X6_write s m ([.ref (G.2.2 + 0), .int x1] : List Value).toArray below meth c H locs 0 0 (MQ below (va_Qi post (s_B G) (s_A G.2.2)) ([.ref (G.2.2 + 0), .int x1] : List Value).toArray s 0 0 (s_A G.2.2)) (F0 m pc ls [.int r]) := fun _ _ _ _ _ _ hd hp S => ret_i C hr hlocks hd hp S
  have hl := lv_entry ([.ref (G.2.2 + 0), .int x1]) (n := 2) (Nat.le_of_ble_eq_true rfl)
  rw [lg_entry_eq]
  generalize (lg_sl ([.ref (G.2.2 + 0), .int x1]) ++ List.replicate (2 - (lg_sl ([.ref (G.2.2 + 0), .int x1])).length) Slot.unset).toArray = ls at hl ⊢
  have hl : lv_has ls 2 [(0, .ref (G.2.2 + 0)), (1, .int x1)] := hl
  unfold wpX6_write at h
  refine lv_iload_n C.1 C.2.1 dX6_write_0 rfl (lv_at hl 1 rfl) ?_
  refine lv_bipush (v := (32 : Int32)) C.1 C.2.1 dX6_write_1 (by decide) ?_
  refine lv_icmp_lt (tgt := 12) C.1 C.2.1 dX6_write_3 (by decide) (fun c1 => ?_) (fun c1 => ?_)
  · replace h := h.1 c1
    refine lv_iconst (v := (-1 : Int32)) C.1 C.2.1 dX6_write_12 (by decide) ?_
    exact hR _ _ _ _ _ _ dX6_write_13 h S
  · replace h := h.2 c1
    refine lv_iload_n C.1 C.2.1 dX6_write_6 rfl (lv_at hl 1 rfl) ?_
    refine lv_bipush (v := (126 : Int32)) C.1 C.2.1 dX6_write_7 (by decide) ?_
    refine lv_icmp_le (tgt := 14) C.1 C.2.1 dX6_write_9 (by decide) (fun c2 => ?_) (fun c2 => ?_)
    · replace h := h.1 c2
      refine lv_aload_n C.1 C.2.1 dX6_write_14 rfl (lv_at hl 0 rfl) ?_
      refine g_X6_0 C fl_X6_10 kd_0 S fn_0_0 dX6_write_15 ?_
      refine lv_iload_n C.1 C.2.1 dX6_write_18 rfl (lv_at hl 1 rfl) ?_
      refine k_i (r_VN (As := [.int x1]) (rest := []) C hml (c_X0_append l G 1 x1 σ _ kd_1 h) kM_X0_append im_X0_append se_X0_append nm_X6_55 ⟨rfl, rfl⟩ ⟨Nat.le_of_ble_eq_true rfl, Nat.le_of_ble_eq_true rfl⟩ hcs S.v kd_1 (by decide) (T := TX0) (N := 2) rfl rfl hl.1 rfl (Nat.le_of_ble_eq_true rfl) dX6_write_19) S (fun r4 σ3 H locs h S => ?_)
      refine lv_if_ne (tgt := 28) C.1 C.2.1 dX6_write_22 (by decide) (fun c5 => ?_) (fun c5 => ?_)
      · replace h := h.1 c5
        refine lv_aload_n C.1 C.2.1 dX6_write_28 rfl (lv_at hl 0 rfl) ?_
        refine g_X6_6 C fl_X6_44 kd_0 S fn_0_6 dX6_write_29 ?_
        refine k_v (r_VN (As := []) (rest := []) C hml (c_X5_forget l G σ3 _ h) kM_X5_forget im_X5_forget se_X5_forget nm_X6_59 ⟨rfl, rfl⟩ ⟨Nat.le_of_ble_eq_true rfl, Nat.le_of_ble_eq_true rfl⟩ hcs S.v kd_90 (by decide) (T := TX5) (N := 8) rfl rfl hl.1 rfl (Nat.le_of_ble_eq_true rfl) dX6_write_32) S (fun σ6 H locs h S => ?_)
        refine lv_aload_n C.1 C.2.1 dX6_write_35 rfl (lv_at hl 0 rfl) ?_
        refine g_X6_0 C fl_X6_10 kd_0 S fn_0_0 dX6_write_36 ?_
        refine gn_X0_1 C nf_X6_62 kd_1 S dX6_write_39 ?_
        exact hR _ _ _ _ _ _ dX6_write_42 h S
      · replace h := h.2 c5
        refine lv_bipush (v := (-3 : Int32)) C.1 C.2.1 dX6_write_25 (by decide) ?_
        exact hR _ _ _ _ _ _ dX6_write_27 h S
    · replace h := h.2 c2
      refine lv_iconst (v := (-1 : Int32)) C.1 C.2.1 dX6_write_12 (by decide) ?_
      exact hR _ _ _ _ _ _ dX6_write_13 h S
/-! L_word -/
abbrev rm_L_word : Room := { frames := 2, cells := 0, slots := 0, locals := 42 }
def BL_word_16 (x1 : Int32) (post : Int32 → Sg → Prop) : Nat → Int32 → Int32 → Int32 → Sg → Prop
  | 0, _, _, _, _ => False
  | n + 1, x2, x3, x4, σ => (((x3 ≤ x4) → post x2 σ) ∧ ((¬ x3 ≤ x4) → wpL_low ((x1 >>> (((2 : Int32) + ((2 : Int32) * x4)) &&& 31))) ((2 : Int32)) σ (fun r3 σ2 => wpX6_write (((97 : Int32) + r3)) σ2 (fun r5 σ4 => BL_word_16 x1 post n r5 x3 ((x4 + 1)) σ4))))
def wpL_word (x1 : Int32) (σ : Sg) (post : Int32 → Sg → Prop) : Prop := wpX6_wipe σ (fun r7 σ6 => wpL_low x1 ((3 : Int32)) σ6 (fun r9 σ8 => ∃ nf, BL_word_16 x1 post nf r7 (((1 : Int32) + r9)) ((0 : Int32)) σ8))
set_option maxHeartbeats 4000000 in
set_option maxRecDepth 100000 in
theorem TL_word_16 (C : s_C G p s args m c RL cL_word) (hml : c.maxLocals = 5) (hcs : cells ≤ (rm_L_word).cells ∧ slots ≤ (rm_L_word).slots) {x1 : Int32} {post : Int32 → Sg → Prop} (hR : ∀ (r : Int32) (σ1 : Sg) (H : Heap) (locs : List Loc) (pc : Nat) (ls : Array Slot), decode cL_word pc = .ok (.ireturn, 1) → post r σ1 → s_St G σ1 H0 H locs → W p l e rm_L_word s m args below meth c H locs cells slots Q (F0 m pc ls [.int r])) : ∀ (n : Nat) (x2 : Int32) (x3 : Int32) (x4 : Int32), ∀ {σ : Sg} {H : Heap} {locs : List Loc} {ls : Array Slot}, s_St G σ H0 H locs → lv_has ls 5 [(0, .ref (G.2.2 + 0)), (1, .int x1), (2, .int x2), (3, .int x3), (4, .int x4)] → BL_word_16 x1 post n x2 x3 x4 σ → W p l e rm_L_word s m args below meth c H locs cells slots Q (F0 m 16 ls []) := by
  intro n
  induction n with
  | zero =>
    intro x2 x3 x4  σ H locs ls S hl h
    exact absurd h (fun h => h)
  | succ n ih0 =>
    have ih : ∀ (x2 : Int32) (x3 : Int32) (x4 : Int32), ∀ (σ : Sg) (H : Heap) (locs : List Loc) (ls : Array Slot), s_St G σ H0 H locs → lv_has ls 5 [(0, .ref (G.2.2 + 0)), (1, .int x1), (2, .int x2), (3, .int x3), (4, .int x4)] → BL_word_16 x1 post n x2 x3 x4 σ → W p l e rm_L_word s m args below meth c H locs cells slots Q (F0 m 16 ls []) := fun x2 x3 x4  _ _ _ _ => ih0 x2 x3 x4 
    intro x2 x3 x4  σ H locs ls S hl h
    refine lv_iload C.1 C.2.1 dL_word_16 (lv_at hl 4 rfl) ?_
    refine lv_iload_n C.1 C.2.1 dL_word_18 rfl (lv_at hl 3 rfl) ?_
    refine lv_icmp_ge (tgt := 48) C.1 C.2.1 dL_word_19 (by decide) (fun c1 => ?_) (fun c1 => ?_)
    · replace h := h.1 c1
      refine lv_iload_n C.1 C.2.1 dL_word_48 rfl (lv_at hl 2 rfl) ?_
      exact hR _ _ _ _ _ _ dL_word_49 h S
    · replace h := h.2 c1
      refine lv_aload_n C.1 C.2.1 dL_word_22 rfl (lv_at hl 0 rfl) ?_
      refine lv_bipush (v := (97 : Int32)) C.1 C.2.1 dL_word_23 (by decide) ?_
      refine lv_iload_n C.1 C.2.1 dL_word_25 rfl (lv_at hl 1 rfl) ?_
      refine lv_iconst (v := (2 : Int32)) C.1 C.2.1 dL_word_26 (by decide) ?_
      refine lv_iconst (v := (2 : Int32)) C.1 C.2.1 dL_word_27 (by decide) ?_
      refine lv_iload C.1 C.2.1 dL_word_28 (lv_at hl 4 rfl) ?_
      refine lv_imul C.1 C.2.1 dL_word_30 ?_
      refine lv_iadd C.1 C.2.1 dL_word_31 ?_
      refine lv_ishr C.1 C.2.1 dL_word_32 ?_
      refine lv_iconst (v := (2 : Int32)) C.1 C.2.1 dL_word_33 (by decide) ?_
      refine k_i (r_S (As := [.int (x1 >>> (((2 : Int32) + ((2 : Int32) * x4)) &&& 31)), .int (2 : Int32)]) (rest := [.int (97 : Int32), .ref (G.2.2 + 0)]) C hml (c_L_low l G ((x1 >>> (((2 : Int32) + ((2 : Int32) * x4)) &&& 31))) ((2 : Int32)) σ _ h) kM_L_low st_L_low ml_L_15 ⟨rfl, rfl⟩ ⟨Nat.le_of_ble_eq_true rfl, Nat.le_of_ble_eq_true rfl⟩ hcs S.v rfl hl.1 rfl (Nat.le_of_ble_eq_true rfl) dL_word_34) S (fun r3 σ2 H locs h S => ?_)
      refine lv_iadd C.1 C.2.1 dL_word_37 ?_
      refine k_i (r_V (As := [.int ((97 : Int32) + r3)]) (rest := []) C hml (c_X6_write l G (((97 : Int32) + r3)) σ2 _ h) kM_X6_write im_X6_write se_X6_write ml_L_21 ⟨rfl, rfl⟩ ⟨Nat.le_of_ble_eq_true rfl, Nat.le_of_ble_eq_true rfl⟩ hcs S.v kd_0 (by decide) (T := TX6) (N := 8) rfl rfl hl.1 rfl (Nat.le_of_ble_eq_true rfl) dL_word_38) S (fun r5 σ4 H locs h S => ?_)
      refine lv_istore_n (lv' := [(2, .int r5), (0, .ref (G.2.2 + 0)), (1, .int x1), (3, .int x3), (4, .int x4)]) C.1 C.2.1 dL_word_41 rfl hl (by decide) rfl (fun ls hl => ?_)
      refine lv_iinc (v := (x4 + 1)) (lv' := [(4, .int (x4 + 1)), (2, .int r5), (0, .ref (G.2.2 + 0)), (1, .int x1), (3, .int x3)]) C.1 C.2.1 dL_word_42 hl (k := 4) rfl rfl (by decide) rfl (fun ls hl => ?_)
      refine lv_goto (tgt := 16) C.1 C.2.1 dL_word_45 (by decide) ?_
      exact ih r5 x3 ((x4 + 1)) _ _ _ _ S (lv_sub hl [2, 3, 1, 4, 0] rfl) h
theorem kM_L_word : s_M yL_word cL_word 5 (some .int) 2 := ⟨co_L_word, in_L, by decide, by decide, by decide +kernel⟩
set_option maxHeartbeats 4000000 in
set_option maxRecDepth 100000 in
theorem c_L_word (l : Launch) (G : s_G) (x1 : Int32) (σ : Sg) (post : Int32 → Sg → Prop) (h : wpL_word x1 σ post) : Met l yL_word (wsU yL_word cL_word 5 (some .int)) rm_L_word (va_Pc [.ref (G.2.2 + 0), .int x1] (s_Pre G σ)) (va_Qi post (s_B G) (s_A G.2.2)) 0 0 (s_A G.2.2) := by
  refine Met.ofW (cc := cL_word) (maxL := 5) (ret := (some .int)) (by decide) rfl ?_
  intro p e s m args below meth c s₁ B hml hv
  obtain ⟨rfl, hP, hrok, hK, hN⟩ := hv
  have C : s_C G p s (([.ref (G.2.2 + 0), .int x1] : List Value).toArray) m c RL cL_word := ⟨B.exec, B.bytes, findClass_of_methodNamed B.named, fun w hw => atoms_spec (ws := wsU yL_word cL_word 5 (some .int)) B.pre w (List.mem_cons_of_mem _ hw), hK, hN⟩
  have hr := B.returns
  have hlocks := B.notSynchronized
  have S : s_St G σ s.heap s.heap [] := ⟨hP, va_S.rf, hrok⟩
  have hcs : 0 ≤ (rm_L_word).cells ∧ 0 ≤ (rm_L_word).slots := ⟨Nat.le_refl 0, Nat.le_refl 0⟩
  have hR : ∀ (r : Int32) (σ1 : Sg) (H : Heap) (locs : List Loc) (pc : Nat) (ls : Array Slot), decode cL_word pc = .ok (.ireturn, 1) → post r σ1 → s_St G σ1 s.heap H locs → W p l e rm_L_word s m ([.ref (G.2.2 + 0), .int x1] : List Value).toArray below meth c H locs 0 0 (MQ below (va_Qi post (s_B G) (s_A G.2.2)) ([.ref (G.2.2 + 0), .int x1] : List Value).toArray s 0 0 (s_A G.2.2)) (F0 m pc ls [.int r]) := fun _ _ _ _ _ _ hd hp S => ret_i C hr hlocks hd hp S
  have hl := lv_entry ([.ref (G.2.2 + 0), .int x1]) (n := 5) (Nat.le_of_ble_eq_true rfl)
  rw [lg_entry_eq]
  generalize (lg_sl ([.ref (G.2.2 + 0), .int x1]) ++ List.replicate (5 - (lg_sl ([.ref (G.2.2 + 0), .int x1])).length) Slot.unset).toArray = ls at hl ⊢
  have hl : lv_has ls 5 [(0, .ref (G.2.2 + 0)), (1, .int x1)] := hl
  unfold wpL_word at h
  refine lv_aload_n C.1 C.2.1 dL_word_0 rfl (lv_at hl 0 rfl) ?_
  refine k_i (r_V (As := []) (rest := []) C hml (c_X6_wipe l G σ _ h) kM_X6_wipe im_X6_wipe se_X6_wipe ml_L_9 ⟨rfl, rfl⟩ ⟨Nat.le_of_ble_eq_true rfl, Nat.le_of_ble_eq_true rfl⟩ hcs S.v kd_0 (by decide) (T := TX6) (N := 8) rfl rfl hl.1 rfl (Nat.le_of_ble_eq_true rfl) dL_word_1) S (fun r7 σ6 H locs h S => ?_)
  refine lv_istore_n (lv' := [(2, .int r7), (0, .ref (G.2.2 + 0)), (1, .int x1)]) C.1 C.2.1 dL_word_4 rfl hl (by decide) rfl (fun ls hl => ?_)
  refine lv_iconst (v := (1 : Int32)) C.1 C.2.1 dL_word_5 (by decide) ?_
  refine lv_iload_n C.1 C.2.1 dL_word_6 rfl (lv_at hl 2 rfl) ?_
  refine lv_iconst (v := (3 : Int32)) C.1 C.2.1 dL_word_7 (by decide) ?_
  refine k_i (r_S (As := [.int x1, .int (3 : Int32)]) (rest := [.int (1 : Int32)]) C hml (c_L_low l G x1 ((3 : Int32)) σ6 _ h) kM_L_low st_L_low ml_L_15 ⟨rfl, rfl⟩ ⟨Nat.le_of_ble_eq_true rfl, Nat.le_of_ble_eq_true rfl⟩ hcs S.v rfl hl.1 rfl (Nat.le_of_ble_eq_true rfl) dL_word_8) S (fun r9 σ8 H locs h S => ?_)
  refine lv_iadd C.1 C.2.1 dL_word_11 ?_
  refine lv_istore_n (lv' := [(3, .int ((1 : Int32) + r9)), (2, .int r7), (0, .ref (G.2.2 + 0)), (1, .int x1)]) C.1 C.2.1 dL_word_12 rfl hl (by decide) rfl (fun ls hl => ?_)
  refine lv_iconst (v := (0 : Int32)) C.1 C.2.1 dL_word_13 (by decide) ?_
  refine lv_istore (lv' := [(4, .int (0 : Int32)), (3, .int ((1 : Int32) + r9)), (2, .int r7), (0, .ref (G.2.2 + 0)), (1, .int x1)]) C.1 C.2.1 dL_word_14 hl (by decide) rfl (fun ls hl => ?_)
  obtain ⟨nf, h⟩ := h
  exact TL_word_16 C hml hcs hR nf r7 (((1 : Int32) + r9)) ((0 : Int32)) S (lv_sub hl [3, 4, 2, 1, 0] rfl) h
/-! X3_copyFrom -/
abbrev rm_X3_copyFrom : Room := { frames := 0, cells := 0, slots := 0, locals := 0 }
def wpX3_copyFrom (k0 : Nat) (k1 : Nat) (σ : Sg) (post : Sg → Prop) : Prop := (∀ σ1 : Sg, σ1 = setI σ k0 0 ((σ.1 k1 0)) → (∀ σ3 : Sg, σ3 = setI σ1 k0 1 ((σ1.1 k1 1)) → (∀ σ5 : Sg, σ5 = setI σ3 k0 2 ((σ3.1 k1 2)) → (∀ σ7 : Sg, σ7 = setI σ5 k0 3 ((σ5.1 k1 3)) → (∀ σ9 : Sg, σ9 = setI σ7 k0 4 ((σ7.1 k1 4)) → (∀ σ11 : Sg, σ11 = setI σ9 k0 5 ((σ9.1 k1 5)) → post σ11))))))
theorem kM_X3_copyFrom : s_M yX3_copyFrom cX3_copyFrom 2 none 1 := ⟨co_X3_copyFrom, in_X3, by decide, by decide, by decide +kernel⟩
set_option maxHeartbeats 4000000 in
set_option maxRecDepth 100000 in
theorem c_X3_copyFrom (l : Launch) (G : s_G) (k0 : Nat) (k1 : Nat) (σ : Sg) (post : Sg → Prop) (hk0 : s_kd k0 = 3) (hk1 : s_kd k1 = 3) (h : wpX3_copyFrom k0 k1 σ post) : Met l yX3_copyFrom (wsU yX3_copyFrom cX3_copyFrom 2 none) rm_X3_copyFrom (va_Pc [.ref (G.2.2 + k0), .ref (G.2.2 + k1)] (s_Pre G σ)) (va_Qv post (s_B G) (s_A G.2.2)) 0 0 (s_A G.2.2) := by
  refine Met.ofW (cc := cX3_copyFrom) (maxL := 2) (ret := none) (by decide) rfl ?_
  intro p e s m args below meth c s₁ B hml hv
  obtain ⟨rfl, hP, hrok, hK, hN⟩ := hv
  have C : s_C G p s (([.ref (G.2.2 + k0), .ref (G.2.2 + k1)] : List Value).toArray) m c RX3 cX3_copyFrom := ⟨B.exec, B.bytes, findClass_of_methodNamed B.named, fun w hw => atoms_spec (ws := wsU yX3_copyFrom cX3_copyFrom 2 none) B.pre w (List.mem_cons_of_mem _ hw), hK, hN⟩
  have hr := B.returns
  have hlocks := B.notSynchronized
  have S : s_St G σ s.heap s.heap [] := ⟨hP, va_S.rf, hrok⟩
  have hcs : 0 ≤ (rm_X3_copyFrom).cells ∧ 0 ≤ (rm_X3_copyFrom).slots := ⟨Nat.le_refl 0, Nat.le_refl 0⟩
  have hR : ∀ (σ1 : Sg) (H : Heap) (locs : List Loc) (pc : Nat) (ls : Array Slot), decode cX3_copyFrom pc = .ok (.return_, 1) → post σ1 → s_St G σ1 s.heap H locs → W p l e rm_X3_copyFrom s m ([.ref (G.2.2 + k0), .ref (G.2.2 + k1)] : List Value).toArray below meth c H locs 0 0 (MQ below (va_Qv post (s_B G) (s_A G.2.2)) ([.ref (G.2.2 + k0), .ref (G.2.2 + k1)] : List Value).toArray s 0 0 (s_A G.2.2)) (F0 m pc ls []) := fun _ _ _ _ _ hd hp S => ret_v C hr hlocks hd hp S
  have hl := lv_entry ([.ref (G.2.2 + k0), .ref (G.2.2 + k1)]) (n := 2) (Nat.le_of_ble_eq_true rfl)
  rw [lg_entry_eq]
  generalize (lg_sl ([.ref (G.2.2 + k0), .ref (G.2.2 + k1)]) ++ List.replicate (2 - (lg_sl ([.ref (G.2.2 + k0), .ref (G.2.2 + k1)])).length) Slot.unset).toArray = ls at hl ⊢
  have hl : lv_has ls 2 [(0, .ref (G.2.2 + k0)), (1, .ref (G.2.2 + k1))] := hl
  unfold wpX3_copyFrom at h
  refine lv_aload_n C.1 C.2.1 dX3_copyFrom_0 rfl (lv_at hl 0 rfl) ?_
  refine lv_aload_n C.1 C.2.1 dX3_copyFrom_1 rfl (lv_at hl 1 rfl) ?_
  refine g_X3_0 C fl_X3_9 hk1 S dX3_copyFrom_2 ?_
  refine p_X3_0 C fl_X3_9 hk0 S dX3_copyFrom_5 (fun σ1 H locs e2 S => ?_)
  replace h := h σ1 e2
  refine lv_aload_n C.1 C.2.1 dX3_copyFrom_8 rfl (lv_at hl 0 rfl) ?_
  refine lv_aload_n C.1 C.2.1 dX3_copyFrom_9 rfl (lv_at hl 1 rfl) ?_
  refine g_X3_1 C fl_X3_15 hk1 S dX3_copyFrom_10 ?_
  refine p_X3_1 C fl_X3_15 hk0 S dX3_copyFrom_13 (fun σ3 H locs e4 S => ?_)
  replace h := h σ3 e4
  refine lv_aload_n C.1 C.2.1 dX3_copyFrom_16 rfl (lv_at hl 0 rfl) ?_
  refine lv_aload_n C.1 C.2.1 dX3_copyFrom_17 rfl (lv_at hl 1 rfl) ?_
  refine g_X3_2 C fl_X3_18 hk1 S dX3_copyFrom_18 ?_
  refine p_X3_2 C fl_X3_18 hk0 S dX3_copyFrom_21 (fun σ5 H locs e6 S => ?_)
  replace h := h σ5 e6
  refine lv_aload_n C.1 C.2.1 dX3_copyFrom_24 rfl (lv_at hl 0 rfl) ?_
  refine lv_aload_n C.1 C.2.1 dX3_copyFrom_25 rfl (lv_at hl 1 rfl) ?_
  refine g_X3_3 C fl_X3_21 hk1 S dX3_copyFrom_26 ?_
  refine p_X3_3 C fl_X3_21 hk0 S dX3_copyFrom_29 (fun σ7 H locs e8 S => ?_)
  replace h := h σ7 e8
  refine lv_aload_n C.1 C.2.1 dX3_copyFrom_32 rfl (lv_at hl 0 rfl) ?_
  refine lv_aload_n C.1 C.2.1 dX3_copyFrom_33 rfl (lv_at hl 1 rfl) ?_
  refine g_X3_4 C fl_X3_24 hk1 S dX3_copyFrom_34 ?_
  refine p_X3_4 C fl_X3_24 hk0 S dX3_copyFrom_37 (fun σ9 H locs e10 S => ?_)
  replace h := h σ9 e10
  refine lv_aload_n C.1 C.2.1 dX3_copyFrom_40 rfl (lv_at hl 0 rfl) ?_
  refine lv_aload_n C.1 C.2.1 dX3_copyFrom_41 rfl (lv_at hl 1 rfl) ?_
  refine g_X3_5 C fl_X3_27 hk1 S dX3_copyFrom_42 ?_
  refine p_X3_5 C fl_X3_27 hk0 S dX3_copyFrom_45 (fun σ11 H locs e12 S => ?_)
  replace h := h σ11 e12
  exact hR _ _ _ _ _ dX3_copyFrom_48 h S
/-! X1_copyFrom -/
abbrev rm_X1_copyFrom : Room := { frames := 1, cells := 0, slots := 0, locals := 21 }
def BX1_copyFrom_18 (k0 : Nat) (k1 : Nat) (post : Sg → Prop) : Nat → Int32 → Sg → Prop
  | 0, _, _ => False
  | n + 1, x2, σ => ((((6 : Int32) ≤ x2) → post σ) ∧ ((¬ (6 : Int32) ≤ x2) → (vp_in x2 6 ∧ (∀ q2 : Nat, q2 = (σ.2.2 (s_fin k0 0) (x2).toNatClampNeg) → wpX1_at k1 x2 σ (fun q5 σ4 => s_kd q5 = 3 → wpX3_copyFrom q2 q5 σ4 (fun σ6 => BX1_copyFrom_18 k0 k1 post n ((x2 + 1)) σ6))))))
def wpX1_copyFrom (k0 : Nat) (k1 : Nat) (σ : Sg) (post : Sg → Prop) : Prop := (∀ σ7 : Sg, σ7 = setI σ k0 2 ((σ.1 k1 2)) → (∀ σ9 : Sg, σ9 = setI σ7 k0 3 ((σ7.1 k1 3)) → ∃ nf, BX1_copyFrom_18 k0 k1 post nf ((0 : Int32)) σ9))
set_option maxHeartbeats 4000000 in
set_option maxRecDepth 100000 in
theorem TX1_copyFrom_18 (C : s_C G p s args m c RX1 cX1_copyFrom) (hml : c.maxLocals = 3) (hcs : cells ≤ (rm_X1_copyFrom).cells ∧ slots ≤ (rm_X1_copyFrom).slots) {k0 : Nat} {k1 : Nat} (hk0 : s_kd k0 = 1) (hk1 : s_kd k1 = 1) {post : Sg → Prop} (hR : ∀ (σ1 : Sg) (H : Heap) (locs : List Loc) (pc : Nat) (ls : Array Slot), decode cX1_copyFrom pc = .ok (.return_, 1) → post σ1 → s_St G σ1 H0 H locs → W p l e rm_X1_copyFrom s m args below meth c H locs cells slots Q (F0 m pc ls [])) : ∀ (n : Nat) (x2 : Int32), ∀ {σ : Sg} {H : Heap} {locs : List Loc} {ls : Array Slot}, s_St G σ H0 H locs → lv_has ls 3 [(0, .ref (G.2.2 + k0)), (1, .ref (G.2.2 + k1)), (2, .int x2)] → BX1_copyFrom_18 k0 k1 post n x2 σ → W p l e rm_X1_copyFrom s m args below meth c H locs cells slots Q (F0 m 18 ls []) := by
  intro n
  induction n with
  | zero =>
    intro x2  σ H locs ls S hl h
    exact absurd h (fun h => h)
  | succ n ih0 =>
    have ih : ∀ (x2 : Int32), ∀ (σ : Sg) (H : Heap) (locs : List Loc) (ls : Array Slot), s_St G σ H0 H locs → lv_has ls 3 [(0, .ref (G.2.2 + k0)), (1, .ref (G.2.2 + k1)), (2, .int x2)] → BX1_copyFrom_18 k0 k1 post n x2 σ → W p l e rm_X1_copyFrom s m args below meth c H locs cells slots Q (F0 m 18 ls []) := fun x2  _ _ _ _ => ih0 x2 
    intro x2  σ H locs ls S hl h
    refine lv_iload_n C.1 C.2.1 dX1_copyFrom_18 rfl (lv_at hl 2 rfl) ?_
    refine lv_aload_n C.1 C.2.1 dX1_copyFrom_19 rfl (lv_at hl 0 rfl) ?_
    refine g_X1_0 C fl_X1_11 hk0 S rfl dX1_copyFrom_20 ?_
    refine a_len11 C ((kdf_X1_0 hk0)) S (v := (6 : Int32)) (by rw [(lnf_X1_0 hk0)]; rfl) dX1_copyFrom_23 ?_
    refine lv_icmp_ge (tgt := 47) C.1 C.2.1 dX1_copyFrom_24 (by decide) (fun c1 => ?_) (fun c1 => ?_)
    · replace h := h.1 c1
      exact hR _ _ _ _ _ dX1_copyFrom_47 h S
    · replace h := h.2 c1
      refine lv_aload_n C.1 C.2.1 dX1_copyFrom_27 rfl (lv_at hl 0 rfl) ?_
      refine g_X1_0 C fl_X1_11 hk0 S rfl dX1_copyFrom_28 ?_
      refine lv_iload_n C.1 C.2.1 dX1_copyFrom_31 rfl (lv_at hl 2 rfl) ?_
      have hq2 := (S.2.2 ((s_fin k0 0)) (x2).toNatClampNeg (vp_lt (lnf_X1_0 hk0) h.1)).1 ((kdf_X1_0 hk0))
      refine a_mld C ((kdf_X1_0 hk0)) S (lnf_X1_0 hk0) h.1 dX1_copyFrom_32 ?_
      replace h := h.2
      obtain ⟨q2, e3⟩ : ∃ z, z = (σ.2.2 (s_fin k0 0) (x2).toNatClampNeg) := ⟨_, rfl⟩
      rw [← e3] at hq2 ⊢
      replace h := h q2 e3
      refine lv_aload_n C.1 C.2.1 dX1_copyFrom_33 rfl (lv_at hl 1 rfl) ?_
      refine lv_iload_n C.1 C.2.1 dX1_copyFrom_34 rfl (lv_at hl 2 rfl) ?_
      refine k_r (kd := 3) (r_V (As := [.int x2]) (rest := [.ref (G.2.2 + q2)]) C hml (c_X1_at l G k1 x2 σ _ hk1 h) kM_X1_at im_X1_at se_X1_at ml_X1_29 ⟨rfl, rfl⟩ ⟨Nat.le_of_ble_eq_true rfl, Nat.le_of_ble_eq_true rfl⟩ hcs S.v hk1 (by decide) (T := TX1) (N := 4) rfl rfl hl.1 rfl (Nat.le_of_ble_eq_true rfl) dX1_copyFrom_35) S (fun q5 σ4 H locs hq5 h S => ?_)
      replace h := h hq5
      refine k_v (r_VN (As := [.ref (G.2.2 + q5)]) (rest := []) C hml (c_X3_copyFrom l G q2 q5 σ4 _ hq2 hq5 h) kM_X3_copyFrom im_X3_copyFrom se_X3_copyFrom nm_X1_33 ⟨rfl, rfl⟩ ⟨Nat.le_of_ble_eq_true rfl, Nat.le_of_ble_eq_true rfl⟩ hcs S.v hq2 (by decide) (T := TX3) (N := 6) rfl rfl hl.1 rfl (Nat.le_of_ble_eq_true rfl) dX1_copyFrom_38) S (fun σ6 H locs h S => ?_)
      refine lv_iinc (v := (x2 + 1)) (lv' := [(2, .int (x2 + 1)), (0, .ref (G.2.2 + k0)), (1, .ref (G.2.2 + k1))]) C.1 C.2.1 dX1_copyFrom_41 hl (k := 2) rfl rfl (by decide) rfl (fun ls hl => ?_)
      refine lv_goto (tgt := 18) C.1 C.2.1 dX1_copyFrom_44 (by decide) ?_
      exact ih ((x2 + 1)) _ _ _ _ S (lv_sub hl [1, 2, 0] rfl) h
theorem kM_X1_copyFrom : s_M yX1_copyFrom cX1_copyFrom 3 none 1 := ⟨co_X1_copyFrom, in_X1, by decide, by decide, by decide +kernel⟩
set_option maxHeartbeats 4000000 in
set_option maxRecDepth 100000 in
theorem c_X1_copyFrom (l : Launch) (G : s_G) (k0 : Nat) (k1 : Nat) (σ : Sg) (post : Sg → Prop) (hk0 : s_kd k0 = 1) (hk1 : s_kd k1 = 1) (h : wpX1_copyFrom k0 k1 σ post) : Met l yX1_copyFrom (wsU yX1_copyFrom cX1_copyFrom 3 none) rm_X1_copyFrom (va_Pc [.ref (G.2.2 + k0), .ref (G.2.2 + k1)] (s_Pre G σ)) (va_Qv post (s_B G) (s_A G.2.2)) 0 0 (s_A G.2.2) := by
  refine Met.ofW (cc := cX1_copyFrom) (maxL := 3) (ret := none) (by decide) rfl ?_
  intro p e s m args below meth c s₁ B hml hv
  obtain ⟨rfl, hP, hrok, hK, hN⟩ := hv
  have C : s_C G p s (([.ref (G.2.2 + k0), .ref (G.2.2 + k1)] : List Value).toArray) m c RX1 cX1_copyFrom := ⟨B.exec, B.bytes, findClass_of_methodNamed B.named, fun w hw => atoms_spec (ws := wsU yX1_copyFrom cX1_copyFrom 3 none) B.pre w (List.mem_cons_of_mem _ hw), hK, hN⟩
  have hr := B.returns
  have hlocks := B.notSynchronized
  have S : s_St G σ s.heap s.heap [] := ⟨hP, va_S.rf, hrok⟩
  have hcs : 0 ≤ (rm_X1_copyFrom).cells ∧ 0 ≤ (rm_X1_copyFrom).slots := ⟨Nat.le_refl 0, Nat.le_refl 0⟩
  have hR : ∀ (σ1 : Sg) (H : Heap) (locs : List Loc) (pc : Nat) (ls : Array Slot), decode cX1_copyFrom pc = .ok (.return_, 1) → post σ1 → s_St G σ1 s.heap H locs → W p l e rm_X1_copyFrom s m ([.ref (G.2.2 + k0), .ref (G.2.2 + k1)] : List Value).toArray below meth c H locs 0 0 (MQ below (va_Qv post (s_B G) (s_A G.2.2)) ([.ref (G.2.2 + k0), .ref (G.2.2 + k1)] : List Value).toArray s 0 0 (s_A G.2.2)) (F0 m pc ls []) := fun _ _ _ _ _ hd hp S => ret_v C hr hlocks hd hp S
  have hl := lv_entry ([.ref (G.2.2 + k0), .ref (G.2.2 + k1)]) (n := 3) (Nat.le_of_ble_eq_true rfl)
  rw [lg_entry_eq]
  generalize (lg_sl ([.ref (G.2.2 + k0), .ref (G.2.2 + k1)]) ++ List.replicate (3 - (lg_sl ([.ref (G.2.2 + k0), .ref (G.2.2 + k1)])).length) Slot.unset).toArray = ls at hl ⊢
  have hl : lv_has ls 3 [(0, .ref (G.2.2 + k0)), (1, .ref (G.2.2 + k1))] := hl
  unfold wpX1_copyFrom at h
  refine lv_aload_n C.1 C.2.1 dX1_copyFrom_0 rfl (lv_at hl 0 rfl) ?_
  refine lv_aload_n C.1 C.2.1 dX1_copyFrom_1 rfl (lv_at hl 1 rfl) ?_
  refine g_X1_2 C fl_X1_22 hk1 S dX1_copyFrom_2 ?_
  refine p_X1_2 C fl_X1_22 hk0 S dX1_copyFrom_5 (fun σ7 H locs e8 S => ?_)
  replace h := h σ7 e8
  refine lv_aload_n C.1 C.2.1 dX1_copyFrom_8 rfl (lv_at hl 0 rfl) ?_
  refine lv_aload_n C.1 C.2.1 dX1_copyFrom_9 rfl (lv_at hl 1 rfl) ?_
  refine g_X1_3 C fl_X1_26 hk1 S dX1_copyFrom_10 ?_
  refine p_X1_3 C fl_X1_26 hk0 S dX1_copyFrom_13 (fun σ9 H locs e10 S => ?_)
  replace h := h σ9 e10
  refine lv_iconst (v := (0 : Int32)) C.1 C.2.1 dX1_copyFrom_16 (by decide) ?_
  refine lv_istore_n (lv' := [(2, .int (0 : Int32)), (0, .ref (G.2.2 + k0)), (1, .ref (G.2.2 + k1))]) C.1 C.2.1 dX1_copyFrom_17 rfl hl (by decide) rfl (fun ls hl => ?_)
  obtain ⟨nf, h⟩ := h
  exact TX1_copyFrom_18 C hml hcs hk0 hk1 hR nf ((0 : Int32)) S (lv_sub hl [1, 2, 0] rfl) h
/-! X2_dropOldest -/
abbrev rm_X2_dropOldest : Room := { frames := 0, cells := 0, slots := 0, locals := 0 }
def BX2_dropOldest_9  (post : Sg → Prop) : Nat → Nat → Int32 → Sg → Prop
  | 0, _, _, _ => False
  | n + 1, k1, x2, σ => ((((8 : Int32) ≤ x2) → (vp_in (((8 : Int32) - (1 : Int32))) 8 ∧ (∀ σ2 : Sg, σ2 = setR σ 15 (((8 : Int32) - (1 : Int32))).toNatClampNeg k1 → (∀ σ4 : Sg, σ4 = setI σ2 14 1 (((8 : Int32) - (1 : Int32))) → post σ4)))) ∧ ((¬ (8 : Int32) ≤ x2) → (vp_in x2 8 ∧ (∀ q6 : Nat, q6 = (σ.2.2 15 (x2).toNatClampNeg) → (vp_in ((x2 - (1 : Int32))) 8 ∧ (∀ σ8 : Sg, σ8 = setR σ 15 ((x2 - (1 : Int32))).toNatClampNeg q6 → BX2_dropOldest_9 post n k1 ((x2 + 1)) σ8))))))
def wpX2_dropOldest  (σ : Sg) (post : Sg → Prop) : Prop := (vp_in ((0 : Int32)) 8 ∧ (∀ q10 : Nat, q10 = (σ.2.2 15 ((0 : Int32)).toNatClampNeg) → ∃ nf, BX2_dropOldest_9 post nf q10 ((1 : Int32)) σ))
set_option maxHeartbeats 4000000 in
set_option maxRecDepth 100000 in
theorem TX2_dropOldest_9 (C : s_C G p s args m c RX2 cX2_dropOldest) (hml : c.maxLocals = 3) (hcs : cells ≤ (rm_X2_dropOldest).cells ∧ slots ≤ (rm_X2_dropOldest).slots)  {post : Sg → Prop} (hR : ∀ (σ1 : Sg) (H : Heap) (locs : List Loc) (pc : Nat) (ls : Array Slot), decode cX2_dropOldest pc = .ok (.return_, 1) → post σ1 → s_St G σ1 H0 H locs → W p l e rm_X2_dropOldest s m args below meth c H locs cells slots Q (F0 m pc ls [])) : ∀ (n : Nat) (k1 : Nat) (x2 : Int32), s_kd k1 = 1 → ∀ {σ : Sg} {H : Heap} {locs : List Loc} {ls : Array Slot}, s_St G σ H0 H locs → lv_has ls 3 [(0, .ref (G.2.2 + 14)), (1, .ref (G.2.2 + k1)), (2, .int x2)] → BX2_dropOldest_9 post n k1 x2 σ → W p l e rm_X2_dropOldest s m args below meth c H locs cells slots Q (F0 m 9 ls []) := by
  intro n
  induction n with
  | zero =>
    intro k1 x2 hk1 σ H locs ls S hl h
    exact absurd h (fun h => h)
  | succ n ih0 =>
    have ih : ∀ (k1 : Nat) (x2 : Int32), s_kd k1 = 1 → ∀ (σ : Sg) (H : Heap) (locs : List Loc) (ls : Array Slot), s_St G σ H0 H locs → lv_has ls 3 [(0, .ref (G.2.2 + 14)), (1, .ref (G.2.2 + k1)), (2, .int x2)] → BX2_dropOldest_9 post n k1 x2 σ → W p l e rm_X2_dropOldest s m args below meth c H locs cells slots Q (F0 m 9 ls []) := fun k1 x2 hk1 _ _ _ _ => ih0 k1 x2 hk1
    intro k1 x2 hk1 σ H locs ls S hl h
    refine lv_iload_n C.1 C.2.1 dX2_dropOldest_9 rfl (lv_at hl 2 rfl) ?_
    refine lv_aload_n C.1 C.2.1 dX2_dropOldest_10 rfl (lv_at hl 0 rfl) ?_
    refine g_X2_0 C fl_X2_11 kd_14 S fn_14_0 dX2_dropOldest_11 ?_
    refine a_len12 C kd_15 S (v := (8 : Int32)) (by rw [ln_15]; rfl) dX2_dropOldest_14 ?_
    refine lv_icmp_ge (tgt := 38) C.1 C.2.1 dX2_dropOldest_15 (by decide) (fun c1 => ?_) (fun c1 => ?_)
    · replace h := h.1 c1
      refine lv_aload_n C.1 C.2.1 dX2_dropOldest_38 rfl (lv_at hl 0 rfl) ?_
      refine g_X2_0 C fl_X2_11 kd_14 S fn_14_0 dX2_dropOldest_39 ?_
      refine lv_aload_n C.1 C.2.1 dX2_dropOldest_42 rfl (lv_at hl 0 rfl) ?_
      refine g_X2_0 C fl_X2_11 kd_14 S fn_14_0 dX2_dropOldest_43 ?_
      refine a_len12 C kd_15 S (v := (8 : Int32)) (by rw [ln_15]; rfl) dX2_dropOldest_46 ?_
      refine lv_iconst (v := (1 : Int32)) C.1 C.2.1 dX2_dropOldest_47 (by decide) ?_
      refine lv_isub C.1 C.2.1 dX2_dropOldest_48 ?_
      refine lv_aload_n C.1 C.2.1 dX2_dropOldest_49 rfl (lv_at hl 1 rfl) ?_
      refine a_dst C kd_15 S hk1 ln_15 h.1 dX2_dropOldest_50 (fun σ2 H locs e3 S => ?_)
      replace h := h.2 σ2 e3
      refine lv_aload_n C.1 C.2.1 dX2_dropOldest_51 rfl (lv_at hl 0 rfl) ?_
      refine lv_aload_n C.1 C.2.1 dX2_dropOldest_52 rfl (lv_at hl 0 rfl) ?_
      refine g_X2_0 C fl_X2_11 kd_14 S fn_14_0 dX2_dropOldest_53 ?_
      refine a_len12 C kd_15 S (v := (8 : Int32)) (by rw [ln_15]; rfl) dX2_dropOldest_56 ?_
      refine lv_iconst (v := (1 : Int32)) C.1 C.2.1 dX2_dropOldest_57 (by decide) ?_
      refine lv_isub C.1 C.2.1 dX2_dropOldest_58 ?_
      refine p_X2_1 C fl_X2_18 kd_14 S dX2_dropOldest_59 (fun σ4 H locs e5 S => ?_)
      replace h := h σ4 e5
      exact hR _ _ _ _ _ dX2_dropOldest_62 h S
    · replace h := h.2 c1
      refine lv_aload_n C.1 C.2.1 dX2_dropOldest_18 rfl (lv_at hl 0 rfl) ?_
      refine g_X2_0 C fl_X2_11 kd_14 S fn_14_0 dX2_dropOldest_19 ?_
      refine lv_iload_n C.1 C.2.1 dX2_dropOldest_22 rfl (lv_at hl 2 rfl) ?_
      refine lv_iconst (v := (1 : Int32)) C.1 C.2.1 dX2_dropOldest_23 (by decide) ?_
      refine lv_isub C.1 C.2.1 dX2_dropOldest_24 ?_
      refine lv_aload_n C.1 C.2.1 dX2_dropOldest_25 rfl (lv_at hl 0 rfl) ?_
      refine g_X2_0 C fl_X2_11 kd_14 S fn_14_0 dX2_dropOldest_26 ?_
      refine lv_iload_n C.1 C.2.1 dX2_dropOldest_29 rfl (lv_at hl 2 rfl) ?_
      have hq6 := (S.2.2 15 (x2).toNatClampNeg (vp_lt ln_15 h.1)).2 kd_15
      refine a_dld C kd_15 S ln_15 h.1 dX2_dropOldest_30 ?_
      replace h := h.2
      obtain ⟨q6, e7⟩ : ∃ z, z = (σ.2.2 15 (x2).toNatClampNeg) := ⟨_, rfl⟩
      rw [← e7] at hq6 ⊢
      replace h := h q6 e7
      refine a_dst C kd_15 S hq6 ln_15 h.1 dX2_dropOldest_31 (fun σ8 H locs e9 S => ?_)
      replace h := h.2 σ8 e9
      refine lv_iinc (v := (x2 + 1)) (lv' := [(2, .int (x2 + 1)), (0, .ref (G.2.2 + 14)), (1, .ref (G.2.2 + k1))]) C.1 C.2.1 dX2_dropOldest_32 hl (k := 2) rfl rfl (by decide) rfl (fun ls hl => ?_)
      refine lv_goto (tgt := 9) C.1 C.2.1 dX2_dropOldest_35 (by decide) ?_
      exact ih k1 ((x2 + 1)) hk1 _ _ _ _ S (lv_sub hl [1, 2, 0] rfl) h
theorem kM_X2_dropOldest : s_M yX2_dropOldest cX2_dropOldest 3 none 0 := ⟨co_X2_dropOldest, in_X2, by decide, by decide, by decide +kernel⟩
set_option maxHeartbeats 4000000 in
set_option maxRecDepth 100000 in
theorem c_X2_dropOldest (l : Launch) (G : s_G)  (σ : Sg) (post : Sg → Prop) (h : wpX2_dropOldest σ post) : Met l yX2_dropOldest (wsU yX2_dropOldest cX2_dropOldest 3 none) rm_X2_dropOldest (va_Pc [.ref (G.2.2 + 14)] (s_Pre G σ)) (va_Qv post (s_B G) (s_A G.2.2)) 0 0 (s_A G.2.2) := by
  refine Met.ofW (cc := cX2_dropOldest) (maxL := 3) (ret := none) (by decide) rfl ?_
  intro p e s m args below meth c s₁ B hml hv
  obtain ⟨rfl, hP, hrok, hK, hN⟩ := hv
  have C : s_C G p s (([.ref (G.2.2 + 14)] : List Value).toArray) m c RX2 cX2_dropOldest := ⟨B.exec, B.bytes, findClass_of_methodNamed B.named, fun w hw => atoms_spec (ws := wsU yX2_dropOldest cX2_dropOldest 3 none) B.pre w (List.mem_cons_of_mem _ hw), hK, hN⟩
  have hr := B.returns
  have hlocks := B.notSynchronized
  have S : s_St G σ s.heap s.heap [] := ⟨hP, va_S.rf, hrok⟩
  have hcs : 0 ≤ (rm_X2_dropOldest).cells ∧ 0 ≤ (rm_X2_dropOldest).slots := ⟨Nat.le_refl 0, Nat.le_refl 0⟩
  have hR : ∀ (σ1 : Sg) (H : Heap) (locs : List Loc) (pc : Nat) (ls : Array Slot), decode cX2_dropOldest pc = .ok (.return_, 1) → post σ1 → s_St G σ1 s.heap H locs → W p l e rm_X2_dropOldest s m ([.ref (G.2.2 + 14)] : List Value).toArray below meth c H locs 0 0 (MQ below (va_Qv post (s_B G) (s_A G.2.2)) ([.ref (G.2.2 + 14)] : List Value).toArray s 0 0 (s_A G.2.2)) (F0 m pc ls []) := fun _ _ _ _ _ hd hp S => ret_v C hr hlocks hd hp S
  have hl := lv_entry ([.ref (G.2.2 + 14)]) (n := 3) (Nat.le_of_ble_eq_true rfl)
  rw [lg_entry_eq]
  generalize (lg_sl ([.ref (G.2.2 + 14)]) ++ List.replicate (3 - (lg_sl ([.ref (G.2.2 + 14)])).length) Slot.unset).toArray = ls at hl ⊢
  have hl : lv_has ls 3 [(0, .ref (G.2.2 + 14))] := hl
  unfold wpX2_dropOldest at h
  refine lv_aload_n C.1 C.2.1 dX2_dropOldest_0 rfl (lv_at hl 0 rfl) ?_
  refine g_X2_0 C fl_X2_11 kd_14 S fn_14_0 dX2_dropOldest_1 ?_
  refine lv_iconst (v := (0 : Int32)) C.1 C.2.1 dX2_dropOldest_4 (by decide) ?_
  have hq10 := (S.2.2 15 ((0 : Int32)).toNatClampNeg (vp_lt ln_15 h.1)).2 kd_15
  refine a_dld C kd_15 S ln_15 h.1 dX2_dropOldest_5 ?_
  replace h := h.2
  obtain ⟨q10, e11⟩ : ∃ z, z = (σ.2.2 15 ((0 : Int32)).toNatClampNeg) := ⟨_, rfl⟩
  rw [← e11] at hq10 ⊢
  replace h := h q10 e11
  refine lv_astore_n (lv' := [(1, .ref (G.2.2 + q10)), (0, .ref (G.2.2 + 14))]) C.1 C.2.1 dX2_dropOldest_6 rfl hl (by decide) rfl (fun ls hl => ?_)
  refine lv_iconst (v := (1 : Int32)) C.1 C.2.1 dX2_dropOldest_7 (by decide) ?_
  refine lv_istore_n (lv' := [(2, .int (1 : Int32)), (1, .ref (G.2.2 + q10)), (0, .ref (G.2.2 + 14))]) C.1 C.2.1 dX2_dropOldest_8 rfl hl (by decide) rfl (fun ls hl => ?_)
  obtain ⟨nf, h⟩ := h
  exact TX2_dropOldest_9 C hml hcs hR nf q10 ((1 : Int32)) hq10 S (lv_sub hl [2, 1, 0] rfl) h
/-! X2_record -/
abbrev rm_X2_record : Room := { frames := 2, cells := 0, slots := 0, locals := 43 }
def BX2_record_16  (post : Sg → Prop)  (σ : Sg) : Prop := ((((σ.1 14 1) < 0) → post σ) ∧ ((¬ (σ.1 14 1) < 0) → ((((8 : Int32) ≤ (σ.1 14 1)) → post σ) ∧ ((¬ (8 : Int32) ≤ (σ.1 14 1)) → (vp_in ((σ.1 14 1)) 8 ∧ (∀ q3 : Nat, q3 = (σ.2.2 15 ((σ.1 14 1)).toNatClampNeg) → wpX1_copyFrom q3 5 σ (fun σ5 => (∀ σ6 : Sg, σ6 = setI σ5 14 1 (((σ5.1 14 1) + (1 : Int32))) → post σ6))))))))
def wpX2_record  (σ : Sg) (post : Sg → Prop) : Prop := ((((σ.1 14 1) < (8 : Int32)) → BX2_record_16 post σ) ∧ ((¬ (σ.1 14 1) < (8 : Int32)) → wpX2_dropOldest σ (fun σ9 => BX2_record_16 post σ9)))
set_option maxHeartbeats 4000000 in
set_option maxRecDepth 100000 in
theorem TX2_record_16 (C : s_C G p s args m c RX2 cX2_record) (hml : c.maxLocals = 2) (hcs : cells ≤ (rm_X2_record).cells ∧ slots ≤ (rm_X2_record).slots)  {post : Sg → Prop} (hR : ∀ (σ1 : Sg) (H : Heap) (locs : List Loc) (pc : Nat) (ls : Array Slot), decode cX2_record pc = .ok (.return_, 1) → post σ1 → s_St G σ1 H0 H locs → W p l e rm_X2_record s m args below meth c H locs cells slots Q (F0 m pc ls [])) : ∀ {σ : Sg} {H : Heap} {locs : List Loc} {ls : Array Slot}, s_St G σ H0 H locs → lv_has ls 2 [(0, .ref (G.2.2 + 14)), (1, .ref (G.2.2 + 5))] → BX2_record_16 post σ → W p l e rm_X2_record s m args below meth c H locs cells slots Q (F0 m 16 ls []) := by
  intro   σ H locs ls S hl h
  unfold BX2_record_16 at h
  refine lv_aload_n C.1 C.2.1 dX2_record_16 rfl (lv_at hl 0 rfl) ?_
  refine g_X2_1 C fl_X2_18 kd_14 S dX2_record_17 ?_
  refine lv_if_lt (tgt := 58) C.1 C.2.1 dX2_record_20 (by decide) (fun c1 => ?_) (fun c1 => ?_)
  · replace h := h.1 c1
    exact hR _ _ _ _ _ dX2_record_58 h S
  · replace h := h.2 c1
    refine lv_aload_n C.1 C.2.1 dX2_record_23 rfl (lv_at hl 0 rfl) ?_
    refine g_X2_1 C fl_X2_18 kd_14 S dX2_record_24 ?_
    refine lv_aload_n C.1 C.2.1 dX2_record_27 rfl (lv_at hl 0 rfl) ?_
    refine g_X2_0 C fl_X2_11 kd_14 S fn_14_0 dX2_record_28 ?_
    refine a_len12 C kd_15 S (v := (8 : Int32)) (by rw [ln_15]; rfl) dX2_record_31 ?_
    refine lv_icmp_ge (tgt := 58) C.1 C.2.1 dX2_record_32 (by decide) (fun c2 => ?_) (fun c2 => ?_)
    · replace h := h.1 c2
      exact hR _ _ _ _ _ dX2_record_58 h S
    · replace h := h.2 c2
      refine lv_aload_n C.1 C.2.1 dX2_record_35 rfl (lv_at hl 0 rfl) ?_
      refine g_X2_0 C fl_X2_11 kd_14 S fn_14_0 dX2_record_36 ?_
      refine lv_aload_n C.1 C.2.1 dX2_record_39 rfl (lv_at hl 0 rfl) ?_
      refine g_X2_1 C fl_X2_18 kd_14 S dX2_record_40 ?_
      have hq3 := (S.2.2 15 ((σ.1 14 1)).toNatClampNeg (vp_lt ln_15 h.1)).2 kd_15
      refine a_dld C kd_15 S ln_15 h.1 dX2_record_43 ?_
      replace h := h.2
      obtain ⟨q3, e4⟩ : ∃ z, z = (σ.2.2 15 ((σ.1 14 1)).toNatClampNeg) := ⟨_, rfl⟩
      rw [← e4] at hq3 ⊢
      replace h := h q3 e4
      refine lv_aload_n C.1 C.2.1 dX2_record_44 rfl (lv_at hl 1 rfl) ?_
      refine k_v (r_VN (As := [.ref (G.2.2 + 5)]) (rest := []) C hml (c_X1_copyFrom l G q3 5 σ _ hq3 kd_5 h) kM_X1_copyFrom im_X1_copyFrom se_X1_copyFrom nm_X2_25 ⟨rfl, rfl⟩ ⟨Nat.le_of_ble_eq_true rfl, Nat.le_of_ble_eq_true rfl⟩ hcs S.v hq3 (by decide) (T := TX1) (N := 4) rfl rfl hl.1 rfl (Nat.le_of_ble_eq_true rfl) dX2_record_45) S (fun σ5 H locs h S => ?_)
      refine lv_aload_n C.1 C.2.1 dX2_record_48 rfl (lv_at hl 0 rfl) ?_
      refine lv_dup C.1 C.2.1 dX2_record_49 rfl ?_
      refine g_X2_1 C fl_X2_18 kd_14 S dX2_record_50 ?_
      refine lv_iconst (v := (1 : Int32)) C.1 C.2.1 dX2_record_53 (by decide) ?_
      refine lv_iadd C.1 C.2.1 dX2_record_54 ?_
      refine p_X2_1 C fl_X2_18 kd_14 S dX2_record_55 (fun σ6 H locs e7 S => ?_)
      replace h := h σ6 e7
      exact hR _ _ _ _ _ dX2_record_58 h S
theorem kM_X2_record : s_M yX2_record cX2_record 2 none 1 := ⟨co_X2_record, in_X2, by decide, by decide, by decide +kernel⟩
set_option maxHeartbeats 4000000 in
set_option maxRecDepth 100000 in
theorem c_X2_record (l : Launch) (G : s_G)  (σ : Sg) (post : Sg → Prop) (h : wpX2_record σ post) : Met l yX2_record (wsU yX2_record cX2_record 2 none) rm_X2_record (va_Pc [.ref (G.2.2 + 14), .ref (G.2.2 + 5)] (s_Pre G σ)) (va_Qv post (s_B G) (s_A G.2.2)) 0 0 (s_A G.2.2) := by
  refine Met.ofW (cc := cX2_record) (maxL := 2) (ret := none) (by decide) rfl ?_
  intro p e s m args below meth c s₁ B hml hv
  obtain ⟨rfl, hP, hrok, hK, hN⟩ := hv
  have C : s_C G p s (([.ref (G.2.2 + 14), .ref (G.2.2 + 5)] : List Value).toArray) m c RX2 cX2_record := ⟨B.exec, B.bytes, findClass_of_methodNamed B.named, fun w hw => atoms_spec (ws := wsU yX2_record cX2_record 2 none) B.pre w (List.mem_cons_of_mem _ hw), hK, hN⟩
  have hr := B.returns
  have hlocks := B.notSynchronized
  have S : s_St G σ s.heap s.heap [] := ⟨hP, va_S.rf, hrok⟩
  have hcs : 0 ≤ (rm_X2_record).cells ∧ 0 ≤ (rm_X2_record).slots := ⟨Nat.le_refl 0, Nat.le_refl 0⟩
  have hR : ∀ (σ1 : Sg) (H : Heap) (locs : List Loc) (pc : Nat) (ls : Array Slot), decode cX2_record pc = .ok (.return_, 1) → post σ1 → s_St G σ1 s.heap H locs → W p l e rm_X2_record s m ([.ref (G.2.2 + 14), .ref (G.2.2 + 5)] : List Value).toArray below meth c H locs 0 0 (MQ below (va_Qv post (s_B G) (s_A G.2.2)) ([.ref (G.2.2 + 14), .ref (G.2.2 + 5)] : List Value).toArray s 0 0 (s_A G.2.2)) (F0 m pc ls []) := fun _ _ _ _ _ hd hp S => ret_v C hr hlocks hd hp S
  have hl := lv_entry ([.ref (G.2.2 + 14), .ref (G.2.2 + 5)]) (n := 2) (Nat.le_of_ble_eq_true rfl)
  rw [lg_entry_eq]
  generalize (lg_sl ([.ref (G.2.2 + 14), .ref (G.2.2 + 5)]) ++ List.replicate (2 - (lg_sl ([.ref (G.2.2 + 14), .ref (G.2.2 + 5)])).length) Slot.unset).toArray = ls at hl ⊢
  have hl : lv_has ls 2 [(0, .ref (G.2.2 + 14)), (1, .ref (G.2.2 + 5))] := hl
  unfold wpX2_record at h
  refine lv_aload_n C.1 C.2.1 dX2_record_0 rfl (lv_at hl 0 rfl) ?_
  refine g_X2_1 C fl_X2_18 kd_14 S dX2_record_1 ?_
  refine lv_aload_n C.1 C.2.1 dX2_record_4 rfl (lv_at hl 0 rfl) ?_
  refine g_X2_0 C fl_X2_11 kd_14 S fn_14_0 dX2_record_5 ?_
  refine a_len12 C kd_15 S (v := (8 : Int32)) (by rw [ln_15]; rfl) dX2_record_8 ?_
  refine lv_icmp_lt (tgt := 16) C.1 C.2.1 dX2_record_9 (by decide) (fun c8 => ?_) (fun c8 => ?_)
  · replace h := h.1 c8
    exact TX2_record_16 C hml hcs hR S (lv_sub hl [0, 1] rfl) h
  · replace h := h.2 c8
    refine lv_aload_n C.1 C.2.1 dX2_record_12 rfl (lv_at hl 0 rfl) ?_
    refine k_v (r_V (As := []) (rest := []) C hml (c_X2_dropOldest l G σ _ h) kM_X2_dropOldest im_X2_dropOldest se_X2_dropOldest ml_X2_22 ⟨rfl, rfl⟩ ⟨Nat.le_of_ble_eq_true rfl, Nat.le_of_ble_eq_true rfl⟩ hcs S.v kd_14 (by decide) (T := TX2) (N := 2) rfl rfl hl.1 rfl (Nat.le_of_ble_eq_true rfl) dX2_record_13) S (fun σ9 H locs h S => ?_)
    exact TX2_record_16 C hml hcs hR S (lv_sub hl [0, 1] rfl) h
/-! X4_forget -/
abbrev rm_X4_forget : Room := { frames := 0, cells := 0, slots := 0, locals := 0 }
def wpX4_forget  (σ : Sg) (post : Sg → Prop) : Prop := (∀ σ1 : Sg, σ1 = setI σ 97 1 ((-2 : Int32)) → post σ1)
theorem kM_X4_forget : s_M yX4_forget cX4_forget 1 none 0 := ⟨co_X4_forget, in_X4, by decide, by decide, by decide +kernel⟩
set_option maxHeartbeats 4000000 in
set_option maxRecDepth 100000 in
theorem c_X4_forget (l : Launch) (G : s_G)  (σ : Sg) (post : Sg → Prop) (h : wpX4_forget σ post) : Met l yX4_forget (wsU yX4_forget cX4_forget 1 none) rm_X4_forget (va_Pc [.ref (G.2.2 + 97)] (s_Pre G σ)) (va_Qv post (s_B G) (s_A G.2.2)) 0 0 (s_A G.2.2) := by
  refine Met.ofW (cc := cX4_forget) (maxL := 1) (ret := none) (by decide) rfl ?_
  intro p e s m args below meth c s₁ B hml hv
  obtain ⟨rfl, hP, hrok, hK, hN⟩ := hv
  have C : s_C G p s (([.ref (G.2.2 + 97)] : List Value).toArray) m c RX4 cX4_forget := ⟨B.exec, B.bytes, findClass_of_methodNamed B.named, fun w hw => atoms_spec (ws := wsU yX4_forget cX4_forget 1 none) B.pre w (List.mem_cons_of_mem _ hw), hK, hN⟩
  have hr := B.returns
  have hlocks := B.notSynchronized
  have S : s_St G σ s.heap s.heap [] := ⟨hP, va_S.rf, hrok⟩
  have hcs : 0 ≤ (rm_X4_forget).cells ∧ 0 ≤ (rm_X4_forget).slots := ⟨Nat.le_refl 0, Nat.le_refl 0⟩
  have hR : ∀ (σ1 : Sg) (H : Heap) (locs : List Loc) (pc : Nat) (ls : Array Slot), decode cX4_forget pc = .ok (.return_, 1) → post σ1 → s_St G σ1 s.heap H locs → W p l e rm_X4_forget s m ([.ref (G.2.2 + 97)] : List Value).toArray below meth c H locs 0 0 (MQ below (va_Qv post (s_B G) (s_A G.2.2)) ([.ref (G.2.2 + 97)] : List Value).toArray s 0 0 (s_A G.2.2)) (F0 m pc ls []) := fun _ _ _ _ _ hd hp S => ret_v C hr hlocks hd hp S
  have hl := lv_entry ([.ref (G.2.2 + 97)]) (n := 1) (Nat.le_of_ble_eq_true rfl)
  rw [lg_entry_eq]
  generalize (lg_sl ([.ref (G.2.2 + 97)]) ++ List.replicate (1 - (lg_sl ([.ref (G.2.2 + 97)])).length) Slot.unset).toArray = ls at hl ⊢
  have hl : lv_has ls 1 [(0, .ref (G.2.2 + 97))] := hl
  unfold wpX4_forget at h
  refine lv_aload_n C.1 C.2.1 dX4_forget_0 rfl (lv_at hl 0 rfl) ?_
  refine lv_bipush (v := (-2 : Int32)) C.1 C.2.1 dX4_forget_1 (by decide) ?_
  refine p_X4_1 C fl_X4_15 kd_97 S dX4_forget_3 (fun σ1 H locs e2 S => ?_)
  replace h := h σ1 e2
  exact hR _ _ _ _ _ dX4_forget_6 h S
/-! X6_forgetTables -/
abbrev rm_X6_forgetTables : Room := { frames := 1, cells := 0, slots := 0, locals := 20 }
def wpX6_forgetTables  (σ : Sg) (post : Sg → Prop) : Prop := wpX5_forget σ (fun σ1 => wpX4_forget σ1 (fun σ2 => post σ2))
theorem kM_X6_forgetTables : s_M yX6_forgetTables cX6_forgetTables 1 none 0 := ⟨co_X6_forgetTables, in_X6, by decide, by decide, by decide +kernel⟩
set_option maxHeartbeats 4000000 in
set_option maxRecDepth 100000 in
theorem c_X6_forgetTables (l : Launch) (G : s_G)  (σ : Sg) (post : Sg → Prop) (h : wpX6_forgetTables σ post) : Met l yX6_forgetTables (wsU yX6_forgetTables cX6_forgetTables 1 none) rm_X6_forgetTables (va_Pc [.ref (G.2.2 + 0)] (s_Pre G σ)) (va_Qv post (s_B G) (s_A G.2.2)) 0 0 (s_A G.2.2) := by
  refine Met.ofW (cc := cX6_forgetTables) (maxL := 1) (ret := none) (by decide) rfl ?_
  intro p e s m args below meth c s₁ B hml hv
  obtain ⟨rfl, hP, hrok, hK, hN⟩ := hv
  have C : s_C G p s (([.ref (G.2.2 + 0)] : List Value).toArray) m c RX6 cX6_forgetTables := ⟨B.exec, B.bytes, findClass_of_methodNamed B.named, fun w hw => atoms_spec (ws := wsU yX6_forgetTables cX6_forgetTables 1 none) B.pre w (List.mem_cons_of_mem _ hw), hK, hN⟩
  have hr := B.returns
  have hlocks := B.notSynchronized
  have S : s_St G σ s.heap s.heap [] := ⟨hP, va_S.rf, hrok⟩
  have hcs : 0 ≤ (rm_X6_forgetTables).cells ∧ 0 ≤ (rm_X6_forgetTables).slots := ⟨Nat.le_refl 0, Nat.le_refl 0⟩
  have hR : ∀ (σ1 : Sg) (H : Heap) (locs : List Loc) (pc : Nat) (ls : Array Slot), decode cX6_forgetTables pc = .ok (.return_, 1) → post σ1 → s_St G σ1 s.heap H locs → W p l e rm_X6_forgetTables s m ([.ref (G.2.2 + 0)] : List Value).toArray below meth c H locs 0 0 (MQ below (va_Qv post (s_B G) (s_A G.2.2)) ([.ref (G.2.2 + 0)] : List Value).toArray s 0 0 (s_A G.2.2)) (F0 m pc ls []) := fun _ _ _ _ _ hd hp S => ret_v C hr hlocks hd hp S
  have hl := lv_entry ([.ref (G.2.2 + 0)]) (n := 1) (Nat.le_of_ble_eq_true rfl)
  rw [lg_entry_eq]
  generalize (lg_sl ([.ref (G.2.2 + 0)]) ++ List.replicate (1 - (lg_sl ([.ref (G.2.2 + 0)])).length) Slot.unset).toArray = ls at hl ⊢
  have hl : lv_has ls 1 [(0, .ref (G.2.2 + 0))] := hl
  unfold wpX6_forgetTables at h
  refine lv_aload_n C.1 C.2.1 dX6_forgetTables_0 rfl (lv_at hl 0 rfl) ?_
  refine g_X6_6 C fl_X6_44 kd_0 S fn_0_6 dX6_forgetTables_1 ?_
  refine k_v (r_VN (As := []) (rest := []) C hml (c_X5_forget l G σ _ h) kM_X5_forget im_X5_forget se_X5_forget nm_X6_59 ⟨rfl, rfl⟩ ⟨Nat.le_of_ble_eq_true rfl, Nat.le_of_ble_eq_true rfl⟩ hcs S.v kd_90 (by decide) (T := TX5) (N := 8) rfl rfl hl.1 rfl (Nat.le_of_ble_eq_true rfl) dX6_forgetTables_4) S (fun σ1 H locs h S => ?_)
  refine lv_aload_n C.1 C.2.1 dX6_forgetTables_7 rfl (lv_at hl 0 rfl) ?_
  refine g_X6_7 C fl_X6_51 kd_0 S fn_0_7 dX6_forgetTables_8 ?_
  refine k_v (r_VN (As := []) (rest := []) C hml (c_X4_forget l G σ1 _ h) kM_X4_forget im_X4_forget se_X4_forget nm_X6_138 ⟨rfl, rfl⟩ ⟨Nat.le_of_ble_eq_true rfl, Nat.le_of_ble_eq_true rfl⟩ hcs S.v kd_97 (by decide) (T := TX4) (N := 2) rfl rfl hl.1 rfl (Nat.le_of_ble_eq_true rfl) dX6_forgetTables_11) S (fun σ2 H locs h S => ?_)
  exact hR _ _ _ _ _ dX6_forgetTables_14 h S
/-! X6_beginChange -/
abbrev rm_X6_beginChange : Room := { frames := 3, cells := 0, slots := 0, locals := 64 }
def wpX6_beginChange  (σ : Sg) (post : Sg → Prop) : Prop := wpX2_record σ (fun σ1 => wpX6_forgetTables σ1 (fun σ2 => post σ2))
theorem kM_X6_beginChange : s_M yX6_beginChange cX6_beginChange 1 none 0 := ⟨co_X6_beginChange, in_X6, by decide, by decide, by decide +kernel⟩
set_option maxHeartbeats 4000000 in
set_option maxRecDepth 100000 in
theorem c_X6_beginChange (l : Launch) (G : s_G)  (σ : Sg) (post : Sg → Prop) (h : wpX6_beginChange σ post) : Met l yX6_beginChange (wsU yX6_beginChange cX6_beginChange 1 none) rm_X6_beginChange (va_Pc [.ref (G.2.2 + 0)] (s_Pre G σ)) (va_Qv post (s_B G) (s_A G.2.2)) 0 0 (s_A G.2.2) := by
  refine Met.ofW (cc := cX6_beginChange) (maxL := 1) (ret := none) (by decide) rfl ?_
  intro p e s m args below meth c s₁ B hml hv
  obtain ⟨rfl, hP, hrok, hK, hN⟩ := hv
  have C : s_C G p s (([.ref (G.2.2 + 0)] : List Value).toArray) m c RX6 cX6_beginChange := ⟨B.exec, B.bytes, findClass_of_methodNamed B.named, fun w hw => atoms_spec (ws := wsU yX6_beginChange cX6_beginChange 1 none) B.pre w (List.mem_cons_of_mem _ hw), hK, hN⟩
  have hr := B.returns
  have hlocks := B.notSynchronized
  have S : s_St G σ s.heap s.heap [] := ⟨hP, va_S.rf, hrok⟩
  have hcs : 0 ≤ (rm_X6_beginChange).cells ∧ 0 ≤ (rm_X6_beginChange).slots := ⟨Nat.le_refl 0, Nat.le_refl 0⟩
  have hR : ∀ (σ1 : Sg) (H : Heap) (locs : List Loc) (pc : Nat) (ls : Array Slot), decode cX6_beginChange pc = .ok (.return_, 1) → post σ1 → s_St G σ1 s.heap H locs → W p l e rm_X6_beginChange s m ([.ref (G.2.2 + 0)] : List Value).toArray below meth c H locs 0 0 (MQ below (va_Qv post (s_B G) (s_A G.2.2)) ([.ref (G.2.2 + 0)] : List Value).toArray s 0 0 (s_A G.2.2)) (F0 m pc ls []) := fun _ _ _ _ _ hd hp S => ret_v C hr hlocks hd hp S
  have hl := lv_entry ([.ref (G.2.2 + 0)]) (n := 1) (Nat.le_of_ble_eq_true rfl)
  rw [lg_entry_eq]
  generalize (lg_sl ([.ref (G.2.2 + 0)]) ++ List.replicate (1 - (lg_sl ([.ref (G.2.2 + 0)])).length) Slot.unset).toArray = ls at hl ⊢
  have hl : lv_has ls 1 [(0, .ref (G.2.2 + 0))] := hl
  unfold wpX6_beginChange at h
  refine lv_aload_n C.1 C.2.1 dX6_beginChange_0 rfl (lv_at hl 0 rfl) ?_
  refine g_X6_3 C fl_X6_29 kd_0 S fn_0_3 dX6_beginChange_1 ?_
  refine lv_aload_n C.1 C.2.1 dX6_beginChange_4 rfl (lv_at hl 0 rfl) ?_
  refine g_X6_2 C fl_X6_22 kd_0 S fn_0_2 dX6_beginChange_5 ?_
  refine k_v (r_VN (As := [.ref (G.2.2 + 5)]) (rest := []) C hml (c_X2_record l G σ _ h) kM_X2_record im_X2_record se_X2_record nm_X6_135 ⟨rfl, rfl⟩ ⟨Nat.le_of_ble_eq_true rfl, Nat.le_of_ble_eq_true rfl⟩ hcs S.v kd_14 (by decide) (T := TX2) (N := 2) rfl rfl hl.1 rfl (Nat.le_of_ble_eq_true rfl) dX6_beginChange_8) S (fun σ1 H locs h S => ?_)
  refine lv_aload_n C.1 C.2.1 dX6_beginChange_11 rfl (lv_at hl 0 rfl) ?_
  refine k_v (r_V (As := []) (rest := []) C hml (c_X6_forgetTables l G σ1 _ h) kM_X6_forgetTables im_X6_forgetTables se_X6_forgetTables ml_X6_132 ⟨rfl, rfl⟩ ⟨Nat.le_of_ble_eq_true rfl, Nat.le_of_ble_eq_true rfl⟩ hcs S.v kd_0 (by decide) (T := TX6) (N := 8) rfl rfl hl.1 rfl (Nat.le_of_ble_eq_true rfl) dX6_beginChange_12) S (fun σ2 H locs h S => ?_)
  exact hR _ _ _ _ _ dX6_beginChange_15 h S
/-! X6_isImage -/
abbrev rm_X6_isImage : Room := { frames := 0, cells := 0, slots := 0, locals := 0 }
def wpX6_isImage (x1 : Int32) (σ : Sg) (post : Int32 → Sg → Prop) : Prop := (((x1 < 0) → post (0 : Int32) σ) ∧ ((¬ x1 < 0) → ((((2 : Int32) ≤ x1) → post (0 : Int32) σ) ∧ ((¬ (2 : Int32) ≤ x1) → ((((2 : Int32) ≤ x1) → post (0 : Int32) σ) ∧ ((¬ (2 : Int32) ≤ x1) → post (1 : Int32) σ))))))
theorem kM_X6_isImage : s_M yX6_isImage cX6_isImage 2 (some .boolean) 1 := ⟨co_X6_isImage, in_X6, by decide, by decide, by decide +kernel⟩
set_option maxHeartbeats 4000000 in
set_option maxRecDepth 100000 in
theorem c_X6_isImage (l : Launch) (G : s_G) (x1 : Int32) (σ : Sg) (post : Int32 → Sg → Prop) (h : wpX6_isImage x1 σ post) : Met l yX6_isImage (wsU yX6_isImage cX6_isImage 2 (some .boolean)) rm_X6_isImage (va_Pc [.ref (G.2.2 + 0), .int x1] (s_Pre G σ)) (va_Qi post (s_B G) (s_A G.2.2)) 0 0 (s_A G.2.2) := by
  refine Met.ofW (cc := cX6_isImage) (maxL := 2) (ret := (some .boolean)) (by decide) rfl ?_
  intro p e s m args below meth c s₁ B hml hv
  obtain ⟨rfl, hP, hrok, hK, hN⟩ := hv
  have C : s_C G p s (([.ref (G.2.2 + 0), .int x1] : List Value).toArray) m c RX6 cX6_isImage := ⟨B.exec, B.bytes, findClass_of_methodNamed B.named, fun w hw => atoms_spec (ws := wsU yX6_isImage cX6_isImage 2 (some .boolean)) B.pre w (List.mem_cons_of_mem _ hw), hK, hN⟩
  have hr := B.returns
  have hlocks := B.notSynchronized
  have S : s_St G σ s.heap s.heap [] := ⟨hP, va_S.rf, hrok⟩
  have hcs : 0 ≤ (rm_X6_isImage).cells ∧ 0 ≤ (rm_X6_isImage).slots := ⟨Nat.le_refl 0, Nat.le_refl 0⟩
  have hR : ∀ (r : Int32) (σ1 : Sg) (H : Heap) (locs : List Loc) (pc : Nat) (ls : Array Slot), decode cX6_isImage pc = .ok (.ireturn, 1) → narrow .boolean (.int r) = .int r → post r σ1 → s_St G σ1 s.heap H locs → W p l e rm_X6_isImage s m ([.ref (G.2.2 + 0), .int x1] : List Value).toArray below meth c H locs 0 0 (MQ below (va_Qi post (s_B G) (s_A G.2.2)) ([.ref (G.2.2 + 0), .int x1] : List Value).toArray s 0 0 (s_A G.2.2)) (F0 m pc ls [.int r]) := fun _ _ _ _ _ _ hd hn hp S => ret_z C hr hlocks hd hn hp S
  have hl := lv_entry ([.ref (G.2.2 + 0), .int x1]) (n := 2) (Nat.le_of_ble_eq_true rfl)
  rw [lg_entry_eq]
  generalize (lg_sl ([.ref (G.2.2 + 0), .int x1]) ++ List.replicate (2 - (lg_sl ([.ref (G.2.2 + 0), .int x1])).length) Slot.unset).toArray = ls at hl ⊢
  have hl : lv_has ls 2 [(0, .ref (G.2.2 + 0)), (1, .int x1)] := hl
  unfold wpX6_isImage at h
  refine lv_iload_n C.1 C.2.1 dX6_isImage_0 rfl (lv_at hl 1 rfl) ?_
  refine lv_if_lt (tgt := 26) C.1 C.2.1 dX6_isImage_1 (by decide) (fun c1 => ?_) (fun c1 => ?_)
  · replace h := h.1 c1
    refine lv_iconst (v := (0 : Int32)) C.1 C.2.1 dX6_isImage_26 (by decide) ?_
    exact hR _ _ _ _ _ _ dX6_isImage_27 rfl h S
  · replace h := h.2 c1
    refine lv_iload_n C.1 C.2.1 dX6_isImage_4 rfl (lv_at hl 1 rfl) ?_
    refine lv_aload_n C.1 C.2.1 dX6_isImage_5 rfl (lv_at hl 0 rfl) ?_
    refine g_X6_4 C fl_X6_33 kd_0 S fn_0_4 dX6_isImage_6 ?_
    refine a_len12 C kd_88 S (v := (2 : Int32)) (by rw [ln_88]; rfl) dX6_isImage_9 ?_
    refine lv_icmp_ge (tgt := 26) C.1 C.2.1 dX6_isImage_10 (by decide) (fun c2 => ?_) (fun c2 => ?_)
    · replace h := h.1 c2
      refine lv_iconst (v := (0 : Int32)) C.1 C.2.1 dX6_isImage_26 (by decide) ?_
      exact hR _ _ _ _ _ _ dX6_isImage_27 rfl h S
    · replace h := h.2 c2
      refine lv_iload_n C.1 C.2.1 dX6_isImage_13 rfl (lv_at hl 1 rfl) ?_
      refine lv_aload_n C.1 C.2.1 dX6_isImage_14 rfl (lv_at hl 0 rfl) ?_
      refine g_X6_5 C fl_X6_37 kd_0 S fn_0_5 dX6_isImage_15 ?_
      refine a_len10 C kd_89 S (v := (2 : Int32)) (by rw [ln_89]; rfl) dX6_isImage_18 ?_
      refine lv_icmp_ge (tgt := 26) C.1 C.2.1 dX6_isImage_19 (by decide) (fun c3 => ?_) (fun c3 => ?_)
      · replace h := h.1 c3
        refine lv_iconst (v := (0 : Int32)) C.1 C.2.1 dX6_isImage_26 (by decide) ?_
        exact hR _ _ _ _ _ _ dX6_isImage_27 rfl h S
      · replace h := h.2 c3
        refine lv_iconst (v := (1 : Int32)) C.1 C.2.1 dX6_isImage_22 (by decide) ?_
        refine lv_goto (tgt := 27) C.1 C.2.1 dX6_isImage_23 (by decide) ?_
        exact hR _ _ _ _ _ _ dX6_isImage_27 rfl h S
/-! X6_back -/
abbrev rm_X6_back : Room := { frames := 4, cells := 0, slots := 0, locals := 84 }
def wpX6_back (x1 : Int32) (σ : Sg) (post : Int32 → Sg → Prop) : Prop := wpX6_isImage x1 σ (fun r2 σ1 => (((¬ r2 = 0) → (vp_in x1 2 ∧ (((¬ (σ1.1 89 (x1).toNatClampNeg) = 0) → wpX6_beginChange σ1 (fun σ5 => (vp_in x1 2 ∧ (∀ q6 : Nat, q6 = (σ5.2.2 88 (x1).toNatClampNeg) → wpX1_copyFrom 5 q6 σ5 (fun σ8 => post ((σ8.1 5 2)) σ8))))) ∧ (((σ1.1 89 (x1).toNatClampNeg) = 0) → post ((-2 : Int32)) σ1)))) ∧ ((r2 = 0) → post ((-1 : Int32)) σ1)))
theorem kM_X6_back : s_M yX6_back cX6_back 2 (some .int) 1 := ⟨co_X6_back, in_X6, by decide, by decide, by decide +kernel⟩
set_option maxHeartbeats 4000000 in
set_option maxRecDepth 100000 in
theorem c_X6_back (l : Launch) (G : s_G) (x1 : Int32) (σ : Sg) (post : Int32 → Sg → Prop) (h : wpX6_back x1 σ post) : Met l yX6_back (wsU yX6_back cX6_back 2 (some .int)) rm_X6_back (va_Pc [.ref (G.2.2 + 0), .int x1] (s_Pre G σ)) (va_Qi post (s_B G) (s_A G.2.2)) 0 0 (s_A G.2.2) := by
  refine Met.ofW (cc := cX6_back) (maxL := 2) (ret := (some .int)) (by decide) rfl ?_
  intro p e s m args below meth c s₁ B hml hv
  obtain ⟨rfl, hP, hrok, hK, hN⟩ := hv
  have C : s_C G p s (([.ref (G.2.2 + 0), .int x1] : List Value).toArray) m c RX6 cX6_back := ⟨B.exec, B.bytes, findClass_of_methodNamed B.named, fun w hw => atoms_spec (ws := wsU yX6_back cX6_back 2 (some .int)) B.pre w (List.mem_cons_of_mem _ hw), hK, hN⟩
  have hr := B.returns
  have hlocks := B.notSynchronized
  have S : s_St G σ s.heap s.heap [] := ⟨hP, va_S.rf, hrok⟩
  have hcs : 0 ≤ (rm_X6_back).cells ∧ 0 ≤ (rm_X6_back).slots := ⟨Nat.le_refl 0, Nat.le_refl 0⟩
  have hR : ∀ (r : Int32) (σ1 : Sg) (H : Heap) (locs : List Loc) (pc : Nat) (ls : Array Slot), decode cX6_back pc = .ok (.ireturn, 1) → post r σ1 → s_St G σ1 s.heap H locs → W p l e rm_X6_back s m ([.ref (G.2.2 + 0), .int x1] : List Value).toArray below meth c H locs 0 0 (MQ below (va_Qi post (s_B G) (s_A G.2.2)) ([.ref (G.2.2 + 0), .int x1] : List Value).toArray s 0 0 (s_A G.2.2)) (F0 m pc ls [.int r]) := fun _ _ _ _ _ _ hd hp S => ret_i C hr hlocks hd hp S
  have hl := lv_entry ([.ref (G.2.2 + 0), .int x1]) (n := 2) (Nat.le_of_ble_eq_true rfl)
  rw [lg_entry_eq]
  generalize (lg_sl ([.ref (G.2.2 + 0), .int x1]) ++ List.replicate (2 - (lg_sl ([.ref (G.2.2 + 0), .int x1])).length) Slot.unset).toArray = ls at hl ⊢
  have hl : lv_has ls 2 [(0, .ref (G.2.2 + 0)), (1, .int x1)] := hl
  unfold wpX6_back at h
  refine lv_aload_n C.1 C.2.1 dX6_back_0 rfl (lv_at hl 0 rfl) ?_
  refine lv_iload_n C.1 C.2.1 dX6_back_1 rfl (lv_at hl 1 rfl) ?_
  refine k_i (r_V (As := [.int x1]) (rest := []) C hml (c_X6_isImage l G x1 σ _ h) kM_X6_isImage im_X6_isImage se_X6_isImage ml_X6_231 ⟨rfl, rfl⟩ ⟨Nat.le_of_ble_eq_true rfl, Nat.le_of_ble_eq_true rfl⟩ hcs S.v kd_0 (by decide) (T := TX6) (N := 8) rfl rfl hl.1 rfl (Nat.le_of_ble_eq_true rfl) dX6_back_2) S (fun r2 σ1 H locs h S => ?_)
  refine lv_if_ne (tgt := 10) C.1 C.2.1 dX6_back_5 (by decide) (fun c3 => ?_) (fun c3 => ?_)
  · replace h := h.1 c3
    refine lv_aload_n C.1 C.2.1 dX6_back_10 rfl (lv_at hl 0 rfl) ?_
    refine g_X6_5 C fl_X6_37 kd_0 S fn_0_5 dX6_back_11 ?_
    refine lv_iload_n C.1 C.2.1 dX6_back_14 rfl (lv_at hl 1 rfl) ?_
    refine a_zld C kd_89 S ln_89 h.1 dX6_back_15 ?_
    replace h := h.2
    refine lv_if_ne (tgt := 22) C.1 C.2.1 dX6_back_16 (by decide) (fun c4 => ?_) (fun c4 => ?_)
    · replace h := h.1 c4
      refine lv_aload_n C.1 C.2.1 dX6_back_22 rfl (lv_at hl 0 rfl) ?_
      refine k_v (r_V (As := []) (rest := []) C hml (c_X6_beginChange l G σ1 _ h) kM_X6_beginChange im_X6_beginChange se_X6_beginChange ml_X6_82 ⟨rfl, rfl⟩ ⟨Nat.le_of_ble_eq_true rfl, Nat.le_of_ble_eq_true rfl⟩ hcs S.v kd_0 (by decide) (T := TX6) (N := 8) rfl rfl hl.1 rfl (Nat.le_of_ble_eq_true rfl) dX6_back_23) S (fun σ5 H locs h S => ?_)
      refine lv_aload_n C.1 C.2.1 dX6_back_26 rfl (lv_at hl 0 rfl) ?_
      refine g_X6_2 C fl_X6_22 kd_0 S fn_0_2 dX6_back_27 ?_
      refine lv_aload_n C.1 C.2.1 dX6_back_30 rfl (lv_at hl 0 rfl) ?_
      refine g_X6_4 C fl_X6_33 kd_0 S fn_0_4 dX6_back_31 ?_
      refine lv_iload_n C.1 C.2.1 dX6_back_34 rfl (lv_at hl 1 rfl) ?_
      have hq6 := (S.2.2 88 (x1).toNatClampNeg (vp_lt ln_88 h.1)).2 kd_88
      refine a_dld C kd_88 S ln_88 h.1 dX6_back_35 ?_
      replace h := h.2
      obtain ⟨q6, e7⟩ : ∃ z, z = (σ5.2.2 88 (x1).toNatClampNeg) := ⟨_, rfl⟩
      rw [← e7] at hq6 ⊢
      replace h := h q6 e7
      refine k_v (r_VN (As := [.ref (G.2.2 + q6)]) (rest := []) C hml (c_X1_copyFrom l G 5 q6 σ5 _ kd_5 hq6 h) kM_X1_copyFrom im_X1_copyFrom se_X1_copyFrom nm_X6_234 ⟨rfl, rfl⟩ ⟨Nat.le_of_ble_eq_true rfl, Nat.le_of_ble_eq_true rfl⟩ hcs S.v kd_5 (by decide) (T := TX1) (N := 4) rfl rfl hl.1 rfl (Nat.le_of_ble_eq_true rfl) dX6_back_36) S (fun σ8 H locs h S => ?_)
      refine lv_aload_n C.1 C.2.1 dX6_back_39 rfl (lv_at hl 0 rfl) ?_
      refine g_X6_2 C fl_X6_22 kd_0 S fn_0_2 dX6_back_40 ?_
      refine gn_X1_2 C nf_X6_79 kd_5 S dX6_back_43 ?_
      exact hR _ _ _ _ _ _ dX6_back_46 h S
    · replace h := h.2 c4
      refine lv_bipush (v := (-2 : Int32)) C.1 C.2.1 dX6_back_19 (by decide) ?_
      exact hR _ _ _ _ _ _ dX6_back_21 h S
  · replace h := h.2 c3
    refine lv_iconst (v := (-1 : Int32)) C.1 C.2.1 dX6_back_8 (by decide) ?_
    exact hR _ _ _ _ _ _ dX6_back_9 h S
/-! X6_isSmallLetter -/
abbrev rm_X6_isSmallLetter : Room := { frames := 0, cells := 0, slots := 0, locals := 0 }
def wpX6_isSmallLetter (x0 : Int32) (σ : Sg) (post : Int32 → Sg → Prop) : Prop := (((x0 < (97 : Int32)) → post (0 : Int32) σ) ∧ ((¬ x0 < (97 : Int32)) → ((((122 : Int32) < x0) → post (0 : Int32) σ) ∧ ((¬ (122 : Int32) < x0) → post (1 : Int32) σ))))
theorem kM_X6_isSmallLetter : s_M yX6_isSmallLetter cX6_isSmallLetter 1 (some .boolean) 1 := ⟨co_X6_isSmallLetter, in_X6, by decide, by decide, by decide +kernel⟩
set_option maxHeartbeats 4000000 in
set_option maxRecDepth 100000 in
theorem c_X6_isSmallLetter (l : Launch) (G : s_G) (x0 : Int32) (σ : Sg) (post : Int32 → Sg → Prop) (h : wpX6_isSmallLetter x0 σ post) : Met l yX6_isSmallLetter (wsU yX6_isSmallLetter cX6_isSmallLetter 1 (some .boolean)) rm_X6_isSmallLetter (va_Pc [.int x0] (s_Pre G σ)) (va_Qi post (s_B G) (s_A G.2.2)) 0 0 (s_A G.2.2) := by
  refine Met.ofW (cc := cX6_isSmallLetter) (maxL := 1) (ret := (some .boolean)) (by decide) rfl ?_
  intro p e s m args below meth c s₁ B hml hv
  obtain ⟨rfl, hP, hrok, hK, hN⟩ := hv
  have C : s_C G p s (([.int x0] : List Value).toArray) m c RX6 cX6_isSmallLetter := ⟨B.exec, B.bytes, findClass_of_methodNamed B.named, fun w hw => atoms_spec (ws := wsU yX6_isSmallLetter cX6_isSmallLetter 1 (some .boolean)) B.pre w (List.mem_cons_of_mem _ hw), hK, hN⟩
  have hr := B.returns
  have hlocks := B.notSynchronized
  have S : s_St G σ s.heap s.heap [] := ⟨hP, va_S.rf, hrok⟩
  have hcs : 0 ≤ (rm_X6_isSmallLetter).cells ∧ 0 ≤ (rm_X6_isSmallLetter).slots := ⟨Nat.le_refl 0, Nat.le_refl 0⟩
  have hR : ∀ (r : Int32) (σ1 : Sg) (H : Heap) (locs : List Loc) (pc : Nat) (ls : Array Slot), decode cX6_isSmallLetter pc = .ok (.ireturn, 1) → narrow .boolean (.int r) = .int r → post r σ1 → s_St G σ1 s.heap H locs → W p l e rm_X6_isSmallLetter s m ([.int x0] : List Value).toArray below meth c H locs 0 0 (MQ below (va_Qi post (s_B G) (s_A G.2.2)) ([.int x0] : List Value).toArray s 0 0 (s_A G.2.2)) (F0 m pc ls [.int r]) := fun _ _ _ _ _ _ hd hn hp S => ret_z C hr hlocks hd hn hp S
  have hl := lv_entry ([.int x0]) (n := 1) (Nat.le_of_ble_eq_true rfl)
  rw [lg_entry_eq]
  generalize (lg_sl ([.int x0]) ++ List.replicate (1 - (lg_sl ([.int x0])).length) Slot.unset).toArray = ls at hl ⊢
  have hl : lv_has ls 1 [(0, .int x0)] := hl
  unfold wpX6_isSmallLetter at h
  refine lv_iload_n C.1 C.2.1 dX6_isSmallLetter_0 rfl (lv_at hl 0 rfl) ?_
  refine lv_bipush (v := (97 : Int32)) C.1 C.2.1 dX6_isSmallLetter_1 (by decide) ?_
  refine lv_icmp_lt (tgt := 16) C.1 C.2.1 dX6_isSmallLetter_3 (by decide) (fun c1 => ?_) (fun c1 => ?_)
  · replace h := h.1 c1
    refine lv_iconst (v := (0 : Int32)) C.1 C.2.1 dX6_isSmallLetter_16 (by decide) ?_
    exact hR _ _ _ _ _ _ dX6_isSmallLetter_17 rfl h S
  · replace h := h.2 c1
    refine lv_iload_n C.1 C.2.1 dX6_isSmallLetter_6 rfl (lv_at hl 0 rfl) ?_
    refine lv_bipush (v := (122 : Int32)) C.1 C.2.1 dX6_isSmallLetter_7 (by decide) ?_
    refine lv_icmp_gt (tgt := 16) C.1 C.2.1 dX6_isSmallLetter_9 (by decide) (fun c2 => ?_) (fun c2 => ?_)
    · replace h := h.1 c2
      refine lv_iconst (v := (0 : Int32)) C.1 C.2.1 dX6_isSmallLetter_16 (by decide) ?_
      exact hR _ _ _ _ _ _ dX6_isSmallLetter_17 rfl h S
    · replace h := h.2 c2
      refine lv_iconst (v := (1 : Int32)) C.1 C.2.1 dX6_isSmallLetter_12 (by decide) ?_
      refine lv_goto (tgt := 17) C.1 C.2.1 dX6_isSmallLetter_13 (by decide) ?_
      exact hR _ _ _ _ _ _ dX6_isSmallLetter_17 rfl h S
/-! X0_asWord -/
abbrev rm_X0_asWord : Room := { frames := 1, cells := 0, slots := 0, locals := 21 }
def BX0_asWord_14 (k0 : Nat) (post : Int32 → Sg → Prop) : Nat → Int32 → Int32 → Sg → Prop
  | 0, _, _, _ => False
  | n + 1, x1, x2, σ => ((((σ.1 k0 1) ≤ x2) → post x1 σ) ∧ ((¬ (σ.1 k0 1) ≤ x2) → wpX0_at k0 x2 σ (fun r3 σ2 => wpX6_isSmallLetter r3 σ2 (fun r5 σ4 => (((¬ r5 = 0) → wpX0_at k0 x2 σ4 (fun r8 σ7 => BX0_asWord_14 k0 post n ((x1 ||| (r8 <<< (((8 : Int32) * x2) &&& 31)))) ((x2 + 1)) σ7)) ∧ ((r5 = 0) → post ((0 : Int32)) σ4))))))
def wpX0_asWord (k0 : Nat) (σ : Sg) (post : Int32 → Sg → Prop) : Prop := ((((σ.1 k0 1) ≤ (3 : Int32)) → ∃ nf, BX0_asWord_14 k0 post nf ((0 : Int32)) ((0 : Int32)) σ) ∧ ((¬ (σ.1 k0 1) ≤ (3 : Int32)) → post ((0 : Int32)) σ))
set_option maxHeartbeats 4000000 in
set_option maxRecDepth 100000 in
theorem TX0_asWord_14 (C : s_C G p s args m c RX0 cX0_asWord) (hml : c.maxLocals = 3) (hcs : cells ≤ (rm_X0_asWord).cells ∧ slots ≤ (rm_X0_asWord).slots) {k0 : Nat} (hk0 : s_kd k0 = 0) {post : Int32 → Sg → Prop} (hR : ∀ (r : Int32) (σ1 : Sg) (H : Heap) (locs : List Loc) (pc : Nat) (ls : Array Slot), decode cX0_asWord pc = .ok (.ireturn, 1) → post r σ1 → s_St G σ1 H0 H locs → W p l e rm_X0_asWord s m args below meth c H locs cells slots Q (F0 m pc ls [.int r])) : ∀ (n : Nat) (x1 : Int32) (x2 : Int32), ∀ {σ : Sg} {H : Heap} {locs : List Loc} {ls : Array Slot}, s_St G σ H0 H locs → lv_has ls 3 [(0, .ref (G.2.2 + k0)), (1, .int x1), (2, .int x2)] → BX0_asWord_14 k0 post n x1 x2 σ → W p l e rm_X0_asWord s m args below meth c H locs cells slots Q (F0 m 14 ls []) := by
  intro n
  induction n with
  | zero =>
    intro x1 x2  σ H locs ls S hl h
    exact absurd h (fun h => h)
  | succ n ih0 =>
    have ih : ∀ (x1 : Int32) (x2 : Int32), ∀ (σ : Sg) (H : Heap) (locs : List Loc) (ls : Array Slot), s_St G σ H0 H locs → lv_has ls 3 [(0, .ref (G.2.2 + k0)), (1, .int x1), (2, .int x2)] → BX0_asWord_14 k0 post n x1 x2 σ → W p l e rm_X0_asWord s m args below meth c H locs cells slots Q (F0 m 14 ls []) := fun x1 x2  _ _ _ _ => ih0 x1 x2 
    intro x1 x2  σ H locs ls S hl h
    refine lv_iload_n C.1 C.2.1 dX0_asWord_14 rfl (lv_at hl 2 rfl) ?_
    refine lv_aload_n C.1 C.2.1 dX0_asWord_15 rfl (lv_at hl 0 rfl) ?_
    refine g_X0_1 C fl_X0_15 hk0 S dX0_asWord_16 ?_
    refine lv_icmp_ge (tgt := 54) C.1 C.2.1 dX0_asWord_19 (by decide) (fun c1 => ?_) (fun c1 => ?_)
    · replace h := h.1 c1
      refine lv_iload_n C.1 C.2.1 dX0_asWord_54 rfl (lv_at hl 1 rfl) ?_
      exact hR _ _ _ _ _ _ dX0_asWord_55 h S
    · replace h := h.2 c1
      refine lv_aload_n C.1 C.2.1 dX0_asWord_22 rfl (lv_at hl 0 rfl) ?_
      refine lv_iload_n C.1 C.2.1 dX0_asWord_23 rfl (lv_at hl 2 rfl) ?_
      refine k_i (r_V (As := [.int x2]) (rest := []) C hml (c_X0_at l G k0 x2 σ _ hk0 h) kM_X0_at im_X0_at se_X0_at ml_X0_19 ⟨rfl, rfl⟩ ⟨Nat.le_of_ble_eq_true rfl, Nat.le_of_ble_eq_true rfl⟩ hcs S.v hk0 (by decide) (T := TX0) (N := 2) rfl rfl hl.1 rfl (Nat.le_of_ble_eq_true rfl) dX0_asWord_24) S (fun r3 σ2 H locs h S => ?_)
      refine k_i (r_SN (As := [.int r3]) (rest := []) C hml (c_X6_isSmallLetter l G r3 σ2 _ h) kM_X6_isSmallLetter st_X6_isSmallLetter nm_X0_23 ⟨rfl, rfl⟩ ⟨Nat.le_of_ble_eq_true rfl, Nat.le_of_ble_eq_true rfl⟩ hcs S.v rfl hl.1 rfl (Nat.le_of_ble_eq_true rfl) dX0_asWord_27) S (fun r5 σ4 H locs h S => ?_)
      refine lv_if_ne (tgt := 35) C.1 C.2.1 dX0_asWord_30 (by decide) (fun c6 => ?_) (fun c6 => ?_)
      · replace h := h.1 c6
        refine lv_iload_n C.1 C.2.1 dX0_asWord_35 rfl (lv_at hl 1 rfl) ?_
        refine lv_aload_n C.1 C.2.1 dX0_asWord_36 rfl (lv_at hl 0 rfl) ?_
        refine lv_iload_n C.1 C.2.1 dX0_asWord_37 rfl (lv_at hl 2 rfl) ?_
        refine k_i (r_V (As := [.int x2]) (rest := [.int x1]) C hml (c_X0_at l G k0 x2 σ4 _ hk0 h) kM_X0_at im_X0_at se_X0_at ml_X0_19 ⟨rfl, rfl⟩ ⟨Nat.le_of_ble_eq_true rfl, Nat.le_of_ble_eq_true rfl⟩ hcs S.v hk0 (by decide) (T := TX0) (N := 2) rfl rfl hl.1 rfl (Nat.le_of_ble_eq_true rfl) dX0_asWord_38) S (fun r8 σ7 H locs h S => ?_)
        refine lv_bipush (v := (8 : Int32)) C.1 C.2.1 dX0_asWord_41 (by decide) ?_
        refine lv_iload_n C.1 C.2.1 dX0_asWord_43 rfl (lv_at hl 2 rfl) ?_
        refine lv_imul C.1 C.2.1 dX0_asWord_44 ?_
        refine lv_ishl C.1 C.2.1 dX0_asWord_45 ?_
        refine lv_ior C.1 C.2.1 dX0_asWord_46 ?_
        refine lv_istore_n (lv' := [(1, .int (x1 ||| (r8 <<< (((8 : Int32) * x2) &&& 31)))), (0, .ref (G.2.2 + k0)), (2, .int x2)]) C.1 C.2.1 dX0_asWord_47 rfl hl (by decide) rfl (fun ls hl => ?_)
        refine lv_iinc (v := (x2 + 1)) (lv' := [(2, .int (x2 + 1)), (1, .int (x1 ||| (r8 <<< (((8 : Int32) * x2) &&& 31)))), (0, .ref (G.2.2 + k0))]) C.1 C.2.1 dX0_asWord_48 hl (k := 2) rfl rfl (by decide) rfl (fun ls hl => ?_)
        refine lv_goto (tgt := 14) C.1 C.2.1 dX0_asWord_51 (by decide) ?_
        exact ih ((x1 ||| (r8 <<< (((8 : Int32) * x2) &&& 31)))) ((x2 + 1)) _ _ _ _ S (lv_sub hl [2, 1, 0] rfl) h
      · replace h := h.2 c6
        refine lv_iconst (v := (0 : Int32)) C.1 C.2.1 dX0_asWord_33 (by decide) ?_
        exact hR _ _ _ _ _ _ dX0_asWord_34 h S
theorem kM_X0_asWord : s_M yX0_asWord cX0_asWord 3 (some .int) 0 := ⟨co_X0_asWord, in_X0, by decide, by decide, by decide +kernel⟩
set_option maxHeartbeats 4000000 in
set_option maxRecDepth 100000 in
theorem c_X0_asWord (l : Launch) (G : s_G) (k0 : Nat) (σ : Sg) (post : Int32 → Sg → Prop) (hk0 : s_kd k0 = 0) (h : wpX0_asWord k0 σ post) : Met l yX0_asWord (wsU yX0_asWord cX0_asWord 3 (some .int)) rm_X0_asWord (va_Pc [.ref (G.2.2 + k0)] (s_Pre G σ)) (va_Qi post (s_B G) (s_A G.2.2)) 0 0 (s_A G.2.2) := by
  refine Met.ofW (cc := cX0_asWord) (maxL := 3) (ret := (some .int)) (by decide) rfl ?_
  intro p e s m args below meth c s₁ B hml hv
  obtain ⟨rfl, hP, hrok, hK, hN⟩ := hv
  have C : s_C G p s (([.ref (G.2.2 + k0)] : List Value).toArray) m c RX0 cX0_asWord := ⟨B.exec, B.bytes, findClass_of_methodNamed B.named, fun w hw => atoms_spec (ws := wsU yX0_asWord cX0_asWord 3 (some .int)) B.pre w (List.mem_cons_of_mem _ hw), hK, hN⟩
  have hr := B.returns
  have hlocks := B.notSynchronized
  have S : s_St G σ s.heap s.heap [] := ⟨hP, va_S.rf, hrok⟩
  have hcs : 0 ≤ (rm_X0_asWord).cells ∧ 0 ≤ (rm_X0_asWord).slots := ⟨Nat.le_refl 0, Nat.le_refl 0⟩
  have hR : ∀ (r : Int32) (σ1 : Sg) (H : Heap) (locs : List Loc) (pc : Nat) (ls : Array Slot), decode cX0_asWord pc = .ok (.ireturn, 1) → post r σ1 → s_St G σ1 s.heap H locs → W p l e rm_X0_asWord s m ([.ref (G.2.2 + k0)] : List Value).toArray below meth c H locs 0 0 (MQ below (va_Qi post (s_B G) (s_A G.2.2)) ([.ref (G.2.2 + k0)] : List Value).toArray s 0 0 (s_A G.2.2)) (F0 m pc ls [.int r]) := fun _ _ _ _ _ _ hd hp S => ret_i C hr hlocks hd hp S
  have hl := lv_entry ([.ref (G.2.2 + k0)]) (n := 3) (Nat.le_of_ble_eq_true rfl)
  rw [lg_entry_eq]
  generalize (lg_sl ([.ref (G.2.2 + k0)]) ++ List.replicate (3 - (lg_sl ([.ref (G.2.2 + k0)])).length) Slot.unset).toArray = ls at hl ⊢
  have hl : lv_has ls 3 [(0, .ref (G.2.2 + k0))] := hl
  unfold wpX0_asWord at h
  refine lv_aload_n C.1 C.2.1 dX0_asWord_0 rfl (lv_at hl 0 rfl) ?_
  refine g_X0_1 C fl_X0_15 hk0 S dX0_asWord_1 ?_
  refine lv_iconst (v := (3 : Int32)) C.1 C.2.1 dX0_asWord_4 (by decide) ?_
  refine lv_icmp_le (tgt := 10) C.1 C.2.1 dX0_asWord_5 (by decide) (fun c9 => ?_) (fun c9 => ?_)
  · replace h := h.1 c9
    refine lv_iconst (v := (0 : Int32)) C.1 C.2.1 dX0_asWord_10 (by decide) ?_
    refine lv_istore_n (lv' := [(1, .int (0 : Int32)), (0, .ref (G.2.2 + k0))]) C.1 C.2.1 dX0_asWord_11 rfl hl (by decide) rfl (fun ls hl => ?_)
    refine lv_iconst (v := (0 : Int32)) C.1 C.2.1 dX0_asWord_12 (by decide) ?_
    refine lv_istore_n (lv' := [(2, .int (0 : Int32)), (1, .int (0 : Int32)), (0, .ref (G.2.2 + k0))]) C.1 C.2.1 dX0_asWord_13 rfl hl (by decide) rfl (fun ls hl => ?_)
    obtain ⟨nf, h⟩ := h
    exact TX0_asWord_14 C hml hcs hk0 hR nf ((0 : Int32)) ((0 : Int32)) S (lv_sub hl [2, 1, 0] rfl) h
  · replace h := h.2 c9
    refine lv_iconst (v := (0 : Int32)) C.1 C.2.1 dX0_asWord_8 (by decide) ?_
    exact hR _ _ _ _ _ _ dX0_asWord_9 h S
/-! X1_add -/
abbrev rm_X1_add : Room := { frames := 1, cells := 0, slots := 0, locals := 21 }
def wpX1_add (k0 : Nat) (x1 : Int32) (x2 : Int32) (x3 : Int32) (x4 : Int32) (σ : Sg) (post : Int32 → Sg → Prop) : Prop := wpX1_at k0 ((σ.1 k0 2)) σ (fun q2 σ1 => s_kd q2 = 3 → (∀ σ3 : Sg, σ3 = setI σ1 q2 0 x1 → (∀ σ5 : Sg, σ5 = setI σ3 q2 1 x2 → (∀ σ7 : Sg, σ7 = setI σ5 q2 2 x3 → (∀ σ9 : Sg, σ9 = setI σ7 q2 3 x4 → (∀ σ11 : Sg, σ11 = setI σ9 q2 4 ((0 : Int32)) → (∀ σ13 : Sg, σ13 = setI σ11 q2 5 ((0 : Int32)) → (∀ σ15 : Sg, σ15 = setI σ13 k0 2 (((σ13.1 k0 2) + (1 : Int32))) → post (((σ15.1 k0 2) - (1 : Int32))) σ15))))))))
theorem kM_X1_add : s_M yX1_add cX1_add 6 (some .int) 4 := ⟨co_X1_add, in_X1, by decide, by decide, by decide +kernel⟩
set_option maxHeartbeats 4000000 in
set_option maxRecDepth 100000 in
theorem c_X1_add (l : Launch) (G : s_G) (k0 : Nat) (x1 : Int32) (x2 : Int32) (x3 : Int32) (x4 : Int32) (σ : Sg) (post : Int32 → Sg → Prop) (hk0 : s_kd k0 = 1) (h : wpX1_add k0 x1 x2 x3 x4 σ post) : Met l yX1_add (wsU yX1_add cX1_add 6 (some .int)) rm_X1_add (va_Pc [.ref (G.2.2 + k0), .int x1, .int x2, .int x3, .int x4] (s_Pre G σ)) (va_Qi post (s_B G) (s_A G.2.2)) 0 0 (s_A G.2.2) := by
  refine Met.ofW (cc := cX1_add) (maxL := 6) (ret := (some .int)) (by decide) rfl ?_
  intro p e s m args below meth c s₁ B hml hv
  obtain ⟨rfl, hP, hrok, hK, hN⟩ := hv
  have C : s_C G p s (([.ref (G.2.2 + k0), .int x1, .int x2, .int x3, .int x4] : List Value).toArray) m c RX1 cX1_add := ⟨B.exec, B.bytes, findClass_of_methodNamed B.named, fun w hw => atoms_spec (ws := wsU yX1_add cX1_add 6 (some .int)) B.pre w (List.mem_cons_of_mem _ hw), hK, hN⟩
  have hr := B.returns
  have hlocks := B.notSynchronized
  have S : s_St G σ s.heap s.heap [] := ⟨hP, va_S.rf, hrok⟩
  have hcs : 0 ≤ (rm_X1_add).cells ∧ 0 ≤ (rm_X1_add).slots := ⟨Nat.le_refl 0, Nat.le_refl 0⟩
  have hR : ∀ (r : Int32) (σ1 : Sg) (H : Heap) (locs : List Loc) (pc : Nat) (ls : Array Slot), decode cX1_add pc = .ok (.ireturn, 1) → post r σ1 → s_St G σ1 s.heap H locs → W p l e rm_X1_add s m ([.ref (G.2.2 + k0), .int x1, .int x2, .int x3, .int x4] : List Value).toArray below meth c H locs 0 0 (MQ below (va_Qi post (s_B G) (s_A G.2.2)) ([.ref (G.2.2 + k0), .int x1, .int x2, .int x3, .int x4] : List Value).toArray s 0 0 (s_A G.2.2)) (F0 m pc ls [.int r]) := fun _ _ _ _ _ _ hd hp S => ret_i C hr hlocks hd hp S
  have hl := lv_entry ([.ref (G.2.2 + k0), .int x1, .int x2, .int x3, .int x4]) (n := 6) (Nat.le_of_ble_eq_true rfl)
  rw [lg_entry_eq]
  generalize (lg_sl ([.ref (G.2.2 + k0), .int x1, .int x2, .int x3, .int x4]) ++ List.replicate (6 - (lg_sl ([.ref (G.2.2 + k0), .int x1, .int x2, .int x3, .int x4])).length) Slot.unset).toArray = ls at hl ⊢
  have hl : lv_has ls 6 [(0, .ref (G.2.2 + k0)), (1, .int x1), (2, .int x2), (3, .int x3), (4, .int x4)] := hl
  unfold wpX1_add at h
  refine lv_aload_n C.1 C.2.1 dX1_add_0 rfl (lv_at hl 0 rfl) ?_
  refine lv_aload_n C.1 C.2.1 dX1_add_1 rfl (lv_at hl 0 rfl) ?_
  refine g_X1_2 C fl_X1_22 hk0 S dX1_add_2 ?_
  refine k_r (kd := 3) (r_V (As := [.int (σ.1 k0 2)]) (rest := []) C hml (c_X1_at l G k0 ((σ.1 k0 2)) σ _ hk0 h) kM_X1_at im_X1_at se_X1_at ml_X1_29 ⟨rfl, rfl⟩ ⟨Nat.le_of_ble_eq_true rfl, Nat.le_of_ble_eq_true rfl⟩ hcs S.v hk0 (by decide) (T := TX1) (N := 4) rfl rfl hl.1 rfl (Nat.le_of_ble_eq_true rfl) dX1_add_5) S (fun q2 σ1 H locs hq2 h S => ?_)
  replace h := h hq2
  refine lv_astore (lv' := [(5, .ref (G.2.2 + q2)), (0, .ref (G.2.2 + k0)), (1, .int x1), (2, .int x2), (3, .int x3), (4, .int x4)]) C.1 C.2.1 dX1_add_8 hl (by decide) rfl (fun ls hl => ?_)
  refine lv_aload C.1 C.2.1 dX1_add_10 (lv_at hl 0 rfl) ?_
  refine lv_iload_n C.1 C.2.1 dX1_add_12 rfl (lv_at hl 2 rfl) ?_
  refine pn_X3_0 C nf_X1_37 hq2 S dX1_add_13 (fun σ3 H locs e4 S => ?_)
  replace h := h σ3 e4
  refine lv_aload C.1 C.2.1 dX1_add_16 (lv_at hl 0 rfl) ?_
  refine lv_iload_n C.1 C.2.1 dX1_add_18 rfl (lv_at hl 3 rfl) ?_
  refine pn_X3_1 C nf_X1_40 hq2 S dX1_add_19 (fun σ5 H locs e6 S => ?_)
  replace h := h σ5 e6
  refine lv_aload C.1 C.2.1 dX1_add_22 (lv_at hl 0 rfl) ?_
  refine lv_iload_n C.1 C.2.1 dX1_add_24 rfl (lv_at hl 4 rfl) ?_
  refine pn_X3_2 C nf_X1_43 hq2 S dX1_add_25 (fun σ7 H locs e8 S => ?_)
  replace h := h σ7 e8
  refine lv_aload C.1 C.2.1 dX1_add_28 (lv_at hl 0 rfl) ?_
  refine lv_iload C.1 C.2.1 dX1_add_30 (lv_at hl 5 rfl) ?_
  refine pn_X3_3 C nf_X1_46 hq2 S dX1_add_32 (fun σ9 H locs e10 S => ?_)
  replace h := h σ9 e10
  refine lv_aload C.1 C.2.1 dX1_add_35 (lv_at hl 0 rfl) ?_
  refine lv_iconst (v := (0 : Int32)) C.1 C.2.1 dX1_add_37 (by decide) ?_
  refine pn_X3_4 C nf_X1_49 hq2 S dX1_add_38 (fun σ11 H locs e12 S => ?_)
  replace h := h σ11 e12
  refine lv_aload C.1 C.2.1 dX1_add_41 (lv_at hl 0 rfl) ?_
  refine lv_iconst (v := (0 : Int32)) C.1 C.2.1 dX1_add_43 (by decide) ?_
  refine pn_X3_5 C nf_X1_52 hq2 S dX1_add_44 (fun σ13 H locs e14 S => ?_)
  replace h := h σ13 e14
  refine lv_aload_n C.1 C.2.1 dX1_add_47 rfl (lv_at hl 1 rfl) ?_
  refine lv_dup C.1 C.2.1 dX1_add_48 rfl ?_
  refine g_X1_2 C fl_X1_22 hk0 S dX1_add_49 ?_
  refine lv_iconst (v := (1 : Int32)) C.1 C.2.1 dX1_add_52 (by decide) ?_
  refine lv_iadd C.1 C.2.1 dX1_add_53 ?_
  refine p_X1_2 C fl_X1_22 hk0 S dX1_add_54 (fun σ15 H locs e16 S => ?_)
  replace h := h σ15 e16
  refine lv_aload_n C.1 C.2.1 dX1_add_57 rfl (lv_at hl 1 rfl) ?_
  refine g_X1_2 C fl_X1_22 hk0 S dX1_add_58 ?_
  refine lv_iconst (v := (1 : Int32)) C.1 C.2.1 dX1_add_61 (by decide) ?_
  refine lv_isub C.1 C.2.1 dX1_add_62 ?_
  exact hR _ _ _ _ _ _ dX1_add_63 h S
end M4
