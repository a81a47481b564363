section M1
variable {p : Program} {l : Launch} {e : Env} {R : Room} {s : State} {m : MethodId} {args : Array Value} {below : List Frame} {meth : Method} {c : Code} {H0 : Heap} {cells slots : Nat} {Q : State → Prop} {G : s_G}
/-! X1_at -/
abbrev rm_X1_at : Room := { frames := 0, cells := 0, slots := 0, locals := 0 }
def wpX1_at (k0 : Nat) (x1 : Int32) (σ : Sg) (post : Nat → Sg → Prop) : Prop := (((x1 < 0) → post ((s_fin k0 1)) σ) ∧ ((¬ x1 < 0) → ((((6 : Int32) ≤ x1) → post ((s_fin k0 1)) σ) ∧ ((¬ (6 : Int32) ≤ x1) → (vp_in x1 6 ∧ (∀ q3 : Nat, q3 = (σ.2.2 (s_fin k0 0) (x1).toNatClampNeg) → post q3 σ))))))
theorem kM_X1_at : s_M yX1_at cX1_at 2 (some (.object "PhraseReader$Member")) 1 := ⟨co_X1_at, in_X1, by decide, by decide, by decide +kernel⟩
set_option maxHeartbeats 4000000 in
set_option maxRecDepth 100000 in
theorem c_X1_at (l : Launch) (G : s_G) (k0 : Nat) (x1 : Int32) (σ : Sg) (post : Nat → Sg → Prop) (hk0 : s_kd k0 = 1) (h : wpX1_at k0 x1 σ post) : Met l yX1_at (wsU yX1_at cX1_at 2 (some (.object "PhraseReader$Member"))) rm_X1_at (va_Pc [.ref (G.2.2 + k0), .int x1] (s_Pre G σ)) (va_Qr (fun u : Nat × Sg => post u.1 u.2) (s_Br G 3) (s_A G.2.2)) 0 0 (s_A G.2.2) := by
  refine Met.ofW (cc := cX1_at) (maxL := 2) (ret := (some (.object "PhraseReader$Member"))) (by decide) rfl ?_
  intro p e s m args below meth c s₁ B hml hv
  obtain ⟨rfl, hP, hrok, hK, hN⟩ := hv
  have C : s_C G p s (([.ref (G.2.2 + k0), .int x1] : List Value).toArray) m c RX1 cX1_at := ⟨B.exec, B.bytes, findClass_of_methodNamed B.named, fun w hw => atoms_spec (ws := wsU yX1_at cX1_at 2 (some (.object "PhraseReader$Member"))) B.pre w (List.mem_cons_of_mem _ hw), hK, hN⟩
  have hr := B.returns
  have hlocks := B.notSynchronized
  have S : s_St G σ s.heap s.heap [] := ⟨hP, va_S.rf, hrok⟩
  have hcs : 0 ≤ (rm_X1_at).cells ∧ 0 ≤ (rm_X1_at).slots := ⟨Nat.le_refl 0, Nat.le_refl 0⟩
  have hR : ∀ (r : Nat) (σ1 : Sg) (H : Heap) (locs : List Loc) (pc : Nat) (ls : Array Slot), decode cX1_at pc = .ok (.areturn, 1) → s_kd r = 3 → post r σ1 → s_St G σ1 s.heap H locs → W p l e rm_X1_at s m ([.ref (G.2.2 + k0), .int x1] : List Value).toArray below meth c H locs 0 0 (MQ below (va_Qr (fun u : Nat × Sg => post u.1 u.2) (s_Br G 3) (s_A G.2.2)) ([.ref (G.2.2 + k0), .int x1] : List Value).toArray s 0 0 (s_A G.2.2)) (F0 m pc ls [.ref (G.2.2 + r)]) := fun _ _ _ _ _ _ hd hq hp S => ret_r C hr hlocks hd hq hp S
  have hl := lv_entry ([.ref (G.2.2 + k0), .int x1]) (n := 2) (Nat.le_of_ble_eq_true rfl)
  rw [lg_entry_eq]
  generalize (lg_sl ([.ref (G.2.2 + k0), .int x1]) ++ List.replicate (2 - (lg_sl ([.ref (G.2.2 + k0), .int x1])).length) Slot.unset).toArray = ls at hl ⊢
  have hl : lv_has ls 2 [(0, .ref (G.2.2 + k0)), (1, .int x1)] := hl
  unfold wpX1_at at h
  refine lv_iload_n C.1 C.2.1 dX1_at_0 rfl (lv_at hl 1 rfl) ?_
  refine lv_if_lt (tgt := 22) C.1 C.2.1 dX1_at_1 (by decide) (fun c1 => ?_) (fun c1 => ?_)
  · replace h := h.1 c1
    refine lv_aload_n C.1 C.2.1 dX1_at_22 rfl (lv_at hl 0 rfl) ?_
    refine g_X1_1 C fl_X1_18 hk0 S rfl dX1_at_23 ?_
    exact hR _ _ _ _ _ _ dX1_at_26 ((kdf_X1_1 hk0)) h S
  · replace h := h.2 c1
    refine lv_iload_n C.1 C.2.1 dX1_at_4 rfl (lv_at hl 1 rfl) ?_
    refine lv_aload_n C.1 C.2.1 dX1_at_5 rfl (lv_at hl 0 rfl) ?_
    refine g_X1_0 C fl_X1_11 hk0 S rfl dX1_at_6 ?_
    refine a_len11 C ((kdf_X1_0 hk0)) S (v := (6 : Int32)) (by rw [(lnf_X1_0 hk0)]; rfl) dX1_at_9 ?_
    refine lv_icmp_ge (tgt := 22) C.1 C.2.1 dX1_at_10 (by decide) (fun c2 => ?_) (fun c2 => ?_)
    · replace h := h.1 c2
      refine lv_aload_n C.1 C.2.1 dX1_at_22 rfl (lv_at hl 0 rfl) ?_
      refine g_X1_1 C fl_X1_18 hk0 S rfl dX1_at_23 ?_
      exact hR _ _ _ _ _ _ dX1_at_26 ((kdf_X1_1 hk0)) h S
    · replace h := h.2 c2
      refine lv_aload_n C.1 C.2.1 dX1_at_13 rfl (lv_at hl 0 rfl) ?_
      refine g_X1_0 C fl_X1_11 hk0 S rfl dX1_at_14 ?_
      refine lv_iload_n C.1 C.2.1 dX1_at_17 rfl (lv_at hl 1 rfl) ?_
      have hq3 := (S.2.2 ((s_fin k0 0)) (x1).toNatClampNeg (vp_lt (lnf_X1_0 hk0) h.1)).1 ((kdf_X1_0 hk0))
      refine a_mld C ((kdf_X1_0 hk0)) S (lnf_X1_0 hk0) h.1 dX1_at_18 ?_
      replace h := h.2
      obtain ⟨q3, e4⟩ : ∃ z, z = (σ.2.2 (s_fin k0 0) (x1).toNatClampNeg) := ⟨_, rfl⟩
      rw [← e4] at hq3 ⊢
      replace h := h q3 e4
      refine lv_goto (tgt := 26) C.1 C.2.1 dX1_at_19 (by decide) ?_
      exact hR _ _ _ _ _ _ dX1_at_26 hq3 h S
/-! X1_add -/
abbrev rm_X1_add : Room := { frames := 1, cells := 0, slots := 0, locals := 21 }
def wpX1_add (k0 : Nat) (x1 : Int32) (x2 : Int32) (x3 : Int32) (x4 : Int32) (σ : Sg) (post : Int32 → Sg → Prop) : Prop := wpX1_at k0 ((σ.1 k0 2)) σ (fun q2 σ1 => s_kd q2 = 3 → (∀ σ3 : Sg, σ3 = setI σ1 q2 0 x1 → (∀ σ5 : Sg, σ5 = setI σ3 q2 1 x2 → (∀ σ7 : Sg, σ7 = setI σ5 q2 2 x3 → (∀ σ9 : Sg, σ9 = setI σ7 q2 3 x4 → (∀ σ11 : Sg, σ11 = setI σ9 q2 4 ((0 : Int32)) → (∀ σ13 : Sg, σ13 = setI σ11 q2 5 ((0 : Int32)) → (∀ σ15 : Sg, σ15 = setI σ13 k0 2 (((σ13.1 k0 2) + (1 : Int32))) → post (((σ15.1 k0 2) - (1 : Int32))) σ15))))))))
theorem kM_X1_add : s_M yX1_add cX1_add 6 (some .int) 4 := ⟨co_X1_add, in_X1, by decide, by decide, by decide +kernel⟩
set_option maxHeartbeats 4000000 in
set_option maxRecDepth 100000 in
theorem c_X1_add (l : Launch) (G : s_G) (k0 : Nat) (x1 : Int32) (x2 : Int32) (x3 : Int32) (x4 : Int32) (σ : Sg) (post : Int32 → Sg → Prop) (hk0 : s_kd k0 = 1) (h : wpX1_add k0 x1 x2 x3 x4 σ post) : Met l yX1_add (wsU yX1_add cX1_add 6 (some .int)) rm_X1_add (va_Pc [.ref (G.2.2 + k0), .int x1, .int x2, .int x3, .int x4] (s_Pre G σ)) (va_Qi post (s_B G) (s_A G.2.2)) 0 0 (s_A G.2.2) := by
  refine Met.ofW (cc := cX1_add) (maxL := 6) (ret := (some .int)) (by decide) rfl ?_
  intro p e s m args below meth c s₁ B hml hv
  obtain ⟨rfl, hP, hrok, hK, hN⟩ := hv
  have C : s_C G p s (([.ref (G.2.2 + k0), .int x1, .int x2, .int x3, .int x4] : List Value).toArray) m c RX1 cX1_add := ⟨B.exec, B.bytes, findClass_of_methodNamed B.named, fun w hw => atoms_spec (ws := wsU yX1_add cX1_add 6 (some .int)) B.pre w (List.mem_cons_of_mem _ hw), hK, hN⟩
  have hr := B.returns
  have hlocks := B.notSynchronized
  have S : s_St G σ s.heap s.heap [] := ⟨hP, va_S.rf, hrok⟩
  have hcs : 0 ≤ (rm_X1_add).cells ∧ 0 ≤ (rm_X1_add).slots := ⟨Nat.le_refl 0, Nat.le_refl 0⟩
  have hR : ∀ (r : Int32) (σ1 : Sg) (H : Heap) (locs : List Loc) (pc : Nat) (ls : Array Slot), decode cX1_add pc = .ok (.ireturn, 1) → post r σ1 → s_St G σ1 s.heap H locs → W p l e rm_X1_add s m ([.ref (G.2.2 + k0), .int x1, .int x2, .int x3, .int x4] : List Value).toArray below meth c H locs 0 0 (MQ below (va_Qi post (s_B G) (s_A G.2.2)) ([.ref (G.2.2 + k0), .int x1, .int x2, .int x3, .int x4] : List Value).toArray s 0 0 (s_A G.2.2)) (F0 m pc ls [.int r]) := fun _ _ _ _ _ _ hd hp S => ret_i C hr hlocks hd hp S
  have hl := lv_entry ([.ref (G.2.2 + k0), .int x1, .int x2, .int x3, .int x4]) (n := 6) (Nat.le_of_ble_eq_true rfl)
  rw [lg_entry_eq]
  generalize (lg_sl ([.ref (G.2.2 + k0), .int x1, .int x2, .int x3, .int x4]) ++ List.replicate (6 - (lg_sl ([.ref (G.2.2 + k0), .int x1, .int x2, .int x3, .int x4])).length) Slot.unset).toArray = ls at hl ⊢
  have hl : lv_has ls 6 [(0, .ref (G.2.2 + k0)), (1, .int x1), (2, .int x2), (3, .int x3), (4, .int x4)] := hl
  unfold wpX1_add at h
  refine lv_aload_n C.1 C.2.1 dX1_add_0 rfl (lv_at hl 0 rfl) ?_
  refine lv_aload_n C.1 C.2.1 dX1_add_1 rfl (lv_at hl 0 rfl) ?_
  refine g_X1_2 C fl_X1_22 hk0 S dX1_add_2 ?_
  refine k_r (kd := 3) (r_V (As := [.int (σ.1 k0 2)]) (rest := []) C hml (c_X1_at l G k0 ((σ.1 k0 2)) σ _ hk0 h) kM_X1_at im_X1_at se_X1_at ml_X1_29 ⟨rfl, rfl⟩ ⟨Nat.le_of_ble_eq_true rfl, Nat.le_of_ble_eq_true rfl⟩ hcs S hk0 (by decide) (T := TX1) (N := 4) rfl rfl hl.1 rfl (Nat.le_of_ble_eq_true rfl) dX1_add_5) S (fun q2 σ1 H locs hq2 h S => ?_)
  replace h := h hq2
  refine lv_astore (lv' := [(5, .ref (G.2.2 + q2)), (0, .ref (G.2.2 + k0)), (1, .int x1), (2, .int x2), (3, .int x3), (4, .int x4)]) C.1 C.2.1 dX1_add_8 hl (by decide) rfl (fun ls hl => ?_)
  refine lv_aload C.1 C.2.1 dX1_add_10 (lv_at hl 0 rfl) ?_
  refine lv_iload_n C.1 C.2.1 dX1_add_12 rfl (lv_at hl 2 rfl) ?_
  refine pn_X3_0 C nf_X1_37 hq2 S dX1_add_13 (fun σ3 H locs e4 S => ?_)
  replace h := h σ3 e4
  refine lv_aload C.1 C.2.1 dX1_add_16 (lv_at hl 0 rfl) ?_
  refine lv_iload_n C.1 C.2.1 dX1_add_18 rfl (lv_at hl 3 rfl) ?_
  refine pn_X3_1 C nf_X1_40 hq2 S dX1_add_19 (fun σ5 H locs e6 S => ?_)
  replace h := h σ5 e6
  refine lv_aload C.1 C.2.1 dX1_add_22 (lv_at hl 0 rfl) ?_
  refine lv_iload_n C.1 C.2.1 dX1_add_24 rfl (lv_at hl 4 rfl) ?_
  refine pn_X3_2 C nf_X1_43 hq2 S dX1_add_25 (fun σ7 H locs e8 S => ?_)
  replace h := h σ7 e8
  refine lv_aload C.1 C.2.1 dX1_add_28 (lv_at hl 0 rfl) ?_
  refine lv_iload C.1 C.2.1 dX1_add_30 (lv_at hl 5 rfl) ?_
  refine pn_X3_3 C nf_X1_46 hq2 S dX1_add_32 (fun σ9 H locs e10 S => ?_)
  replace h := h σ9 e10
  refine lv_aload C.1 C.2.1 dX1_add_35 (lv_at hl 0 rfl) ?_
  refine lv_iconst (v := (0 : Int32)) C.1 C.2.1 dX1_add_37 (by decide) ?_
  refine pn_X3_4 C nf_X1_49 hq2 S dX1_add_38 (fun σ11 H locs e12 S => ?_)
  replace h := h σ11 e12
  refine lv_aload C.1 C.2.1 dX1_add_41 (lv_at hl 0 rfl) ?_
  refine lv_iconst (v := (0 : Int32)) C.1 C.2.1 dX1_add_43 (by decide) ?_
  refine pn_X3_5 C nf_X1_52 hq2 S dX1_add_44 (fun σ13 H locs e14 S => ?_)
  replace h := h σ13 e14
  refine lv_aload_n C.1 C.2.1 dX1_add_47 rfl (lv_at hl 1 rfl) ?_
  refine lv_dup C.1 C.2.1 dX1_add_48 rfl ?_
  refine g_X1_2 C fl_X1_22 hk0 S dX1_add_49 ?_
  refine lv_iconst (v := (1 : Int32)) C.1 C.2.1 dX1_add_52 (by decide) ?_
  refine lv_iadd C.1 C.2.1 dX1_add_53 ?_
  refine p_X1_2 C fl_X1_22 hk0 S dX1_add_54 (fun σ15 H locs e16 S => ?_)
  replace h := h σ15 e16
  refine lv_aload_n C.1 C.2.1 dX1_add_57 rfl (lv_at hl 1 rfl) ?_
  refine g_X1_2 C fl_X1_22 hk0 S dX1_add_58 ?_
  refine lv_iconst (v := (1 : Int32)) C.1 C.2.1 dX1_add_61 (by decide) ?_
  refine lv_isub C.1 C.2.1 dX1_add_62 ?_
  exact hR _ _ _ _ _ _ dX1_add_63 h S
/-! X6_bitsBelow -/
abbrev rm_X6_bitsBelow : Room := { frames := 0, cells := 0, slots := 0, locals := 0 }
def wpX6_bitsBelow (x0 : Int32) (x1 : Int32) (σ : Sg) (post : Int32 → Sg → Prop) : Prop := post ((x0 &&& (((1 : Int32) <<< (x1 &&& 31)) - (1 : Int32)))) σ
theorem kM_X6_bitsBelow : s_M yX6_bitsBelow cX6_bitsBelow 2 (some .int) 2 := ⟨co_X6_bitsBelow, in_X6, by decide, by decide, by decide +kernel⟩
set_option maxHeartbeats 4000000 in
set_option maxRecDepth 100000 in
theorem c_X6_bitsBelow (l : Launch) (G : s_G) (x0 : Int32) (x1 : Int32) (σ : Sg) (post : Int32 → Sg → Prop) (h : wpX6_bitsBelow x0 x1 σ post) : Met l yX6_bitsBelow (wsU yX6_bitsBelow cX6_bitsBelow 2 (some .int)) rm_X6_bitsBelow (va_Pc [.int x0, .int x1] (s_Pre G σ)) (va_Qi post (s_B G) (s_A G.2.2)) 0 0 (s_A G.2.2) := by
  refine Met.ofW (cc := cX6_bitsBelow) (maxL := 2) (ret := (some .int)) (by decide) rfl ?_
  intro p e s m args below meth c s₁ B hml hv
  obtain ⟨rfl, hP, hrok, hK, hN⟩ := hv
  have C : s_C G p s (([.int x0, .int x1] : List Value).toArray) m c RX6 cX6_bitsBelow := ⟨B.exec, B.bytes, findClass_of_methodNamed B.named, fun w hw => atoms_spec (ws := wsU yX6_bitsBelow cX6_bitsBelow 2 (some .int)) B.pre w (List.mem_cons_of_mem _ hw), hK, hN⟩
  have hr := B.returns
  have hlocks := B.notSynchronized
  have S : s_St G σ s.heap s.heap [] := ⟨hP, va_S.rf, hrok⟩
  have hcs : 0 ≤ (rm_X6_bitsBelow).cells ∧ 0 ≤ (rm_X6_bitsBelow).slots := ⟨Nat.le_refl 0, Nat.le_refl 0⟩
  have hR : ∀ (r : Int32) (σ1 : Sg) (H : Heap) (locs : List Loc) (pc : Nat) (ls : Array Slot), decode cX6_bitsBelow pc = .ok (.ireturn, 1) → post r σ1 → s_St G σ1 s.heap H locs → W p l e rm_X6_bitsBelow s m ([.int x0, .int x1] : List Value).toArray below meth c H locs 0 0 (MQ below (va_Qi post (s_B G) (s_A G.2.2)) ([.int x0, .int x1] : List Value).toArray s 0 0 (s_A G.2.2)) (F0 m pc ls [.int r]) := fun _ _ _ _ _ _ hd hp S => ret_i C hr hlocks hd hp S
  have hl := lv_entry ([.int x0, .int x1]) (n := 2) (Nat.le_of_ble_eq_true rfl)
  rw [lg_entry_eq]
  generalize (lg_sl ([.int x0, .int x1]) ++ List.replicate (2 - (lg_sl ([.int x0, .int x1])).length) Slot.unset).toArray = ls at hl ⊢
  have hl : lv_has ls 2 [(0, .int x0), (1, .int x1)] := hl
  unfold wpX6_bitsBelow at h
  refine lv_iload_n C.1 C.2.1 dX6_bitsBelow_0 rfl (lv_at hl 0 rfl) ?_
  refine lv_iconst (v := (1 : Int32)) C.1 C.2.1 dX6_bitsBelow_1 (by decide) ?_
  refine lv_iload_n C.1 C.2.1 dX6_bitsBelow_2 rfl (lv_at hl 1 rfl) ?_
  refine lv_ishl C.1 C.2.1 dX6_bitsBelow_3 ?_
  refine lv_iconst (v := (1 : Int32)) C.1 C.2.1 dX6_bitsBelow_4 (by decide) ?_
  refine lv_isub C.1 C.2.1 dX6_bitsBelow_5 ?_
  refine lv_iand C.1 C.2.1 dX6_bitsBelow_6 ?_
  exact hR _ _ _ _ _ _ dX6_bitsBelow_7 h S
/-! X3_clashesWith -/
abbrev rm_X3_clashesWith : Room := { frames := 1, cells := 0, slots := 0, locals := 21 }
def wpX3_clashesWith (k0 : Nat) (k1 : Nat) (σ : Sg) (post : Int32 → Sg → Prop) : Prop := wpX3_wordLength k0 σ (fun r2 σ1 => wpX3_wordLength k1 σ1 (fun r4 σ3 => wpX6_bitsBelow ((σ3.1 k0 0)) (((8 : Int32) * (if r4 < r2 then r4 else r2))) σ3 (fun r6 σ5 => wpX6_bitsBelow ((σ5.1 k1 0)) (((8 : Int32) * (if r4 < r2 then r4 else r2))) σ5 (fun r8 σ7 => (((¬ r6 = r8) → post (0 : Int32) σ7) ∧ ((r6 = r8) → post (1 : Int32) σ7))))))
theorem kM_X3_clashesWith : s_M yX3_clashesWith cX3_clashesWith 3 (some .boolean) 1 := ⟨co_X3_clashesWith, in_X3, by decide, by decide, by decide +kernel⟩
set_option maxHeartbeats 4000000 in
set_option maxRecDepth 100000 in
theorem c_X3_clashesWith (l : Launch) (G : s_G) (k0 : Nat) (k1 : Nat) (σ : Sg) (post : Int32 → Sg → Prop) (hk0 : s_kd k0 = 3) (hk1 : s_kd k1 = 3) (h : wpX3_clashesWith k0 k1 σ post) : Met l yX3_clashesWith (wsU yX3_clashesWith cX3_clashesWith 3 (some .boolean)) rm_X3_clashesWith (va_Pc [.ref (G.2.2 + k0), .ref (G.2.2 + k1)] (s_Pre G σ)) (va_Qi post (s_B G) (s_A G.2.2)) 0 0 (s_A G.2.2) := by
  refine Met.ofW (cc := cX3_clashesWith) (maxL := 3) (ret := (some .boolean)) (by decide) rfl ?_
  intro p e s m args below meth c s₁ B hml hv
  obtain ⟨rfl, hP, hrok, hK, hN⟩ := hv
  have C : s_C G p s (([.ref (G.2.2 + k0), .ref (G.2.2 + k1)] : List Value).toArray) m c RX3 cX3_clashesWith := ⟨B.exec, B.bytes, findClass_of_methodNamed B.named, fun w hw => atoms_spec (ws := wsU yX3_clashesWith cX3_clashesWith 3 (some .boolean)) B.pre w (List.mem_cons_of_mem _ hw), hK, hN⟩
  have hr := B.returns
  have hlocks := B.notSynchronized
  have S : s_St G σ s.heap s.heap [] := ⟨hP, va_S.rf, hrok⟩
  have hcs : 0 ≤ (rm_X3_clashesWith).cells ∧ 0 ≤ (rm_X3_clashesWith).slots := ⟨Nat.le_refl 0, Nat.le_refl 0⟩
  have hR : ∀ (r : Int32) (σ1 : Sg) (H : Heap) (locs : List Loc) (pc : Nat) (ls : Array Slot), decode cX3_clashesWith pc = .ok (.ireturn, 1) → narrow .boolean (.int r) = .int r → post r σ1 → s_St G σ1 s.heap H locs → W p l e rm_X3_clashesWith s m ([.ref (G.2.2 + k0), .ref (G.2.2 + k1)] : List Value).toArray below meth c H locs 0 0 (MQ below (va_Qi post (s_B G) (s_A G.2.2)) ([.ref (G.2.2 + k0), .ref (G.2.2 + k1)] : List Value).toArray s 0 0 (s_A G.2.2)) (F0 m pc ls [.int r]) := fun _ _ _ _ _ _ hd hn hp S => ret_z C hr hlocks hd hn hp S
  have hl := lv_entry ([.ref (G.2.2 + k0), .ref (G.2.2 + k1)]) (n := 3) (Nat.le_of_ble_eq_true rfl)
  rw [lg_entry_eq]
  generalize (lg_sl ([.ref (G.2.2 + k0), .ref (G.2.2 + k1)]) ++ List.replicate (3 - (lg_sl ([.ref (G.2.2 + k0), .ref (G.2.2 + k1)])).length) Slot.unset).toArray = ls at hl ⊢
  have hl : lv_has ls 3 [(0, .ref (G.2.2 + k0)), (1, .ref (G.2.2 + k1))] := hl
  unfold wpX3_clashesWith at h
  refine lv_bipush (v := (8 : Int32)) C.1 C.2.1 dX3_clashesWith_0 (by decide) ?_
  refine lv_aload_n C.1 C.2.1 dX3_clashesWith_2 rfl (lv_at hl 0 rfl) ?_
  refine k_i (r_V (As := []) (rest := [.int (8 : Int32)]) C hml (c_X3_wordLength l G k0 σ _ hk0 h) kM_X3_wordLength im_X3_wordLength se_X3_wordLength ml_X3_31 ⟨rfl, rfl⟩ ⟨Nat.le_of_ble_eq_true rfl, Nat.le_of_ble_eq_true rfl⟩ hcs S hk0 (by decide) (T := TX3) (N := 6) rfl rfl hl.1 rfl (Nat.le_of_ble_eq_true rfl) dX3_clashesWith_3) S (fun r2 σ1 H locs h S => ?_)
  refine lv_aload_n C.1 C.2.1 dX3_clashesWith_6 rfl (lv_at hl 1 rfl) ?_
  refine k_i (r_V (As := []) (rest := [.int r2, .int (8 : Int32)]) C hml (c_X3_wordLength l G k1 σ1 _ hk1 h) kM_X3_wordLength im_X3_wordLength se_X3_wordLength ml_X3_31 ⟨rfl, rfl⟩ ⟨Nat.le_of_ble_eq_true rfl, Nat.le_of_ble_eq_true rfl⟩ hcs S hk1 (by decide) (T := TX3) (N := 6) rfl rfl hl.1 rfl (Nat.le_of_ble_eq_true rfl) dX3_clashesWith_7) S (fun r4 σ3 H locs h S => ?_)
  refine va_mmin C.1 C.2.1 (hml.trans hl.1.symm) C.2.2.1 (C.2.2.2.1 _ ml_X3_35) (C.2.2.2.1 _ st_min) (C.2.2.2.1 _ in_math) (C.2.2.2.1 _ co_min) (Nat.le_of_ble_eq_true rfl) (Nat.le_of_ble_eq_true rfl) hcs.1 hcs.2 dX3_clashesWith_10 ?_
  refine lv_imul C.1 C.2.1 dX3_clashesWith_13 ?_
  refine lv_istore_n (lv' := [(2, .int ((8 : Int32) * (if r4 < r2 then r4 else r2))), (0, .ref (G.2.2 + k0)), (1, .ref (G.2.2 + k1))]) C.1 C.2.1 dX3_clashesWith_14 rfl hl (by decide) rfl (fun ls hl => ?_)
  refine lv_aload_n C.1 C.2.1 dX3_clashesWith_15 rfl (lv_at hl 1 rfl) ?_
  refine g_X3_0 C fl_X3_9 hk0 S dX3_clashesWith_16 ?_
  refine lv_iload_n C.1 C.2.1 dX3_clashesWith_19 rfl (lv_at hl 0 rfl) ?_
  refine k_i (r_SN (As := [.int (σ3.1 k0 0), .int ((8 : Int32) * (if r4 < r2 then r4 else r2))]) (rest := []) C hml (c_X6_bitsBelow l G ((σ3.1 k0 0)) (((8 : Int32) * (if r4 < r2 then r4 else r2))) σ3 _ h) kM_X6_bitsBelow st_X6_bitsBelow nm_X3_41 ⟨rfl, rfl⟩ ⟨Nat.le_of_ble_eq_true rfl, Nat.le_of_ble_eq_true rfl⟩ hcs S rfl hl.1 rfl (Nat.le_of_ble_eq_true rfl) dX3_clashesWith_20) S (fun r6 σ5 H locs h S => ?_)
  refine lv_aload_n C.1 C.2.1 dX3_clashesWith_23 rfl (lv_at hl 2 rfl) ?_
  refine g_X3_0 C fl_X3_9 hk1 S dX3_clashesWith_24 ?_
  refine lv_iload_n C.1 C.2.1 dX3_clashesWith_27 rfl (lv_at hl 0 rfl) ?_
  refine k_i (r_SN (As := [.int (σ5.1 k1 0), .int ((8 : Int32) * (if r4 < r2 then r4 else r2))]) (rest := [.int r6]) C hml (c_X6_bitsBelow l G ((σ5.1 k1 0)) (((8 : Int32) * (if r4 < r2 then r4 else r2))) σ5 _ h) kM_X6_bitsBelow st_X6_bitsBelow nm_X3_41 ⟨rfl, rfl⟩ ⟨Nat.le_of_ble_eq_true rfl, Nat.le_of_ble_eq_true rfl⟩ hcs S rfl hl.1 rfl (Nat.le_of_ble_eq_true rfl) dX3_clashesWith_28) S (fun r8 σ7 H locs h S => ?_)
  refine lv_icmp_ne (tgt := 38) C.1 C.2.1 dX3_clashesWith_31 (by decide) (fun c9 => ?_) (fun c9 => ?_)
  · replace h := h.1 c9
    refine lv_iconst (v := (0 : Int32)) C.1 C.2.1 dX3_clashesWith_38 (by decide) ?_
    exact hR _ _ _ _ _ _ dX3_clashesWith_39 rfl h S
  · replace h := h.2 c9
    refine lv_iconst (v := (1 : Int32)) C.1 C.2.1 dX3_clashesWith_34 (by decide) ?_
    refine lv_goto (tgt := 39) C.1 C.2.1 dX3_clashesWith_35 (by decide) ?_
    exact hR _ _ _ _ _ _ dX3_clashesWith_39 rfl h S
/-! X1_clashesOf -/
abbrev rm_X1_clashesOf : Room := { frames := 2, cells := 0, slots := 0, locals := 43 }
def BX1_clashesOf_4 (k0 : Nat) (x1 : Int32) (post : Int32 → Sg → Prop) : Nat → Int32 → Int32 → Sg → Prop
  | 0, _, _, _ => False
  | n + 1, x2, x3, σ => ((((σ.1 k0 2) ≤ x3) → post x2 σ) ∧ ((¬ (σ.1 k0 2) ≤ x3) → (((x3 = x1) → BX1_clashesOf_4 k0 x1 post n x2 ((x3 + 1)) σ) ∧ ((¬ x3 = x1) → wpX1_at k0 x1 σ (fun q4 σ3 => s_kd q4 = 3 → wpX1_at k0 x3 σ3 (fun q6 σ5 => s_kd q6 = 3 → wpX3_clashesWith q4 q6 σ5 (fun r8 σ7 => (((r8 = 0) → BX1_clashesOf_4 k0 x1 post n x2 ((x3 + 1)) σ7) ∧ ((¬ r8 = 0) → BX1_clashesOf_4 k0 x1 post n ((x2 ||| ((1 : Int32) <<< (x3 &&& 31)))) ((x3 + 1)) σ7)))))))))
def wpX1_clashesOf (k0 : Nat) (x1 : Int32) (σ : Sg) (post : Int32 → Sg → Prop) : Prop := ∃ nf, BX1_clashesOf_4 k0 x1 post nf ((0 : Int32)) ((0 : Int32)) σ
set_option maxHeartbeats 4000000 in
set_option maxRecDepth 100000 in
theorem TX1_clashesOf_4 (C : s_C G p s args m c RX1 cX1_clashesOf) (hml : c.maxLocals = 4) (hcs : cells ≤ (rm_X1_clashesOf).cells ∧ slots ≤ (rm_X1_clashesOf).slots) {k0 : Nat} {x1 : Int32} (hk0 : s_kd k0 = 1) {post : Int32 → Sg → Prop} (hR : ∀ (r : Int32) (σ1 : Sg) (H : Heap) (locs : List Loc) (pc : Nat) (ls : Array Slot), decode cX1_clashesOf pc = .ok (.ireturn, 1) → post r σ1 → s_St G σ1 H0 H locs → W p l e rm_X1_clashesOf s m args below meth c H locs cells slots Q (F0 m pc ls [.int r])) : ∀ (n : Nat) (x2 : Int32) (x3 : Int32), ∀ {σ : Sg} {H : Heap} {locs : List Loc} {ls : Array Slot}, s_St G σ H0 H locs → lv_has ls 4 [(0, .ref (G.2.2 + k0)), (1, .int x1), (2, .int x2), (3, .int x3)] → BX1_clashesOf_4 k0 x1 post n x2 x3 σ → W p l e rm_X1_clashesOf s m args below meth c H locs cells slots Q (F0 m 4 ls []) := by
  intro n
  induction n with
  | zero =>
    intro x2 x3  σ H locs ls S hl h
    exact absurd h (fun h => h)
  | succ n ih0 =>
    have ih : ∀ (x2 : Int32) (x3 : Int32), ∀ (σ : Sg) (H : Heap) (locs : List Loc) (ls : Array Slot), s_St G σ H0 H locs → lv_has ls 4 [(0, .ref (G.2.2 + k0)), (1, .int x1), (2, .int x2), (3, .int x3)] → BX1_clashesOf_4 k0 x1 post n x2 x3 σ → W p l e rm_X1_clashesOf s m args below meth c H locs cells slots Q (F0 m 4 ls []) := fun x2 x3  _ _ _ _ => ih0 x2 x3 
    intro x2 x3  σ H locs ls S hl h
    refine lv_iload_n C.1 C.2.1 dX1_clashesOf_4 rfl (lv_at hl 3 rfl) ?_
    refine lv_aload_n C.1 C.2.1 dX1_clashesOf_5 rfl (lv_at hl 0 rfl) ?_
    refine g_X1_2 C fl_X1_22 hk0 S dX1_clashesOf_6 ?_
    refine lv_icmp_ge (tgt := 45) C.1 C.2.1 dX1_clashesOf_9 (by decide) (fun c1 => ?_) (fun c1 => ?_)
    · replace h := h.1 c1
      refine lv_iload_n C.1 C.2.1 dX1_clashesOf_45 rfl (lv_at hl 2 rfl) ?_
      exact hR _ _ _ _ _ _ dX1_clashesOf_46 h S
    · replace h := h.2 c1
      refine lv_iload_n C.1 C.2.1 dX1_clashesOf_12 rfl (lv_at hl 3 rfl) ?_
      refine lv_iload_n C.1 C.2.1 dX1_clashesOf_13 rfl (lv_at hl 1 rfl) ?_
      refine lv_icmp_eq (tgt := 39) C.1 C.2.1 dX1_clashesOf_14 (by decide) (fun c2 => ?_) (fun c2 => ?_)
      · replace h := h.1 c2
        refine lv_iinc (v := (x3 + 1)) (lv' := [(3, .int (x3 + 1)), (0, .ref (G.2.2 + k0)), (1, .int x1), (2, .int x2)]) C.1 C.2.1 dX1_clashesOf_39 hl (k := 3) rfl rfl (by decide) rfl (fun ls hl => ?_)
        refine lv_goto (tgt := 4) C.1 C.2.1 dX1_clashesOf_42 (by decide) ?_
        exact ih x2 ((x3 + 1)) _ _ _ _ S (lv_sub hl [1, 2, 3, 0] rfl) h
      · replace h := h.2 c2
        refine lv_aload_n C.1 C.2.1 dX1_clashesOf_17 rfl (lv_at hl 0 rfl) ?_
        refine lv_iload_n C.1 C.2.1 dX1_clashesOf_18 rfl (lv_at hl 1 rfl) ?_
        refine k_r (kd := 3) (r_V (As := [.int x1]) (rest := []) C hml (c_X1_at l G k0 x1 σ _ hk0 h) kM_X1_at im_X1_at se_X1_at ml_X1_29 ⟨rfl, rfl⟩ ⟨Nat.le_of_ble_eq_true rfl, Nat.le_of_ble_eq_true rfl⟩ hcs S hk0 (by decide) (T := TX1) (N := 4) rfl rfl hl.1 rfl (Nat.le_of_ble_eq_true rfl) dX1_clashesOf_19) S (fun q4 σ3 H locs hq4 h S => ?_)
        replace h := h hq4
        refine lv_aload_n C.1 C.2.1 dX1_clashesOf_22 rfl (lv_at hl 0 rfl) ?_
        refine lv_iload_n C.1 C.2.1 dX1_clashesOf_23 rfl (lv_at hl 3 rfl) ?_
        refine k_r (kd := 3) (r_V (As := [.int x3]) (rest := [.ref (G.2.2 + q4)]) C hml (c_X1_at l G k0 x3 σ3 _ hk0 h) kM_X1_at im_X1_at se_X1_at ml_X1_29 ⟨rfl, rfl⟩ ⟨Nat.le_of_ble_eq_true rfl, Nat.le_of_ble_eq_true rfl⟩ hcs S hk0 (by decide) (T := TX1) (N := 4) rfl rfl hl.1 rfl (Nat.le_of_ble_eq_true rfl) dX1_clashesOf_24) S (fun q6 σ5 H locs hq6 h S => ?_)
        replace h := h hq6
        refine k_i (r_VN (As := [.ref (G.2.2 + q6)]) (rest := []) C hml (c_X3_clashesWith l G q4 q6 σ5 _ hq4 hq6 h) kM_X3_clashesWith im_X3_clashesWith se_X3_clashesWith nm_X1_77 ⟨rfl, rfl⟩ ⟨Nat.le_of_ble_eq_true rfl, Nat.le_of_ble_eq_true rfl⟩ hcs S hq4 (by decide) (T := TX3) (N := 6) rfl rfl hl.1 rfl (Nat.le_of_ble_eq_true rfl) dX1_clashesOf_27) S (fun r8 σ7 H locs h S => ?_)
        refine lv_if_eq (tgt := 39) C.1 C.2.1 dX1_clashesOf_30 (by decide) (fun c9 => ?_) (fun c9 => ?_)
        · replace h := h.1 c9
          refine lv_iinc (v := (x3 + 1)) (lv' := [(3, .int (x3 + 1)), (0, .ref (G.2.2 + k0)), (1, .int x1), (2, .int x2)]) C.1 C.2.1 dX1_clashesOf_39 hl (k := 3) rfl rfl (by decide) rfl (fun ls hl => ?_)
          refine lv_goto (tgt := 4) C.1 C.2.1 dX1_clashesOf_42 (by decide) ?_
          exact ih x2 ((x3 + 1)) _ _ _ _ S (lv_sub hl [1, 2, 3, 0] rfl) h
        · replace h := h.2 c9
          refine lv_iload_n C.1 C.2.1 dX1_clashesOf_33 rfl (lv_at hl 2 rfl) ?_
          refine lv_iconst (v := (1 : Int32)) C.1 C.2.1 dX1_clashesOf_34 (by decide) ?_
          refine lv_iload_n C.1 C.2.1 dX1_clashesOf_35 rfl (lv_at hl 3 rfl) ?_
          refine lv_ishl C.1 C.2.1 dX1_clashesOf_36 ?_
          refine lv_ior C.1 C.2.1 dX1_clashesOf_37 ?_
          refine lv_istore_n (lv' := [(2, .int (x2 ||| ((1 : Int32) <<< (x3 &&& 31)))), (0, .ref (G.2.2 + k0)), (1, .int x1), (3, .int x3)]) C.1 C.2.1 dX1_clashesOf_38 rfl hl (by decide) rfl (fun ls hl => ?_)
          refine lv_iinc (v := (x3 + 1)) (lv' := [(3, .int (x3 + 1)), (2, .int (x2 ||| ((1 : Int32) <<< (x3 &&& 31)))), (0, .ref (G.2.2 + k0)), (1, .int x1)]) C.1 C.2.1 dX1_clashesOf_39 hl (k := 3) rfl rfl (by decide) rfl (fun ls hl => ?_)
          refine lv_goto (tgt := 4) C.1 C.2.1 dX1_clashesOf_42 (by decide) ?_
          exact ih ((x2 ||| ((1 : Int32) <<< (x3 &&& 31)))) ((x3 + 1)) _ _ _ _ S (lv_sub hl [2, 3, 1, 0] rfl) h
theorem kM_X1_clashesOf : s_M yX1_clashesOf cX1_clashesOf 4 (some .int) 1 := ⟨co_X1_clashesOf, in_X1, by decide, by decide, by decide +kernel⟩
set_option maxHeartbeats 4000000 in
set_option maxRecDepth 100000 in
theorem c_X1_clashesOf (l : Launch) (G : s_G) (k0 : Nat) (x1 : Int32) (σ : Sg) (post : Int32 → Sg → Prop) (hk0 : s_kd k0 = 1) (h : wpX1_clashesOf k0 x1 σ post) : Met l yX1_clashesOf (wsU yX1_clashesOf cX1_clashesOf 4 (some .int)) rm_X1_clashesOf (va_Pc [.ref (G.2.2 + k0), .int x1] (s_Pre G σ)) (va_Qi post (s_B G) (s_A G.2.2)) 0 0 (s_A G.2.2) := by
  refine Met.ofW (cc := cX1_clashesOf) (maxL := 4) (ret := (some .int)) (by decide) rfl ?_
  intro p e s m args below meth c s₁ B hml hv
  obtain ⟨rfl, hP, hrok, hK, hN⟩ := hv
  have C : s_C G p s (([.ref (G.2.2 + k0), .int x1] : List Value).toArray) m c RX1 cX1_clashesOf := ⟨B.exec, B.bytes, findClass_of_methodNamed B.named, fun w hw => atoms_spec (ws := wsU yX1_clashesOf cX1_clashesOf 4 (some .int)) B.pre w (List.mem_cons_of_mem _ hw), hK, hN⟩
  have hr := B.returns
  have hlocks := B.notSynchronized
  have S : s_St G σ s.heap s.heap [] := ⟨hP, va_S.rf, hrok⟩
  have hcs : 0 ≤ (rm_X1_clashesOf).cells ∧ 0 ≤ (rm_X1_clashesOf).slots := ⟨Nat.le_refl 0, Nat.le_refl 0⟩
  have hR : ∀ (r : Int32) (σ1 : Sg) (H : Heap) (locs : List Loc) (pc : Nat) (ls : Array Slot), decode cX1_clashesOf pc = .ok (.ireturn, 1) → post r σ1 → s_St G σ1 s.heap H locs → W p l e rm_X1_clashesOf s m ([.ref (G.2.2 + k0), .int x1] : List Value).toArray below meth c H locs 0 0 (MQ below (va_Qi post (s_B G) (s_A G.2.2)) ([.ref (G.2.2 + k0), .int x1] : List Value).toArray s 0 0 (s_A G.2.2)) (F0 m pc ls [.int r]) := fun _ _ _ _ _ _ hd hp S => ret_i C hr hlocks hd hp S
  have hl := lv_entry ([.ref (G.2.2 + k0), .int x1]) (n := 4) (Nat.le_of_ble_eq_true rfl)
  rw [lg_entry_eq]
  generalize (lg_sl ([.ref (G.2.2 + k0), .int x1]) ++ List.replicate (4 - (lg_sl ([.ref (G.2.2 + k0), .int x1])).length) Slot.unset).toArray = ls at hl ⊢
  have hl : lv_has ls 4 [(0, .ref (G.2.2 + k0)), (1, .int x1)] := hl
  unfold wpX1_clashesOf at h
  refine lv_iconst (v := (0 : Int32)) C.1 C.2.1 dX1_clashesOf_0 (by decide) ?_
  refine lv_istore_n (lv' := [(2, .int (0 : Int32)), (0, .ref (G.2.2 + k0)), (1, .int x1)]) C.1 C.2.1 dX1_clashesOf_1 rfl hl (by decide) rfl (fun ls hl => ?_)
  refine lv_iconst (v := (0 : Int32)) C.1 C.2.1 dX1_clashesOf_2 (by decide) ?_
  refine lv_istore_n (lv' := [(3, .int (0 : Int32)), (2, .int (0 : Int32)), (0, .ref (G.2.2 + k0)), (1, .int x1)]) C.1 C.2.1 dX1_clashesOf_3 rfl hl (by decide) rfl (fun ls hl => ?_)
  obtain ⟨nf, h⟩ := h
  exact TX1_clashesOf_4 C hml hcs hk0 hR nf ((0 : Int32)) ((0 : Int32)) S (lv_sub hl [2, 3, 1, 0] rfl) h
/-! X3_copyFrom -/
abbrev rm_X3_copyFrom : Room := { frames := 0, cells := 0, slots := 0, locals := 0 }
def wpX3_copyFrom (k0 : Nat) (k1 : Nat) (σ : Sg) (post : Sg → Prop) : Prop := (∀ σ1 : Sg, σ1 = setI σ k0 0 ((σ.1 k1 0)) → (∀ σ3 : Sg, σ3 = setI σ1 k0 1 ((σ1.1 k1 1)) → (∀ σ5 : Sg, σ5 = setI σ3 k0 2 ((σ3.1 k1 2)) → (∀ σ7 : Sg, σ7 = setI σ5 k0 3 ((σ5.1 k1 3)) → (∀ σ9 : Sg, σ9 = setI σ7 k0 4 ((σ7.1 k1 4)) → (∀ σ11 : Sg, σ11 = setI σ9 k0 5 ((σ9.1 k1 5)) → post σ11))))))
theorem kM_X3_copyFrom : s_M yX3_copyFrom cX3_copyFrom 2 none 1 := ⟨co_X3_copyFrom, in_X3, by decide, by decide, by decide +kernel⟩
set_option maxHeartbeats 4000000 in
set_option maxRecDepth 100000 in
theorem c_X3_copyFrom (l : Launch) (G : s_G) (k0 : Nat) (k1 : Nat) (σ : Sg) (post : Sg → Prop) (hk0 : s_kd k0 = 3) (hk1 : s_kd k1 = 3) (h : wpX3_copyFrom k0 k1 σ post) : Met l yX3_copyFrom (wsU yX3_copyFrom cX3_copyFrom 2 none) rm_X3_copyFrom (va_Pc [.ref (G.2.2 + k0), .ref (G.2.2 + k1)] (s_Pre G σ)) (va_Qv post (s_B G) (s_A G.2.2)) 0 0 (s_A G.2.2) := by
  refine Met.ofW (cc := cX3_copyFrom) (maxL := 2) (ret := none) (by decide) rfl ?_
  intro p e s m args below meth c s₁ B hml hv
  obtain ⟨rfl, hP, hrok, hK, hN⟩ := hv
  have C : s_C G p s (([.ref (G.2.2 + k0), .ref (G.2.2 + k1)] : List Value).toArray) m c RX3 cX3_copyFrom := ⟨B.exec, B.bytes, findClass_of_methodNamed B.named, fun w hw => atoms_spec (ws := wsU yX3_copyFrom cX3_copyFrom 2 none) B.pre w (List.mem_cons_of_mem _ hw), hK, hN⟩
  have hr := B.returns
  have hlocks := B.notSynchronized
  have S : s_St G σ s.heap s.heap [] := ⟨hP, va_S.rf, hrok⟩
  have hcs : 0 ≤ (rm_X3_copyFrom).cells ∧ 0 ≤ (rm_X3_copyFrom).slots := ⟨Nat.le_refl 0, Nat.le_refl 0⟩
  have hR : ∀ (σ1 : Sg) (H : Heap) (locs : List Loc) (pc : Nat) (ls : Array Slot), decode cX3_copyFrom pc = .ok (.return_, 1) → post σ1 → s_St G σ1 s.heap H locs → W p l e rm_X3_copyFrom s m ([.ref (G.2.2 + k0), .ref (G.2.2 + k1)] : List Value).toArray below meth c H locs 0 0 (MQ below (va_Qv post (s_B G) (s_A G.2.2)) ([.ref (G.2.2 + k0), .ref (G.2.2 + k1)] : List Value).toArray s 0 0 (s_A G.2.2)) (F0 m pc ls []) := fun _ _ _ _ _ hd hp S => ret_v C hr hlocks hd hp S
  have hl := lv_entry ([.ref (G.2.2 + k0), .ref (G.2.2 + k1)]) (n := 2) (Nat.le_of_ble_eq_true rfl)
  rw [lg_entry_eq]
  generalize (lg_sl ([.ref (G.2.2 + k0), .ref (G.2.2 + k1)]) ++ List.replicate (2 - (lg_sl ([.ref (G.2.2 + k0), .ref (G.2.2 + k1)])).length) Slot.unset).toArray = ls at hl ⊢
  have hl : lv_has ls 2 [(0, .ref (G.2.2 + k0)), (1, .ref (G.2.2 + k1))] := hl
  unfold wpX3_copyFrom at h
  refine lv_aload_n C.1 C.2.1 dX3_copyFrom_0 rfl (lv_at hl 0 rfl) ?_
  refine lv_aload_n C.1 C.2.1 dX3_copyFrom_1 rfl (lv_at hl 1 rfl) ?_
  refine g_X3_0 C fl_X3_9 hk1 S dX3_copyFrom_2 ?_
  refine p_X3_0 C fl_X3_9 hk0 S dX3_copyFrom_5 (fun σ1 H locs e2 S => ?_)
  replace h := h σ1 e2
  refine lv_aload_n C.1 C.2.1 dX3_copyFrom_8 rfl (lv_at hl 0 rfl) ?_
  refine lv_aload_n C.1 C.2.1 dX3_copyFrom_9 rfl (lv_at hl 1 rfl) ?_
  refine g_X3_1 C fl_X3_15 hk1 S dX3_copyFrom_10 ?_
  refine p_X3_1 C fl_X3_15 hk0 S dX3_copyFrom_13 (fun σ3 H locs e4 S => ?_)
  replace h := h σ3 e4
  refine lv_aload_n C.1 C.2.1 dX3_copyFrom_16 rfl (lv_at hl 0 rfl) ?_
  refine lv_aload_n C.1 C.2.1 dX3_copyFrom_17 rfl (lv_at hl 1 rfl) ?_
  refine g_X3_2 C fl_X3_18 hk1 S dX3_copyFrom_18 ?_
  refine p_X3_2 C fl_X3_18 hk0 S dX3_copyFrom_21 (fun σ5 H locs e6 S => ?_)
  replace h := h σ5 e6
  refine lv_aload_n C.1 C.2.1 dX3_copyFrom_24 rfl (lv_at hl 0 rfl) ?_
  refine lv_aload_n C.1 C.2.1 dX3_copyFrom_25 rfl (lv_at hl 1 rfl) ?_
  refine g_X3_3 C fl_X3_21 hk1 S dX3_copyFrom_26 ?_
  refine p_X3_3 C fl_X3_21 hk0 S dX3_copyFrom_29 (fun σ7 H locs e8 S => ?_)
  replace h := h σ7 e8
  refine lv_aload_n C.1 C.2.1 dX3_copyFrom_32 rfl (lv_at hl 0 rfl) ?_
  refine lv_aload_n C.1 C.2.1 dX3_copyFrom_33 rfl (lv_at hl 1 rfl) ?_
  refine g_X3_4 C fl_X3_24 hk1 S dX3_copyFrom_34 ?_
  refine p_X3_4 C fl_X3_24 hk0 S dX3_copyFrom_37 (fun σ9 H locs e10 S => ?_)
  replace h := h σ9 e10
  refine lv_aload_n C.1 C.2.1 dX3_copyFrom_40 rfl (lv_at hl 0 rfl) ?_
  refine lv_aload_n C.1 C.2.1 dX3_copyFrom_41 rfl (lv_at hl 1 rfl) ?_
  refine g_X3_5 C fl_X3_27 hk1 S dX3_copyFrom_42 ?_
  refine p_X3_5 C fl_X3_27 hk0 S dX3_copyFrom_45 (fun σ11 H locs e12 S => ?_)
  replace h := h σ11 e12
  exact hR _ _ _ _ _ dX3_copyFrom_48 h S
/-! X1_copyFrom -/
abbrev rm_X1_copyFrom : Room := { frames := 1, cells := 0, slots := 0, locals := 21 }
def BX1_copyFrom_18 (k0 : Nat) (k1 : Nat) (post : Sg → Prop) : Nat → Int32 → Sg → Prop
  | 0, _, _ => False
  | n + 1, x2, σ => ((((6 : Int32) ≤ x2) → post σ) ∧ ((¬ (6 : Int32) ≤ x2) → (vp_in x2 6 ∧ (∀ q2 : Nat, q2 = (σ.2.2 (s_fin k0 0) (x2).toNatClampNeg) → wpX1_at k1 x2 σ (fun q5 σ4 => s_kd q5 = 3 → wpX3_copyFrom q2 q5 σ4 (fun σ6 => BX1_copyFrom_18 k0 k1 post n ((x2 + 1)) σ6))))))
def wpX1_copyFrom (k0 : Nat) (k1 : Nat) (σ : Sg) (post : Sg → Prop) : Prop := (∀ σ7 : Sg, σ7 = setI σ k0 2 ((σ.1 k1 2)) → (∀ σ9 : Sg, σ9 = setI σ7 k0 3 ((σ7.1 k1 3)) → ∃ nf, BX1_copyFrom_18 k0 k1 post nf ((0 : Int32)) σ9))
set_option maxHeartbeats 4000000 in
set_option maxRecDepth 100000 in
theorem TX1_copyFrom_18 (C : s_C G p s args m c RX1 cX1_copyFrom) (hml : c.maxLocals = 3) (hcs : cells ≤ (rm_X1_copyFrom).cells ∧ slots ≤ (rm_X1_copyFrom).slots) {k0 : Nat} {k1 : Nat} (hk0 : s_kd k0 = 1) (hk1 : s_kd k1 = 1) {post : Sg → Prop} (hR : ∀ (σ1 : Sg) (H : Heap) (locs : List Loc) (pc : Nat) (ls : Array Slot), decode cX1_copyFrom pc = .ok (.return_, 1) → post σ1 → s_St G σ1 H0 H locs → W p l e rm_X1_copyFrom s m args below meth c H locs cells slots Q (F0 m pc ls [])) : ∀ (n : Nat) (x2 : Int32), ∀ {σ : Sg} {H : Heap} {locs : List Loc} {ls : Array Slot}, s_St G σ H0 H locs → lv_has ls 3 [(0, .ref (G.2.2 + k0)), (1, .ref (G.2.2 + k1)), (2, .int x2)] → BX1_copyFrom_18 k0 k1 post n x2 σ → W p l e rm_X1_copyFrom s m args below meth c H locs cells slots Q (F0 m 18 ls []) := by
  intro n
  induction n with
  | zero =>
    intro x2  σ H locs ls S hl h
    exact absurd h (fun h => h)
  | succ n ih0 =>
    have ih : ∀ (x2 : Int32), ∀ (σ : Sg) (H : Heap) (locs : List Loc) (ls : Array Slot), s_St G σ H0 H locs → lv_has ls 3 [(0, .ref (G.2.2 + k0)), (1, .ref (G.2.2 + k1)), (2, .int x2)] → BX1_copyFrom_18 k0 k1 post n x2 σ → W p l e rm_X1_copyFrom s m args below meth c H locs cells slots Q (F0 m 18 ls []) := fun x2  _ _ _ _ => ih0 x2 
    intro x2  σ H locs ls S hl h
    refine lv_iload_n C.1 C.2.1 dX1_copyFrom_18 rfl (lv_at hl 2 rfl) ?_
    refine lv_aload_n C.1 C.2.1 dX1_copyFrom_19 rfl (lv_at hl 0 rfl) ?_
    refine g_X1_0 C fl_X1_11 hk0 S rfl dX1_copyFrom_20 ?_
    refine a_len11 C ((kdf_X1_0 hk0)) S (v := (6 : Int32)) (by rw [(lnf_X1_0 hk0)]; rfl) dX1_copyFrom_23 ?_
    refine lv_icmp_ge (tgt := 47) C.1 C.2.1 dX1_copyFrom_24 (by decide) (fun c1 => ?_) (fun c1 => ?_)
    · replace h := h.1 c1
      exact hR _ _ _ _ _ dX1_copyFrom_47 h S
    · replace h := h.2 c1
      refine lv_aload_n C.1 C.2.1 dX1_copyFrom_27 rfl (lv_at hl 0 rfl) ?_
      refine g_X1_0 C fl_X1_11 hk0 S rfl dX1_copyFrom_28 ?_
      refine lv_iload_n C.1 C.2.1 dX1_copyFrom_31 rfl (lv_at hl 2 rfl) ?_
      have hq2 := (S.2.2 ((s_fin k0 0)) (x2).toNatClampNeg (vp_lt (lnf_X1_0 hk0) h.1)).1 ((kdf_X1_0 hk0))
      refine a_mld C ((kdf_X1_0 hk0)) S (lnf_X1_0 hk0) h.1 dX1_copyFrom_32 ?_
      replace h := h.2
      obtain ⟨q2, e3⟩ : ∃ z, z = (σ.2.2 (s_fin k0 0) (x2).toNatClampNeg) := ⟨_, rfl⟩
      rw [← e3] at hq2 ⊢
      replace h := h q2 e3
      refine lv_aload_n C.1 C.2.1 dX1_copyFrom_33 rfl (lv_at hl 1 rfl) ?_
      refine lv_iload_n C.1 C.2.1 dX1_copyFrom_34 rfl (lv_at hl 2 rfl) ?_
      refine k_r (kd := 3) (r_V (As := [.int x2]) (rest := [.ref (G.2.2 + q2)]) C hml (c_X1_at l G k1 x2 σ _ hk1 h) kM_X1_at im_X1_at se_X1_at ml_X1_29 ⟨rfl, rfl⟩ ⟨Nat.le_of_ble_eq_true rfl, Nat.le_of_ble_eq_true rfl⟩ hcs S hk1 (by decide) (T := TX1) (N := 4) rfl rfl hl.1 rfl (Nat.le_of_ble_eq_true rfl) dX1_copyFrom_35) S (fun q5 σ4 H locs hq5 h S => ?_)
      replace h := h hq5
      refine k_v (r_VN (As := [.ref (G.2.2 + q5)]) (rest := []) C hml (c_X3_copyFrom l G q2 q5 σ4 _ hq2 hq5 h) kM_X3_copyFrom im_X3_copyFrom se_X3_copyFrom nm_X1_33 ⟨rfl, rfl⟩ ⟨Nat.le_of_ble_eq_true rfl, Nat.le_of_ble_eq_true rfl⟩ hcs S hq2 (by decide) (T := TX3) (N := 6) rfl rfl hl.1 rfl (Nat.le_of_ble_eq_true rfl) dX1_copyFrom_38) S (fun σ6 H locs h S => ?_)
      refine lv_iinc (v := (x2 + 1)) (lv' := [(2, .int (x2 + 1)), (0, .ref (G.2.2 + k0)), (1, .ref (G.2.2 + k1))]) C.1 C.2.1 dX1_copyFrom_41 hl (k := 2) rfl rfl (by decide) rfl (fun ls hl => ?_)
      refine lv_goto (tgt := 18) C.1 C.2.1 dX1_copyFrom_44 (by decide) ?_
      exact ih ((x2 + 1)) _ _ _ _ S (lv_sub hl [1, 2, 0] rfl) h
theorem kM_X1_copyFrom : s_M yX1_copyFrom cX1_copyFrom 3 none 1 := ⟨co_X1_copyFrom, in_X1, by decide, by decide, by decide +kernel⟩
set_option maxHeartbeats 4000000 in
set_option maxRecDepth 100000 in
theorem c_X1_copyFrom (l : Launch) (G : s_G) (k0 : Nat) (k1 : Nat) (σ : Sg) (post : Sg → Prop) (hk0 : s_kd k0 = 1) (hk1 : s_kd k1 = 1) (h : wpX1_copyFrom k0 k1 σ post) : Met l yX1_copyFrom (wsU yX1_copyFrom cX1_copyFrom 3 none) rm_X1_copyFrom (va_Pc [.ref (G.2.2 + k0), .ref (G.2.2 + k1)] (s_Pre G σ)) (va_Qv post (s_B G) (s_A G.2.2)) 0 0 (s_A G.2.2) := by
  refine Met.ofW (cc := cX1_copyFrom) (maxL := 3) (ret := none) (by decide) rfl ?_
  intro p e s m args below meth c s₁ B hml hv
  obtain ⟨rfl, hP, hrok, hK, hN⟩ := hv
  have C : s_C G p s (([.ref (G.2.2 + k0), .ref (G.2.2 + k1)] : List Value).toArray) m c RX1 cX1_copyFrom := ⟨B.exec, B.bytes, findClass_of_methodNamed B.named, fun w hw => atoms_spec (ws := wsU yX1_copyFrom cX1_copyFrom 3 none) B.pre w (List.mem_cons_of_mem _ hw), hK, hN⟩
  have hr := B.returns
  have hlocks := B.notSynchronized
  have S : s_St G σ s.heap s.heap [] := ⟨hP, va_S.rf, hrok⟩
  have hcs : 0 ≤ (rm_X1_copyFrom).cells ∧ 0 ≤ (rm_X1_copyFrom).slots := ⟨Nat.le_refl 0, Nat.le_refl 0⟩
  have hR : ∀ (σ1 : Sg) (H : Heap) (locs : List Loc) (pc : Nat) (ls : Array Slot), decode cX1_copyFrom pc = .ok (.return_, 1) → post σ1 → s_St G σ1 s.heap H locs → W p l e rm_X1_copyFrom s m ([.ref (G.2.2 + k0), .ref (G.2.2 + k1)] : List Value).toArray below meth c H locs 0 0 (MQ below (va_Qv post (s_B G) (s_A G.2.2)) ([.ref (G.2.2 + k0), .ref (G.2.2 + k1)] : List Value).toArray s 0 0 (s_A G.2.2)) (F0 m pc ls []) := fun _ _ _ _ _ hd hp S => ret_v C hr hlocks hd hp S
  have hl := lv_entry ([.ref (G.2.2 + k0), .ref (G.2.2 + k1)]) (n := 3) (Nat.le_of_ble_eq_true rfl)
  rw [lg_entry_eq]
  generalize (lg_sl ([.ref (G.2.2 + k0), .ref (G.2.2 + k1)]) ++ List.replicate (3 - (lg_sl ([.ref (G.2.2 + k0), .ref (G.2.2 + k1)])).length) Slot.unset).toArray = ls at hl ⊢
  have hl : lv_has ls 3 [(0, .ref (G.2.2 + k0)), (1, .ref (G.2.2 + k1))] := hl
  unfold wpX1_copyFrom at h
  refine lv_aload_n C.1 C.2.1 dX1_copyFrom_0 rfl (lv_at hl 0 rfl) ?_
  refine lv_aload_n C.1 C.2.1 dX1_copyFrom_1 rfl (lv_at hl 1 rfl) ?_
  refine g_X1_2 C fl_X1_22 hk1 S dX1_copyFrom_2 ?_
  refine p_X1_2 C fl_X1_22 hk0 S dX1_copyFrom_5 (fun σ7 H locs e8 S => ?_)
  replace h := h σ7 e8
  refine lv_aload_n C.1 C.2.1 dX1_copyFrom_8 rfl (lv_at hl 0 rfl) ?_
  refine lv_aload_n C.1 C.2.1 dX1_copyFrom_9 rfl (lv_at hl 1 rfl) ?_
  refine g_X1_3 C fl_X1_26 hk1 S dX1_copyFrom_10 ?_
  refine p_X1_3 C fl_X1_26 hk0 S dX1_copyFrom_13 (fun σ9 H locs e10 S => ?_)
  replace h := h σ9 e10
  refine lv_iconst (v := (0 : Int32)) C.1 C.2.1 dX1_copyFrom_16 (by decide) ?_
  refine lv_istore_n (lv' := [(2, .int (0 : Int32)), (0, .ref (G.2.2 + k0)), (1, .ref (G.2.2 + k1))]) C.1 C.2.1 dX1_copyFrom_17 rfl hl (by decide) rfl (fun ls hl => ?_)
  obtain ⟨nf, h⟩ := h
  exact TX1_copyFrom_18 C hml hcs hk0 hk1 hR nf ((0 : Int32)) S (lv_sub hl [1, 2, 0] rfl) h
/-! X1_countClashingPairs -/
abbrev rm_X1_countClashingPairs : Room := { frames := 3, cells := 0, slots := 0, locals := 66 }
def BX1_countClashingPairs_4 (k0 : Nat) (post : Int32 → Sg → Prop) : Nat → Int32 → Int32 → Sg → Prop
  | 0, _, _, _ => False
  | n + 1, x1, x2, σ => ((((σ.1 k0 2) ≤ x2) → post ((x1 / (2 : Int32))) σ) ∧ ((¬ (σ.1 k0 2) ≤ x2) → wpX1_clashesOf k0 x2 σ (fun r3 σ2 => wpJ6_bitCount_0f7a4 r3 σ2 (fun r5 σ4 => BX1_countClashingPairs_4 k0 post n ((x1 + r5)) ((x2 + 1)) σ4))))
def wpX1_countClashingPairs (k0 : Nat) (σ : Sg) (post : Int32 → Sg → Prop) : Prop := ∃ nf, BX1_countClashingPairs_4 k0 post nf ((0 : Int32)) ((0 : Int32)) σ
set_option maxHeartbeats 4000000 in
set_option maxRecDepth 100000 in
theorem TX1_countClashingPairs_4 (C : s_C G p s args m c RX1 cX1_countClashingPairs) (hml : c.maxLocals = 3) (hcs : cells ≤ (rm_X1_countClashingPairs).cells ∧ slots ≤ (rm_X1_countClashingPairs).slots) {k0 : Nat} (hk0 : s_kd k0 = 1) {post : Int32 → Sg → Prop} (hR : ∀ (r : Int32) (σ1 : Sg) (H : Heap) (locs : List Loc) (pc : Nat) (ls : Array Slot), decode cX1_countClashingPairs pc = .ok (.ireturn, 1) → post r σ1 → s_St G σ1 H0 H locs → W p l e rm_X1_countClashingPairs s m args below meth c H locs cells slots Q (F0 m pc ls [.int r])) : ∀ (n : Nat) (x1 : Int32) (x2 : Int32), ∀ {σ : Sg} {H : Heap} {locs : List Loc} {ls : Array Slot}, s_St G σ H0 H locs → lv_has ls 3 [(0, .ref (G.2.2 + k0)), (1, .int x1), (2, .int x2)] → BX1_countClashingPairs_4 k0 post n x1 x2 σ → W p l e rm_X1_countClashingPairs s m args below meth c H locs cells slots Q (F0 m 4 ls []) := by
  intro n
  induction n with
  | zero =>
    intro x1 x2  σ H locs ls S hl h
    exact absurd h (fun h => h)
  | succ n ih0 =>
    have ih : ∀ (x1 : Int32) (x2 : Int32), ∀ (σ : Sg) (H : Heap) (locs : List Loc) (ls : Array Slot), s_St G σ H0 H locs → lv_has ls 3 [(0, .ref (G.2.2 + k0)), (1, .int x1), (2, .int x2)] → BX1_countClashingPairs_4 k0 post n x1 x2 σ → W p l e rm_X1_countClashingPairs s m args below meth c H locs cells slots Q (F0 m 4 ls []) := fun x1 x2  _ _ _ _ => ih0 x1 x2 
    intro x1 x2  σ H locs ls S hl h
    refine lv_iload_n C.1 C.2.1 dX1_countClashingPairs_4 rfl (lv_at hl 2 rfl) ?_
    refine lv_aload_n C.1 C.2.1 dX1_countClashingPairs_5 rfl (lv_at hl 0 rfl) ?_
    refine g_X1_2 C fl_X1_22 hk0 S dX1_countClashingPairs_6 ?_
    refine lv_icmp_ge (tgt := 29) C.1 C.2.1 dX1_countClashingPairs_9 (by decide) (fun c1 => ?_) (fun c1 => ?_)
    · replace h := h.1 c1
      refine lv_iload_n C.1 C.2.1 dX1_countClashingPairs_29 rfl (lv_at hl 1 rfl) ?_
      refine lv_iconst (v := (2 : Int32)) C.1 C.2.1 dX1_countClashingPairs_30 (by decide) ?_
      refine lv_idiv C.1 C.2.1 dX1_countClashingPairs_31 (by decide) ?_
      exact hR _ _ _ _ _ _ dX1_countClashingPairs_32 h S
    · replace h := h.2 c1
      refine lv_iload_n C.1 C.2.1 dX1_countClashingPairs_12 rfl (lv_at hl 1 rfl) ?_
      refine lv_aload_n C.1 C.2.1 dX1_countClashingPairs_13 rfl (lv_at hl 0 rfl) ?_
      refine lv_iload_n C.1 C.2.1 dX1_countClashingPairs_14 rfl (lv_at hl 2 rfl) ?_
      refine k_i (r_V (As := [.int x2]) (rest := [.int x1]) C hml (c_X1_clashesOf l G k0 x2 σ _ hk0 h) kM_X1_clashesOf im_X1_clashesOf se_X1_clashesOf ml_X1_81 ⟨rfl, rfl⟩ ⟨Nat.le_of_ble_eq_true rfl, Nat.le_of_ble_eq_true rfl⟩ hcs S hk0 (by decide) (T := TX1) (N := 4) rfl rfl hl.1 rfl (Nat.le_of_ble_eq_true rfl) dX1_countClashingPairs_15) S (fun r3 σ2 H locs h S => ?_)
      refine k_i (r_S (As := [.int r3]) (rest := [.int x1]) C hml (c_J6_bitCount_0f7a4 l G r3 σ2 _ h) kM_J6_bitCount_0f7a4 st_J6_bitCount_0f7a4 ml_X1_71 ⟨rfl, rfl⟩ ⟨Nat.le_of_ble_eq_true rfl, Nat.le_of_ble_eq_true rfl⟩ hcs S rfl hl.1 rfl (Nat.le_of_ble_eq_true rfl) dX1_countClashingPairs_18) S (fun r5 σ4 H locs h S => ?_)
      refine lv_iadd C.1 C.2.1 dX1_countClashingPairs_21 ?_
      refine lv_istore_n (lv' := [(1, .int (x1 + r5)), (0, .ref (G.2.2 + k0)), (2, .int x2)]) C.1 C.2.1 dX1_countClashingPairs_22 rfl hl (by decide) rfl (fun ls hl => ?_)
      refine lv_iinc (v := (x2 + 1)) (lv' := [(2, .int (x2 + 1)), (1, .int (x1 + r5)), (0, .ref (G.2.2 + k0))]) C.1 C.2.1 dX1_countClashingPairs_23 hl (k := 2) rfl rfl (by decide) rfl (fun ls hl => ?_)
      refine lv_goto (tgt := 4) C.1 C.2.1 dX1_countClashingPairs_26 (by decide) ?_
      exact ih ((x1 + r5)) ((x2 + 1)) _ _ _ _ S (lv_sub hl [2, 1, 0] rfl) h
theorem kM_X1_countClashingPairs : s_M yX1_countClashingPairs cX1_countClashingPairs 3 (some .int) 0 := ⟨co_X1_countClashingPairs, in_X1, by decide, by decide, by decide +kernel⟩
set_option maxHeartbeats 4000000 in
set_option maxRecDepth 100000 in
theorem c_X1_countClashingPairs (l : Launch) (G : s_G) (k0 : Nat) (σ : Sg) (post : Int32 → Sg → Prop) (hk0 : s_kd k0 = 1) (h : wpX1_countClashingPairs k0 σ post) : Met l yX1_countClashingPairs (wsU yX1_countClashingPairs cX1_countClashingPairs 3 (some .int)) rm_X1_countClashingPairs (va_Pc [.ref (G.2.2 + k0)] (s_Pre G σ)) (va_Qi post (s_B G) (s_A G.2.2)) 0 0 (s_A G.2.2) := by
  refine Met.ofW (cc := cX1_countClashingPairs) (maxL := 3) (ret := (some .int)) (by decide) rfl ?_
  intro p e s m args below meth c s₁ B hml hv
  obtain ⟨rfl, hP, hrok, hK, hN⟩ := hv
  have C : s_C G p s (([.ref (G.2.2 + k0)] : List Value).toArray) m c RX1 cX1_countClashingPairs := ⟨B.exec, B.bytes, findClass_of_methodNamed B.named, fun w hw => atoms_spec (ws := wsU yX1_countClashingPairs cX1_countClashingPairs 3 (some .int)) B.pre w (List.mem_cons_of_mem _ hw), hK, hN⟩
  have hr := B.returns
  have hlocks := B.notSynchronized
  have S : s_St G σ s.heap s.heap [] := ⟨hP, va_S.rf, hrok⟩
  have hcs : 0 ≤ (rm_X1_countClashingPairs).cells ∧ 0 ≤ (rm_X1_countClashingPairs).slots := ⟨Nat.le_refl 0, Nat.le_refl 0⟩
  have hR : ∀ (r : Int32) (σ1 : Sg) (H : Heap) (locs : List Loc) (pc : Nat) (ls : Array Slot), decode cX1_countClashingPairs pc = .ok (.ireturn, 1) → post r σ1 → s_St G σ1 s.heap H locs → W p l e rm_X1_countClashingPairs s m ([.ref (G.2.2 + k0)] : List Value).toArray below meth c H locs 0 0 (MQ below (va_Qi post (s_B G) (s_A G.2.2)) ([.ref (G.2.2 + k0)] : List Value).toArray s 0 0 (s_A G.2.2)) (F0 m pc ls [.int r]) := fun _ _ _ _ _ _ hd hp S => ret_i C hr hlocks hd hp S
  have hl := lv_entry ([.ref (G.2.2 + k0)]) (n := 3) (Nat.le_of_ble_eq_true rfl)
  rw [lg_entry_eq]
  generalize (lg_sl ([.ref (G.2.2 + k0)]) ++ List.replicate (3 - (lg_sl ([.ref (G.2.2 + k0)])).length) Slot.unset).toArray = ls at hl ⊢
  have hl : lv_has ls 3 [(0, .ref (G.2.2 + k0))] := hl
  unfold wpX1_countClashingPairs at h
  refine lv_iconst (v := (0 : Int32)) C.1 C.2.1 dX1_countClashingPairs_0 (by decide) ?_
  refine lv_istore_n (lv' := [(1, .int (0 : Int32)), (0, .ref (G.2.2 + k0))]) C.1 C.2.1 dX1_countClashingPairs_1 rfl hl (by decide) rfl (fun ls hl => ?_)
  refine lv_iconst (v := (0 : Int32)) C.1 C.2.1 dX1_countClashingPairs_2 (by decide) ?_
  refine lv_istore_n (lv' := [(2, .int (0 : Int32)), (1, .int (0 : Int32)), (0, .ref (G.2.2 + k0))]) C.1 C.2.1 dX1_countClashingPairs_3 rfl hl (by decide) rfl (fun ls hl => ?_)
  obtain ⟨nf, h⟩ := h
  exact TX1_countClashingPairs_4 C hml hcs hk0 hR nf ((0 : Int32)) ((0 : Int32)) S (lv_sub hl [2, 1, 0] rfl) h
/-! X1_countRules -/
abbrev rm_X1_countRules : Room := { frames := 1, cells := 0, slots := 0, locals := 21 }
def BX1_countRules_4 (k0 : Nat) (post : Int32 → Sg → Prop) : Nat → Int32 → Int32 → Sg → Prop
  | 0, _, _, _ => False
  | n + 1, x1, x2, σ => ((((σ.1 k0 2) ≤ x2) → post x1 σ) ∧ ((¬ (σ.1 k0 2) ≤ x2) → wpX1_at k0 x2 σ (fun q3 σ2 => s_kd q3 = 3 → wpJ6_bitCount_0f7a4 ((σ2.1 q3 5)) σ2 (fun r5 σ4 => BX1_countRules_4 k0 post n ((x1 + r5)) ((x2 + 1)) σ4))))
def wpX1_countRules (k0 : Nat) (σ : Sg) (post : Int32 → Sg → Prop) : Prop := ∃ nf, BX1_countRules_4 k0 post nf ((0 : Int32)) ((0 : Int32)) σ
set_option maxHeartbeats 4000000 in
set_option maxRecDepth 100000 in
theorem TX1_countRules_4 (C : s_C G p s args m c RX1 cX1_countRules) (hml : c.maxLocals = 3) (hcs : cells ≤ (rm_X1_countRules).cells ∧ slots ≤ (rm_X1_countRules).slots) {k0 : Nat} (hk0 : s_kd k0 = 1) {post : Int32 → Sg → Prop} (hR : ∀ (r : Int32) (σ1 : Sg) (H : Heap) (locs : List Loc) (pc : Nat) (ls : Array Slot), decode cX1_countRules pc = .ok (.ireturn, 1) → post r σ1 → s_St G σ1 H0 H locs → W p l e rm_X1_countRules s m args below meth c H locs cells slots Q (F0 m pc ls [.int r])) : ∀ (n : Nat) (x1 : Int32) (x2 : Int32), ∀ {σ : Sg} {H : Heap} {locs : List Loc} {ls : Array Slot}, s_St G σ H0 H locs → lv_has ls 3 [(0, .ref (G.2.2 + k0)), (1, .int x1), (2, .int x2)] → BX1_countRules_4 k0 post n x1 x2 σ → W p l e rm_X1_countRules s m args below meth c H locs cells slots Q (F0 m 4 ls []) := by
  intro n
  induction n with
  | zero =>
    intro x1 x2  σ H locs ls S hl h
    exact absurd h (fun h => h)
  | succ n ih0 =>
    have ih : ∀ (x1 : Int32) (x2 : Int32), ∀ (σ : Sg) (H : Heap) (locs : List Loc) (ls : Array Slot), s_St G σ H0 H locs → lv_has ls 3 [(0, .ref (G.2.2 + k0)), (1, .int x1), (2, .int x2)] → BX1_countRules_4 k0 post n x1 x2 σ → W p l e rm_X1_countRules s m args below meth c H locs cells slots Q (F0 m 4 ls []) := fun x1 x2  _ _ _ _ => ih0 x1 x2 
    intro x1 x2  σ H locs ls S hl h
    refine lv_iload_n C.1 C.2.1 dX1_countRules_4 rfl (lv_at hl 2 rfl) ?_
    refine lv_aload_n C.1 C.2.1 dX1_countRules_5 rfl (lv_at hl 0 rfl) ?_
    refine g_X1_2 C fl_X1_22 hk0 S dX1_countRules_6 ?_
    refine lv_icmp_ge (tgt := 32) C.1 C.2.1 dX1_countRules_9 (by decide) (fun c1 => ?_) (fun c1 => ?_)
    · replace h := h.1 c1
      refine lv_iload_n C.1 C.2.1 dX1_countRules_32 rfl (lv_at hl 1 rfl) ?_
      exact hR _ _ _ _ _ _ dX1_countRules_33 h S
    · replace h := h.2 c1
      refine lv_iload_n C.1 C.2.1 dX1_countRules_12 rfl (lv_at hl 1 rfl) ?_
      refine lv_aload_n C.1 C.2.1 dX1_countRules_13 rfl (lv_at hl 0 rfl) ?_
      refine lv_iload_n C.1 C.2.1 dX1_countRules_14 rfl (lv_at hl 2 rfl) ?_
      refine k_r (kd := 3) (r_V (As := [.int x2]) (rest := [.int x1]) C hml (c_X1_at l G k0 x2 σ _ hk0 h) kM_X1_at im_X1_at se_X1_at ml_X1_29 ⟨rfl, rfl⟩ ⟨Nat.le_of_ble_eq_true rfl, Nat.le_of_ble_eq_true rfl⟩ hcs S hk0 (by decide) (T := TX1) (N := 4) rfl rfl hl.1 rfl (Nat.le_of_ble_eq_true rfl) dX1_countRules_15) S (fun q3 σ2 H locs hq3 h S => ?_)
      replace h := h hq3
      refine gn_X3_5 C nf_X1_52 hq3 S dX1_countRules_18 ?_
      refine k_i (r_S (As := [.int (σ2.1 q3 5)]) (rest := [.int x1]) C hml (c_J6_bitCount_0f7a4 l G ((σ2.1 q3 5)) σ2 _ h) kM_J6_bitCount_0f7a4 st_J6_bitCount_0f7a4 ml_X1_71 ⟨rfl, rfl⟩ ⟨Nat.le_of_ble_eq_true rfl, Nat.le_of_ble_eq_true rfl⟩ hcs S rfl hl.1 rfl (Nat.le_of_ble_eq_true rfl) dX1_countRules_21) S (fun r5 σ4 H locs h S => ?_)
      refine lv_iadd C.1 C.2.1 dX1_countRules_24 ?_
      refine lv_istore_n (lv' := [(1, .int (x1 + r5)), (0, .ref (G.2.2 + k0)), (2, .int x2)]) C.1 C.2.1 dX1_countRules_25 rfl hl (by decide) rfl (fun ls hl => ?_)
      refine lv_iinc (v := (x2 + 1)) (lv' := [(2, .int (x2 + 1)), (1, .int (x1 + r5)), (0, .ref (G.2.2 + k0))]) C.1 C.2.1 dX1_countRules_26 hl (k := 2) rfl rfl (by decide) rfl (fun ls hl => ?_)
      refine lv_goto (tgt := 4) C.1 C.2.1 dX1_countRules_29 (by decide) ?_
      exact ih ((x1 + r5)) ((x2 + 1)) _ _ _ _ S (lv_sub hl [2, 1, 0] rfl) h
theorem kM_X1_countRules : s_M yX1_countRules cX1_countRules 3 (some .int) 0 := ⟨co_X1_countRules, in_X1, by decide, by decide, by decide +kernel⟩
set_option maxHeartbeats 4000000 in
set_option maxRecDepth 100000 in
theorem c_X1_countRules (l : Launch) (G : s_G) (k0 : Nat) (σ : Sg) (post : Int32 → Sg → Prop) (hk0 : s_kd k0 = 1) (h : wpX1_countRules k0 σ post) : Met l yX1_countRules (wsU yX1_countRules cX1_countRules 3 (some .int)) rm_X1_countRules (va_Pc [.ref (G.2.2 + k0)] (s_Pre G σ)) (va_Qi post (s_B G) (s_A G.2.2)) 0 0 (s_A G.2.2) := by
  refine Met.ofW (cc := cX1_countRules) (maxL := 3) (ret := (some .int)) (by decide) rfl ?_
  intro p e s m args below meth c s₁ B hml hv
  obtain ⟨rfl, hP, hrok, hK, hN⟩ := hv
  have C : s_C G p s (([.ref (G.2.2 + k0)] : List Value).toArray) m c RX1 cX1_countRules := ⟨B.exec, B.bytes, findClass_of_methodNamed B.named, fun w hw => atoms_spec (ws := wsU yX1_countRules cX1_countRules 3 (some .int)) B.pre w (List.mem_cons_of_mem _ hw), hK, hN⟩
  have hr := B.returns
  have hlocks := B.notSynchronized
  have S : s_St G σ s.heap s.heap [] := ⟨hP, va_S.rf, hrok⟩
  have hcs : 0 ≤ (rm_X1_countRules).cells ∧ 0 ≤ (rm_X1_countRules).slots := ⟨Nat.le_refl 0, Nat.le_refl 0⟩
  have hR : ∀ (r : Int32) (σ1 : Sg) (H : Heap) (locs : List Loc) (pc : Nat) (ls : Array Slot), decode cX1_countRules pc = .ok (.ireturn, 1) → post r σ1 → s_St G σ1 s.heap H locs → W p l e rm_X1_countRules s m ([.ref (G.2.2 + k0)] : List Value).toArray below meth c H locs 0 0 (MQ below (va_Qi post (s_B G) (s_A G.2.2)) ([.ref (G.2.2 + k0)] : List Value).toArray s 0 0 (s_A G.2.2)) (F0 m pc ls [.int r]) := fun _ _ _ _ _ _ hd hp S => ret_i C hr hlocks hd hp S
  have hl := lv_entry ([.ref (G.2.2 + k0)]) (n := 3) (Nat.le_of_ble_eq_true rfl)
  rw [lg_entry_eq]
  generalize (lg_sl ([.ref (G.2.2 + k0)]) ++ List.replicate (3 - (lg_sl ([.ref (G.2.2 + k0)])).length) Slot.unset).toArray = ls at hl ⊢
  have hl : lv_has ls 3 [(0, .ref (G.2.2 + k0))] := hl
  unfold wpX1_countRules at h
  refine lv_iconst (v := (0 : Int32)) C.1 C.2.1 dX1_countRules_0 (by decide) ?_
  refine lv_istore_n (lv' := [(1, .int (0 : Int32)), (0, .ref (G.2.2 + k0))]) C.1 C.2.1 dX1_countRules_1 rfl hl (by decide) rfl (fun ls hl => ?_)
  refine lv_iconst (v := (0 : Int32)) C.1 C.2.1 dX1_countRules_2 (by decide) ?_
  refine lv_istore_n (lv' := [(2, .int (0 : Int32)), (1, .int (0 : Int32)), (0, .ref (G.2.2 + k0))]) C.1 C.2.1 dX1_countRules_3 rfl hl (by decide) rfl (fun ls hl => ?_)
  obtain ⟨nf, h⟩ := h
  exact TX1_countRules_4 C hml hcs hk0 hR nf ((0 : Int32)) ((0 : Int32)) S (lv_sub hl [2, 1, 0] rfl) h
/-! X6_timesIn -/
abbrev rm_X6_timesIn : Room := { frames := 0, cells := 0, slots := 0, locals := 0 }
def wpX6_timesIn (x0 : Int32) (x1 : Int32) (σ : Sg) (post : Int32 → Sg → Prop) : Prop := post (((x0 >>> (((2 : Int32) * x1) &&& 31)) &&& (3 : Int32))) σ
theorem kM_X6_timesIn : s_M yX6_timesIn cX6_timesIn 2 (some .int) 2 := ⟨co_X6_timesIn, in_X6, by decide, by decide, by decide +kernel⟩
set_option maxHeartbeats 4000000 in
set_option maxRecDepth 100000 in
theorem c_X6_timesIn (l : Launch) (G : s_G) (x0 : Int32) (x1 : Int32) (σ : Sg) (post : Int32 → Sg → Prop) (h : wpX6_timesIn x0 x1 σ post) : Met l yX6_timesIn (wsU yX6_timesIn cX6_timesIn 2 (some .int)) rm_X6_timesIn (va_Pc [.int x0, .int x1] (s_Pre G σ)) (va_Qi post (s_B G) (s_A G.2.2)) 0 0 (s_A G.2.2) := by
  refine Met.ofW (cc := cX6_timesIn) (maxL := 2) (ret := (some .int)) (by decide) rfl ?_
  intro p e s m args below meth c s₁ B hml hv
  obtain ⟨rfl, hP, hrok, hK, hN⟩ := hv
  have C : s_C G p s (([.int x0, .int x1] : List Value).toArray) m c RX6 cX6_timesIn := ⟨B.exec, B.bytes, findClass_of_methodNamed B.named, fun w hw => atoms_spec (ws := wsU yX6_timesIn cX6_timesIn 2 (some .int)) B.pre w (List.mem_cons_of_mem _ hw), hK, hN⟩
  have hr := B.returns
  have hlocks := B.notSynchronized
  have S : s_St G σ s.heap s.heap [] := ⟨hP, va_S.rf, hrok⟩
  have hcs : 0 ≤ (rm_X6_timesIn).cells ∧ 0 ≤ (rm_X6_timesIn).slots := ⟨Nat.le_refl 0, Nat.le_refl 0⟩
  have hR : ∀ (r : Int32) (σ1 : Sg) (H : Heap) (locs : List Loc) (pc : Nat) (ls : Array Slot), decode cX6_timesIn pc = .ok (.ireturn, 1) → post r σ1 → s_St G σ1 s.heap H locs → W p l e rm_X6_timesIn s m ([.int x0, .int x1] : List Value).toArray below meth c H locs 0 0 (MQ below (va_Qi post (s_B G) (s_A G.2.2)) ([.int x0, .int x1] : List Value).toArray s 0 0 (s_A G.2.2)) (F0 m pc ls [.int r]) := fun _ _ _ _ _ _ hd hp S => ret_i C hr hlocks hd hp S
  have hl := lv_entry ([.int x0, .int x1]) (n := 2) (Nat.le_of_ble_eq_true rfl)
  rw [lg_entry_eq]
  generalize (lg_sl ([.int x0, .int x1]) ++ List.replicate (2 - (lg_sl ([.int x0, .int x1])).length) Slot.unset).toArray = ls at hl ⊢
  have hl : lv_has ls 2 [(0, .int x0), (1, .int x1)] := hl
  unfold wpX6_timesIn at h
  refine lv_iload_n C.1 C.2.1 dX6_timesIn_0 rfl (lv_at hl 0 rfl) ?_
  refine lv_iconst (v := (2 : Int32)) C.1 C.2.1 dX6_timesIn_1 (by decide) ?_
  refine lv_iload_n C.1 C.2.1 dX6_timesIn_2 rfl (lv_at hl 1 rfl) ?_
  refine lv_imul C.1 C.2.1 dX6_timesIn_3 ?_
  refine lv_ishr C.1 C.2.1 dX6_timesIn_4 ?_
  refine lv_iconst (v := (3 : Int32)) C.1 C.2.1 dX6_timesIn_5 (by decide) ?_
  refine lv_iand C.1 C.2.1 dX6_timesIn_6 ?_
  exact hR _ _ _ _ _ _ dX6_timesIn_7 h S
/-! X1_presentIn -/
abbrev rm_X1_presentIn : Room := { frames := 1, cells := 0, slots := 0, locals := 21 }
def BX1_presentIn_4 (k0 : Nat) (x1 : Int32) (post : Int32 → Sg → Prop) : Nat → Int32 → Int32 → Sg → Prop
  | 0, _, _, _ => False
  | n + 1, x2, x3, σ => ((((σ.1 k0 2) ≤ x3) → post x2 σ) ∧ ((¬ (σ.1 k0 2) ≤ x3) → wpX6_timesIn x1 x3 σ (fun r3 σ2 => (((r3 ≤ 0) → BX1_presentIn_4 k0 x1 post n x2 ((x3 + 1)) σ2) ∧ ((¬ r3 ≤ 0) → BX1_presentIn_4 k0 x1 post n ((x2 ||| ((1 : Int32) <<< (x3 &&& 31)))) ((x3 + 1)) σ2)))))
def wpX1_presentIn (k0 : Nat) (x1 : Int32) (σ : Sg) (post : Int32 → Sg → Prop) : Prop := ∃ nf, BX1_presentIn_4 k0 x1 post nf ((0 : Int32)) ((0 : Int32)) σ
set_option maxHeartbeats 4000000 in
set_option maxRecDepth 100000 in
theorem TX1_presentIn_4 (C : s_C G p s args m c RX1 cX1_presentIn) (hml : c.maxLocals = 4) (hcs : cells ≤ (rm_X1_presentIn).cells ∧ slots ≤ (rm_X1_presentIn).slots) {k0 : Nat} {x1 : Int32} (hk0 : s_kd k0 = 1) {post : Int32 → Sg → Prop} (hR : ∀ (r : Int32) (σ1 : Sg) (H : Heap) (locs : List Loc) (pc : Nat) (ls : Array Slot), decode cX1_presentIn pc = .ok (.ireturn, 1) → post r σ1 → s_St G σ1 H0 H locs → W p l e rm_X1_presentIn s m args below meth c H locs cells slots Q (F0 m pc ls [.int r])) : ∀ (n : Nat) (x2 : Int32) (x3 : Int32), ∀ {σ : Sg} {H : Heap} {locs : List Loc} {ls : Array Slot}, s_St G σ H0 H locs → lv_has ls 4 [(0, .ref (G.2.2 + k0)), (1, .int x1), (2, .int x2), (3, .int x3)] → BX1_presentIn_4 k0 x1 post n x2 x3 σ → W p l e rm_X1_presentIn s m args below meth c H locs cells slots Q (F0 m 4 ls []) := by
  intro n
  induction n with
  | zero =>
    intro x2 x3  σ H locs ls S hl h
    exact absurd h (fun h => h)
  | succ n ih0 =>
    have ih : ∀ (x2 : Int32) (x3 : Int32), ∀ (σ : Sg) (H : Heap) (locs : List Loc) (ls : Array Slot), s_St G σ H0 H locs → lv_has ls 4 [(0, .ref (G.2.2 + k0)), (1, .int x1), (2, .int x2), (3, .int x3)] → BX1_presentIn_4 k0 x1 post n x2 x3 σ → W p l e rm_X1_presentIn s m args below meth c H locs cells slots Q (F0 m 4 ls []) := fun x2 x3  _ _ _ _ => ih0 x2 x3 
    intro x2 x3  σ H locs ls S hl h
    refine lv_iload_n C.1 C.2.1 dX1_presentIn_4 rfl (lv_at hl 3 rfl) ?_
    refine lv_aload_n C.1 C.2.1 dX1_presentIn_5 rfl (lv_at hl 0 rfl) ?_
    refine g_X1_2 C fl_X1_22 hk0 S dX1_presentIn_6 ?_
    refine lv_icmp_ge (tgt := 32) C.1 C.2.1 dX1_presentIn_9 (by decide) (fun c1 => ?_) (fun c1 => ?_)
    · replace h := h.1 c1
      refine lv_iload_n C.1 C.2.1 dX1_presentIn_32 rfl (lv_at hl 2 rfl) ?_
      exact hR _ _ _ _ _ _ dX1_presentIn_33 h S
    · replace h := h.2 c1
      refine lv_iload_n C.1 C.2.1 dX1_presentIn_12 rfl (lv_at hl 1 rfl) ?_
      refine lv_iload_n C.1 C.2.1 dX1_presentIn_13 rfl (lv_at hl 3 rfl) ?_
      refine k_i (r_SN (As := [.int x1, .int x3]) (rest := []) C hml (c_X6_timesIn l G x1 x3 σ _ h) kM_X6_timesIn st_X6_timesIn nm_X1_84 ⟨rfl, rfl⟩ ⟨Nat.le_of_ble_eq_true rfl, Nat.le_of_ble_eq_true rfl⟩ hcs S rfl hl.1 rfl (Nat.le_of_ble_eq_true rfl) dX1_presentIn_14) S (fun r3 σ2 H locs h S => ?_)
      refine lv_if_le (tgt := 26) C.1 C.2.1 dX1_presentIn_17 (by decide) (fun c4 => ?_) (fun c4 => ?_)
      · replace h := h.1 c4
        refine lv_iinc (v := (x3 + 1)) (lv' := [(3, .int (x3 + 1)), (0, .ref (G.2.2 + k0)), (1, .int x1), (2, .int x2)]) C.1 C.2.1 dX1_presentIn_26 hl (k := 3) rfl rfl (by decide) rfl (fun ls hl => ?_)
        refine lv_goto (tgt := 4) C.1 C.2.1 dX1_presentIn_29 (by decide) ?_
        exact ih x2 ((x3 + 1)) _ _ _ _ S (lv_sub hl [1, 2, 3, 0] rfl) h
      · replace h := h.2 c4
        refine lv_iload_n C.1 C.2.1 dX1_presentIn_20 rfl (lv_at hl 2 rfl) ?_
        refine lv_iconst (v := (1 : Int32)) C.1 C.2.1 dX1_presentIn_21 (by decide) ?_
        refine lv_iload_n C.1 C.2.1 dX1_presentIn_22 rfl (lv_at hl 3 rfl) ?_
        refine lv_ishl C.1 C.2.1 dX1_presentIn_23 ?_
        refine lv_ior C.1 C.2.1 dX1_presentIn_24 ?_
        refine lv_istore_n (lv' := [(2, .int (x2 ||| ((1 : Int32) <<< (x3 &&& 31)))), (0, .ref (G.2.2 + k0)), (1, .int x1), (3, .int x3)]) C.1 C.2.1 dX1_presentIn_25 rfl hl (by decide) rfl (fun ls hl => ?_)
        refine lv_iinc (v := (x3 + 1)) (lv' := [(3, .int (x3 + 1)), (2, .int (x2 ||| ((1 : Int32) <<< (x3 &&& 31)))), (0, .ref (G.2.2 + k0)), (1, .int x1)]) C.1 C.2.1 dX1_presentIn_26 hl (k := 3) rfl rfl (by decide) rfl (fun ls hl => ?_)
        refine lv_goto (tgt := 4) C.1 C.2.1 dX1_presentIn_29 (by decide) ?_
        exact ih ((x2 ||| ((1 : Int32) <<< (x3 &&& 31)))) ((x3 + 1)) _ _ _ _ S (lv_sub hl [2, 3, 1, 0] rfl) h
theorem kM_X1_presentIn : s_M yX1_presentIn cX1_presentIn 4 (some .int) 1 := ⟨co_X1_presentIn, in_X1, by decide, by decide, by decide +kernel⟩
set_option maxHeartbeats 4000000 in
set_option maxRecDepth 100000 in
theorem c_X1_presentIn (l : Launch) (G : s_G) (k0 : Nat) (x1 : Int32) (σ : Sg) (post : Int32 → Sg → Prop) (hk0 : s_kd k0 = 1) (h : wpX1_presentIn k0 x1 σ post) : Met l yX1_presentIn (wsU yX1_presentIn cX1_presentIn 4 (some .int)) rm_X1_presentIn (va_Pc [.ref (G.2.2 + k0), .int x1] (s_Pre G σ)) (va_Qi post (s_B G) (s_A G.2.2)) 0 0 (s_A G.2.2) := by
  refine Met.ofW (cc := cX1_presentIn) (maxL := 4) (ret := (some .int)) (by decide) rfl ?_
  intro p e s m args below meth c s₁ B hml hv
  obtain ⟨rfl, hP, hrok, hK, hN⟩ := hv
  have C : s_C G p s (([.ref (G.2.2 + k0), .int x1] : List Value).toArray) m c RX1 cX1_presentIn := ⟨B.exec, B.bytes, findClass_of_methodNamed B.named, fun w hw => atoms_spec (ws := wsU yX1_presentIn cX1_presentIn 4 (some .int)) B.pre w (List.mem_cons_of_mem _ hw), hK, hN⟩
  have hr := B.returns
  have hlocks := B.notSynchronized
  have S : s_St G σ s.heap s.heap [] := ⟨hP, va_S.rf, hrok⟩
  have hcs : 0 ≤ (rm_X1_presentIn).cells ∧ 0 ≤ (rm_X1_presentIn).slots := ⟨Nat.le_refl 0, Nat.le_refl 0⟩
  have hR : ∀ (r : Int32) (σ1 : Sg) (H : Heap) (locs : List Loc) (pc : Nat) (ls : Array Slot), decode cX1_presentIn pc = .ok (.ireturn, 1) → post r σ1 → s_St G σ1 s.heap H locs → W p l e rm_X1_presentIn s m ([.ref (G.2.2 + k0), .int x1] : List Value).toArray below meth c H locs 0 0 (MQ below (va_Qi post (s_B G) (s_A G.2.2)) ([.ref (G.2.2 + k0), .int x1] : List Value).toArray s 0 0 (s_A G.2.2)) (F0 m pc ls [.int r]) := fun _ _ _ _ _ _ hd hp S => ret_i C hr hlocks hd hp S
  have hl := lv_entry ([.ref (G.2.2 + k0), .int x1]) (n := 4) (Nat.le_of_ble_eq_true rfl)
  rw [lg_entry_eq]
  generalize (lg_sl ([.ref (G.2.2 + k0), .int x1]) ++ List.replicate (4 - (lg_sl ([.ref (G.2.2 + k0), .int x1])).length) Slot.unset).toArray = ls at hl ⊢
  have hl : lv_has ls 4 [(0, .ref (G.2.2 + k0)), (1, .int x1)] := hl
  unfold wpX1_presentIn at h
  refine lv_iconst (v := (0 : Int32)) C.1 C.2.1 dX1_presentIn_0 (by decide) ?_
  refine lv_istore_n (lv' := [(2, .int (0 : Int32)), (0, .ref (G.2.2 + k0)), (1, .int x1)]) C.1 C.2.1 dX1_presentIn_1 rfl hl (by decide) rfl (fun ls hl => ?_)
  refine lv_iconst (v := (0 : Int32)) C.1 C.2.1 dX1_presentIn_2 (by decide) ?_
  refine lv_istore_n (lv' := [(3, .int (0 : Int32)), (2, .int (0 : Int32)), (0, .ref (G.2.2 + k0)), (1, .int x1)]) C.1 C.2.1 dX1_presentIn_3 rfl hl (by decide) rfl (fun ls hl => ?_)
  obtain ⟨nf, h⟩ := h
  exact TX1_presentIn_4 C hml hcs hk0 hR nf ((0 : Int32)) ((0 : Int32)) S (lv_sub hl [2, 3, 1, 0] rfl) h
/-! X1_followers -/
abbrev rm_X1_followers : Room := { frames := 2, cells := 0, slots := 0, locals := 44 }
def BX1_followers_11 (k0 : Nat) (x1 : Int32) (post : Int32 → Sg → Prop) : Nat → Int32 → Int32 → Int32 → Sg → Prop
  | 0, _, _, _, _ => False
  | n + 1, x2, x3, x4, σ => ((((σ.1 k0 2) ≤ x4) → post x3 σ) ∧ ((¬ (σ.1 k0 2) ≤ x4) → wpX6_timesIn x1 x4 σ (fun r3 σ2 => wpX1_at k0 x4 σ2 (fun q5 σ4 => s_kd q5 = 3 → ((((σ4.1 q5 3) ≤ r3) → BX1_followers_11 k0 x1 post n x2 x3 ((x4 + 1)) σ4) ∧ ((¬ (σ4.1 q5 3) ≤ r3) → wpX1_at k0 x4 σ4 (fun q8 σ7 => s_kd q8 = 3 → (((¬ ((σ7.1 q8 5) &&& x2) = 0) → BX1_followers_11 k0 x1 post n x2 x3 ((x4 + 1)) σ7) ∧ ((((σ7.1 q8 5) &&& x2) = 0) → BX1_followers_11 k0 x1 post n x2 ((x3 ||| ((1 : Int32) <<< (x4 &&& 31)))) ((x4 + 1)) σ7)))))))))
def wpX1_followers (k0 : Nat) (x1 : Int32) (σ : Sg) (post : Int32 → Sg → Prop) : Prop := wpX1_presentIn k0 x1 σ (fun r11 σ10 => ∃ nf, BX1_followers_11 k0 x1 post nf r11 ((0 : Int32)) ((0 : Int32)) σ10)
set_option maxHeartbeats 4000000 in
set_option maxRecDepth 100000 in
theorem TX1_followers_11 (C : s_C G p s args m c RX1 cX1_followers) (hml : c.maxLocals = 5) (hcs : cells ≤ (rm_X1_followers).cells ∧ slots ≤ (rm_X1_followers).slots) {k0 : Nat} {x1 : Int32} (hk0 : s_kd k0 = 1) {post : Int32 → Sg → Prop} (hR : ∀ (r : Int32) (σ1 : Sg) (H : Heap) (locs : List Loc) (pc : Nat) (ls : Array Slot), decode cX1_followers pc = .ok (.ireturn, 1) → post r σ1 → s_St G σ1 H0 H locs → W p l e rm_X1_followers s m args below meth c H locs cells slots Q (F0 m pc ls [.int r])) : ∀ (n : Nat) (x2 : Int32) (x3 : Int32) (x4 : Int32), ∀ {σ : Sg} {H : Heap} {locs : List Loc} {ls : Array Slot}, s_St G σ H0 H locs → lv_has ls 5 [(0, .ref (G.2.2 + k0)), (1, .int x1), (2, .int x2), (3, .int x3), (4, .int x4)] → BX1_followers_11 k0 x1 post n x2 x3 x4 σ → W p l e rm_X1_followers s m args below meth c H locs cells slots Q (F0 m 11 ls []) := by
  intro n
  induction n with
  | zero =>
    intro x2 x3 x4  σ H locs ls S hl h
    exact absurd h (fun h => h)
  | succ n ih0 =>
    have ih : ∀ (x2 : Int32) (x3 : Int32) (x4 : Int32), ∀ (σ : Sg) (H : Heap) (locs : List Loc) (ls : Array Slot), s_St G σ H0 H locs → lv_has ls 5 [(0, .ref (G.2.2 + k0)), (1, .int x1), (2, .int x2), (3, .int x3), (4, .int x4)] → BX1_followers_11 k0 x1 post n x2 x3 x4 σ → W p l e rm_X1_followers s m args below meth c H locs cells slots Q (F0 m 11 ls []) := fun x2 x3 x4  _ _ _ _ => ih0 x2 x3 x4 
    intro x2 x3 x4  σ H locs ls S hl h
    refine lv_iload C.1 C.2.1 dX1_followers_11 (lv_at hl 4 rfl) ?_
    refine lv_aload_n C.1 C.2.1 dX1_followers_13 rfl (lv_at hl 0 rfl) ?_
    refine g_X1_2 C fl_X1_22 hk0 S dX1_followers_14 ?_
    refine lv_icmp_ge (tgt := 65) C.1 C.2.1 dX1_followers_17 (by decide) (fun c1 => ?_) (fun c1 => ?_)
    · replace h := h.1 c1
      refine lv_iload_n C.1 C.2.1 dX1_followers_65 rfl (lv_at hl 3 rfl) ?_
      exact hR _ _ _ _ _ _ dX1_followers_66 h S
    · replace h := h.2 c1
      refine lv_iload_n C.1 C.2.1 dX1_followers_20 rfl (lv_at hl 1 rfl) ?_
      refine lv_iload C.1 C.2.1 dX1_followers_21 (lv_at hl 4 rfl) ?_
      refine k_i (r_SN (As := [.int x1, .int x4]) (rest := []) C hml (c_X6_timesIn l G x1 x4 σ _ h) kM_X6_timesIn st_X6_timesIn nm_X1_84 ⟨rfl, rfl⟩ ⟨Nat.le_of_ble_eq_true rfl, Nat.le_of_ble_eq_true rfl⟩ hcs S rfl hl.1 rfl (Nat.le_of_ble_eq_true rfl) dX1_followers_23) S (fun r3 σ2 H locs h S => ?_)
      refine lv_aload_n C.1 C.2.1 dX1_followers_26 rfl (lv_at hl 0 rfl) ?_
      refine lv_iload C.1 C.2.1 dX1_followers_27 (lv_at hl 4 rfl) ?_
      refine k_r (kd := 3) (r_V (As := [.int x4]) (rest := [.int r3]) C hml (c_X1_at l G k0 x4 σ2 _ hk0 h) kM_X1_at im_X1_at se_X1_at ml_X1_29 ⟨rfl, rfl⟩ ⟨Nat.le_of_ble_eq_true rfl, Nat.le_of_ble_eq_true rfl⟩ hcs S hk0 (by decide) (T := TX1) (N := 4) rfl rfl hl.1 rfl (Nat.le_of_ble_eq_true rfl) dX1_followers_29) S (fun q5 σ4 H locs hq5 h S => ?_)
      replace h := h hq5
      refine gn_X3_3 C nf_X1_46 hq5 S dX1_followers_32 ?_
      refine lv_icmp_ge (tgt := 59) C.1 C.2.1 dX1_followers_35 (by decide) (fun c6 => ?_) (fun c6 => ?_)
      · replace h := h.1 c6
        refine lv_iinc (v := (x4 + 1)) (lv' := [(4, .int (x4 + 1)), (0, .ref (G.2.2 + k0)), (1, .int x1), (2, .int x2), (3, .int x3)]) C.1 C.2.1 dX1_followers_59 hl (k := 4) rfl rfl (by decide) rfl (fun ls hl => ?_)
        refine lv_goto (tgt := 11) C.1 C.2.1 dX1_followers_62 (by decide) ?_
        exact ih x2 x3 ((x4 + 1)) _ _ _ _ S (lv_sub hl [1, 2, 3, 4, 0] rfl) h
      · replace h := h.2 c6
        refine lv_aload_n C.1 C.2.1 dX1_followers_38 rfl (lv_at hl 0 rfl) ?_
        refine lv_iload C.1 C.2.1 dX1_followers_39 (lv_at hl 4 rfl) ?_
        refine k_r (kd := 3) (r_V (As := [.int x4]) (rest := []) C hml (c_X1_at l G k0 x4 σ4 _ hk0 h) kM_X1_at im_X1_at se_X1_at ml_X1_29 ⟨rfl, rfl⟩ ⟨Nat.le_of_ble_eq_true rfl, Nat.le_of_ble_eq_true rfl⟩ hcs S hk0 (by decide) (T := TX1) (N := 4) rfl rfl hl.1 rfl (Nat.le_of_ble_eq_true rfl) dX1_followers_41) S (fun q8 σ7 H locs hq8 h S => ?_)
        replace h := h hq8
        refine gn_X3_5 C nf_X1_52 hq8 S dX1_followers_44 ?_
        refine lv_iload_n C.1 C.2.1 dX1_followers_47 rfl (lv_at hl 2 rfl) ?_
        refine lv_iand C.1 C.2.1 dX1_followers_48 ?_
        refine lv_if_ne (tgt := 59) C.1 C.2.1 dX1_followers_49 (by decide) (fun c9 => ?_) (fun c9 => ?_)
        · replace h := h.1 c9
          refine lv_iinc (v := (x4 + 1)) (lv' := [(4, .int (x4 + 1)), (0, .ref (G.2.2 + k0)), (1, .int x1), (2, .int x2), (3, .int x3)]) C.1 C.2.1 dX1_followers_59 hl (k := 4) rfl rfl (by decide) rfl (fun ls hl => ?_)
          refine lv_goto (tgt := 11) C.1 C.2.1 dX1_followers_62 (by decide) ?_
          exact ih x2 x3 ((x4 + 1)) _ _ _ _ S (lv_sub hl [1, 2, 3, 4, 0] rfl) h
        · replace h := h.2 c9
          refine lv_iload_n C.1 C.2.1 dX1_followers_52 rfl (lv_at hl 3 rfl) ?_
          refine lv_iconst (v := (1 : Int32)) C.1 C.2.1 dX1_followers_53 (by decide) ?_
          refine lv_iload C.1 C.2.1 dX1_followers_54 (lv_at hl 4 rfl) ?_
          refine lv_ishl C.1 C.2.1 dX1_followers_56 ?_
          refine lv_ior C.1 C.2.1 dX1_followers_57 ?_
          refine lv_istore_n (lv' := [(3, .int (x3 ||| ((1 : Int32) <<< (x4 &&& 31)))), (0, .ref (G.2.2 + k0)), (1, .int x1), (2, .int x2), (4, .int x4)]) C.1 C.2.1 dX1_followers_58 rfl hl (by decide) rfl (fun ls hl => ?_)
          refine lv_iinc (v := (x4 + 1)) (lv' := [(4, .int (x4 + 1)), (3, .int (x3 ||| ((1 : Int32) <<< (x4 &&& 31)))), (0, .ref (G.2.2 + k0)), (1, .int x1), (2, .int x2)]) C.1 C.2.1 dX1_followers_59 hl (k := 4) rfl rfl (by decide) rfl (fun ls hl => ?_)
          refine lv_goto (tgt := 11) C.1 C.2.1 dX1_followers_62 (by decide) ?_
          exact ih x2 ((x3 ||| ((1 : Int32) <<< (x4 &&& 31)))) ((x4 + 1)) _ _ _ _ S (lv_sub hl [2, 3, 4, 1, 0] rfl) h
theorem kM_X1_followers : s_M yX1_followers cX1_followers 5 (some .int) 1 := ⟨co_X1_followers, in_X1, by decide, by decide, by decide +kernel⟩
set_option maxHeartbeats 4000000 in
set_option maxRecDepth 100000 in
theorem c_X1_followers (l : Launch) (G : s_G) (k0 : Nat) (x1 : Int32) (σ : Sg) (post : Int32 → Sg → Prop) (hk0 : s_kd k0 = 1) (h : wpX1_followers k0 x1 σ post) : Met l yX1_followers (wsU yX1_followers cX1_followers 5 (some .int)) rm_X1_followers (va_Pc [.ref (G.2.2 + k0), .int x1] (s_Pre G σ)) (va_Qi post (s_B G) (s_A G.2.2)) 0 0 (s_A G.2.2) := by
  refine Met.ofW (cc := cX1_followers) (maxL := 5) (ret := (some .int)) (by decide) rfl ?_
  intro p e s m args below meth c s₁ B hml hv
  obtain ⟨rfl, hP, hrok, hK, hN⟩ := hv
  have C : s_C G p s (([.ref (G.2.2 + k0), .int x1] : List Value).toArray) m c RX1 cX1_followers := ⟨B.exec, B.bytes, findClass_of_methodNamed B.named, fun w hw => atoms_spec (ws := wsU yX1_followers cX1_followers 5 (some .int)) B.pre w (List.mem_cons_of_mem _ hw), hK, hN⟩
  have hr := B.returns
  have hlocks := B.notSynchronized
  have S : s_St G σ s.heap s.heap [] := ⟨hP, va_S.rf, hrok⟩
  have hcs : 0 ≤ (rm_X1_followers).cells ∧ 0 ≤ (rm_X1_followers).slots := ⟨Nat.le_refl 0, Nat.le_refl 0⟩
  have hR : ∀ (r : Int32) (σ1 : Sg) (H : Heap) (locs : List Loc) (pc : Nat) (ls : Array Slot), decode cX1_followers pc = .ok (.ireturn, 1) → post r σ1 → s_St G σ1 s.heap H locs → W p l e rm_X1_followers s m ([.ref (G.2.2 + k0), .int x1] : List Value).toArray below meth c H locs 0 0 (MQ below (va_Qi post (s_B G) (s_A G.2.2)) ([.ref (G.2.2 + k0), .int x1] : List Value).toArray s 0 0 (s_A G.2.2)) (F0 m pc ls [.int r]) := fun _ _ _ _ _ _ hd hp S => ret_i C hr hlocks hd hp S
  have hl := lv_entry ([.ref (G.2.2 + k0), .int x1]) (n := 5) (Nat.le_of_ble_eq_true rfl)
  rw [lg_entry_eq]
  generalize (lg_sl ([.ref (G.2.2 + k0), .int x1]) ++ List.replicate (5 - (lg_sl ([.ref (G.2.2 + k0), .int x1])).length) Slot.unset).toArray = ls at hl ⊢
  have hl : lv_has ls 5 [(0, .ref (G.2.2 + k0)), (1, .int x1)] := hl
  unfold wpX1_followers at h
  refine lv_aload_n C.1 C.2.1 dX1_followers_0 rfl (lv_at hl 0 rfl) ?_
  refine lv_iload_n C.1 C.2.1 dX1_followers_1 rfl (lv_at hl 1 rfl) ?_
  refine k_i (r_V (As := [.int x1]) (rest := []) C hml (c_X1_presentIn l G k0 x1 σ _ hk0 h) kM_X1_presentIn im_X1_presentIn se_X1_presentIn ml_X1_87 ⟨rfl, rfl⟩ ⟨Nat.le_of_ble_eq_true rfl, Nat.le_of_ble_eq_true rfl⟩ hcs S hk0 (by decide) (T := TX1) (N := 4) rfl rfl hl.1 rfl (Nat.le_of_ble_eq_true rfl) dX1_followers_2) S (fun r11 σ10 H locs h S => ?_)
  refine lv_istore_n (lv' := [(2, .int r11), (0, .ref (G.2.2 + k0)), (1, .int x1)]) C.1 C.2.1 dX1_followers_5 rfl hl (by decide) rfl (fun ls hl => ?_)
  refine lv_iconst (v := (0 : Int32)) C.1 C.2.1 dX1_followers_6 (by decide) ?_
  refine lv_istore_n (lv' := [(3, .int (0 : Int32)), (2, .int r11), (0, .ref (G.2.2 + k0)), (1, .int x1)]) C.1 C.2.1 dX1_followers_7 rfl hl (by decide) rfl (fun ls hl => ?_)
  refine lv_iconst (v := (0 : Int32)) C.1 C.2.1 dX1_followers_8 (by decide) ?_
  refine lv_istore (lv' := [(4, .int (0 : Int32)), (3, .int (0 : Int32)), (2, .int r11), (0, .ref (G.2.2 + k0)), (1, .int x1)]) C.1 C.2.1 dX1_followers_9 hl (by decide) rfl (fun ls hl => ?_)
  obtain ⟨nf, h⟩ := h
  exact TX1_followers_11 C hml hcs hk0 hR nf r11 ((0 : Int32)) ((0 : Int32)) S (lv_sub hl [3, 4, 2, 1, 0] rfl) h
/-! X1_has -/
abbrev rm_X1_has : Room := { frames := 0, cells := 0, slots := 0, locals := 0 }
def wpX1_has (k0 : Nat) (x1 : Int32) (σ : Sg) (post : Int32 → Sg → Prop) : Prop := (((x1 < 0) → post (0 : Int32) σ) ∧ ((¬ x1 < 0) → ((((σ.1 k0 2) ≤ x1) → post (0 : Int32) σ) ∧ ((¬ (σ.1 k0 2) ≤ x1) → ((((6 : Int32) ≤ x1) → post (0 : Int32) σ) ∧ ((¬ (6 : Int32) ≤ x1) → post (1 : Int32) σ))))))
theorem kM_X1_has : s_M yX1_has cX1_has 2 (some .boolean) 1 := ⟨co_X1_has, in_X1, by decide, by decide, by decide +kernel⟩
set_option maxHeartbeats 4000000 in
set_option maxRecDepth 100000 in
theorem c_X1_has (l : Launch) (G : s_G) (k0 : Nat) (x1 : Int32) (σ : Sg) (post : Int32 → Sg → Prop) (hk0 : s_kd k0 = 1) (h : wpX1_has k0 x1 σ post) : Met l yX1_has (wsU yX1_has cX1_has 2 (some .boolean)) rm_X1_has (va_Pc [.ref (G.2.2 + k0), .int x1] (s_Pre G σ)) (va_Qi post (s_B G) (s_A G.2.2)) 0 0 (s_A G.2.2) := by
  refine Met.ofW (cc := cX1_has) (maxL := 2) (ret := (some .boolean)) (by decide) rfl ?_
  intro p e s m args below meth c s₁ B hml hv
  obtain ⟨rfl, hP, hrok, hK, hN⟩ := hv
  have C : s_C G p s (([.ref (G.2.2 + k0), .int x1] : List Value).toArray) m c RX1 cX1_has := ⟨B.exec, B.bytes, findClass_of_methodNamed B.named, fun w hw => atoms_spec (ws := wsU yX1_has cX1_has 2 (some .boolean)) B.pre w (List.mem_cons_of_mem _ hw), hK, hN⟩
  have hr := B.returns
  have hlocks := B.notSynchronized
  have S : s_St G σ s.heap s.heap [] := ⟨hP, va_S.rf, hrok⟩
  have hcs : 0 ≤ (rm_X1_has).cells ∧ 0 ≤ (rm_X1_has).slots := ⟨Nat.le_refl 0, Nat.le_refl 0⟩
  have hR : ∀ (r : Int32) (σ1 : Sg) (H : Heap) (locs : List Loc) (pc : Nat) (ls : Array Slot), decode cX1_has pc = .ok (.ireturn, 1) → narrow .boolean (.int r) = .int r → post r σ1 → s_St G σ1 s.heap H locs → W p l e rm_X1_has s m ([.ref (G.2.2 + k0), .int x1] : List Value).toArray below meth c H locs 0 0 (MQ below (va_Qi post (s_B G) (s_A G.2.2)) ([.ref (G.2.2 + k0), .int x1] : List Value).toArray s 0 0 (s_A G.2.2)) (F0 m pc ls [.int r]) := fun _ _ _ _ _ _ hd hn hp S => ret_z C hr hlocks hd hn hp S
  have hl := lv_entry ([.ref (G.2.2 + k0), .int x1]) (n := 2) (Nat.le_of_ble_eq_true rfl)
  rw [lg_entry_eq]
  generalize (lg_sl ([.ref (G.2.2 + k0), .int x1]) ++ List.replicate (2 - (lg_sl ([.ref (G.2.2 + k0), .int x1])).length) Slot.unset).toArray = ls at hl ⊢
  have hl : lv_has ls 2 [(0, .ref (G.2.2 + k0)), (1, .int x1)] := hl
  unfold wpX1_has at h
  refine lv_iload_n C.1 C.2.1 dX1_has_0 rfl (lv_at hl 1 rfl) ?_
  refine lv_if_lt (tgt := 25) C.1 C.2.1 dX1_has_1 (by decide) (fun c1 => ?_) (fun c1 => ?_)
  · replace h := h.1 c1
    refine lv_iconst (v := (0 : Int32)) C.1 C.2.1 dX1_has_25 (by decide) ?_
    exact hR _ _ _ _ _ _ dX1_has_26 rfl h S
  · replace h := h.2 c1
    refine lv_iload_n C.1 C.2.1 dX1_has_4 rfl (lv_at hl 1 rfl) ?_
    refine lv_aload_n C.1 C.2.1 dX1_has_5 rfl (lv_at hl 0 rfl) ?_
    refine g_X1_2 C fl_X1_22 hk0 S dX1_has_6 ?_
    refine lv_icmp_ge (tgt := 25) C.1 C.2.1 dX1_has_9 (by decide) (fun c2 => ?_) (fun c2 => ?_)
    · replace h := h.1 c2
      refine lv_iconst (v := (0 : Int32)) C.1 C.2.1 dX1_has_25 (by decide) ?_
      exact hR _ _ _ _ _ _ dX1_has_26 rfl h S
    · replace h := h.2 c2
      refine lv_iload_n C.1 C.2.1 dX1_has_12 rfl (lv_at hl 1 rfl) ?_
      refine lv_aload_n C.1 C.2.1 dX1_has_13 rfl (lv_at hl 0 rfl) ?_
      refine g_X1_0 C fl_X1_11 hk0 S rfl dX1_has_14 ?_
      refine a_len11 C ((kdf_X1_0 hk0)) S (v := (6 : Int32)) (by rw [(lnf_X1_0 hk0)]; rfl) dX1_has_17 ?_
      refine lv_icmp_ge (tgt := 25) C.1 C.2.1 dX1_has_18 (by decide) (fun c3 => ?_) (fun c3 => ?_)
      · replace h := h.1 c3
        refine lv_iconst (v := (0 : Int32)) C.1 C.2.1 dX1_has_25 (by decide) ?_
        exact hR _ _ _ _ _ _ dX1_has_26 rfl h S
      · replace h := h.2 c3
        refine lv_iconst (v := (1 : Int32)) C.1 C.2.1 dX1_has_21 (by decide) ?_
        refine lv_goto (tgt := 26) C.1 C.2.1 dX1_has_22 (by decide) ?_
        exact hR _ _ _ _ _ _ dX1_has_26 rfl h S
/-! X1_hasWord -/
abbrev rm_X1_hasWord : Room := { frames := 1, cells := 0, slots := 0, locals := 21 }
def BX1_hasWord_2 (k0 : Nat) (x1 : Int32) (post : Int32 → Sg → Prop) : Nat → Int32 → Sg → Prop
  | 0, _, _ => False
  | n + 1, x2, σ => ((((σ.1 k0 2) ≤ x2) → post (0 : Int32) σ) ∧ ((¬ (σ.1 k0 2) ≤ x2) → wpX1_at k0 x2 σ (fun q3 σ2 => s_kd q3 = 3 → (((¬ (σ2.1 q3 0) = x1) → BX1_hasWord_2 k0 x1 post n ((x2 + 1)) σ2) ∧ (((σ2.1 q3 0) = x1) → post (1 : Int32) σ2)))))
def wpX1_hasWord (k0 : Nat) (x1 : Int32) (σ : Sg) (post : Int32 → Sg → Prop) : Prop := ∃ nf, BX1_hasWord_2 k0 x1 post nf ((0 : Int32)) σ
set_option maxHeartbeats 4000000 in
set_option maxRecDepth 100000 in
theorem TX1_hasWord_2 (C : s_C G p s args m c RX1 cX1_hasWord) (hml : c.maxLocals = 3) (hcs : cells ≤ (rm_X1_hasWord).cells ∧ slots ≤ (rm_X1_hasWord).slots) {k0 : Nat} {x1 : Int32} (hk0 : s_kd k0 = 1) {post : Int32 → Sg → Prop} (hR : ∀ (r : Int32) (σ1 : Sg) (H : Heap) (locs : List Loc) (pc : Nat) (ls : Array Slot), decode cX1_hasWord pc = .ok (.ireturn, 1) → narrow .boolean (.int r) = .int r → post r σ1 → s_St G σ1 H0 H locs → W p l e rm_X1_hasWord s m args below meth c H locs cells slots Q (F0 m pc ls [.int r])) : ∀ (n : Nat) (x2 : Int32), ∀ {σ : Sg} {H : Heap} {locs : List Loc} {ls : Array Slot}, s_St G σ H0 H locs → lv_has ls 3 [(0, .ref (G.2.2 + k0)), (1, .int x1), (2, .int x2)] → BX1_hasWord_2 k0 x1 post n x2 σ → W p l e rm_X1_hasWord s m args below meth c H locs cells slots Q (F0 m 2 ls []) := by
  intro n
  induction n with
  | zero =>
    intro x2  σ H locs ls S hl h
    exact absurd h (fun h => h)
  | succ n ih0 =>
    have ih : ∀ (x2 : Int32), ∀ (σ : Sg) (H : Heap) (locs : List Loc) (ls : Array Slot), s_St G σ H0 H locs → lv_has ls 3 [(0, .ref (G.2.2 + k0)), (1, .int x1), (2, .int x2)] → BX1_hasWord_2 k0 x1 post n x2 σ → W p l e rm_X1_hasWord s m args below meth c H locs cells slots Q (F0 m 2 ls []) := fun x2  _ _ _ _ => ih0 x2 
    intro x2  σ H locs ls S hl h
    refine lv_iload_n C.1 C.2.1 dX1_hasWord_2 rfl (lv_at hl 2 rfl) ?_
    refine lv_aload_n C.1 C.2.1 dX1_hasWord_3 rfl (lv_at hl 0 rfl) ?_
    refine g_X1_2 C fl_X1_22 hk0 S dX1_hasWord_4 ?_
    refine lv_icmp_ge (tgt := 30) C.1 C.2.1 dX1_hasWord_7 (by decide) (fun c1 => ?_) (fun c1 => ?_)
    · replace h := h.1 c1
      refine lv_iconst (v := (0 : Int32)) C.1 C.2.1 dX1_hasWord_30 (by decide) ?_
      exact hR _ _ _ _ _ _ dX1_hasWord_31 rfl h S
    · replace h := h.2 c1
      refine lv_aload_n C.1 C.2.1 dX1_hasWord_10 rfl (lv_at hl 0 rfl) ?_
      refine lv_iload_n C.1 C.2.1 dX1_hasWord_11 rfl (lv_at hl 2 rfl) ?_
      refine k_r (kd := 3) (r_V (As := [.int x2]) (rest := []) C hml (c_X1_at l G k0 x2 σ _ hk0 h) kM_X1_at im_X1_at se_X1_at ml_X1_29 ⟨rfl, rfl⟩ ⟨Nat.le_of_ble_eq_true rfl, Nat.le_of_ble_eq_true rfl⟩ hcs S hk0 (by decide) (T := TX1) (N := 4) rfl rfl hl.1 rfl (Nat.le_of_ble_eq_true rfl) dX1_hasWord_12) S (fun q3 σ2 H locs hq3 h S => ?_)
      replace h := h hq3
      refine gn_X3_0 C nf_X1_37 hq3 S dX1_hasWord_15 ?_
      refine lv_iload_n C.1 C.2.1 dX1_hasWord_18 rfl (lv_at hl 1 rfl) ?_
      refine lv_icmp_ne (tgt := 24) C.1 C.2.1 dX1_hasWord_19 (by decide) (fun c4 => ?_) (fun c4 => ?_)
      · replace h := h.1 c4
        refine lv_iinc (v := (x2 + 1)) (lv' := [(2, .int (x2 + 1)), (0, .ref (G.2.2 + k0)), (1, .int x1)]) C.1 C.2.1 dX1_hasWord_24 hl (k := 2) rfl rfl (by decide) rfl (fun ls hl => ?_)
        refine lv_goto (tgt := 2) C.1 C.2.1 dX1_hasWord_27 (by decide) ?_
        exact ih ((x2 + 1)) _ _ _ _ S (lv_sub hl [1, 2, 0] rfl) h
      · replace h := h.2 c4
        refine lv_iconst (v := (1 : Int32)) C.1 C.2.1 dX1_hasWord_22 (by decide) ?_
        exact hR _ _ _ _ _ _ dX1_hasWord_23 rfl h S
theorem kM_X1_hasWord : s_M yX1_hasWord cX1_hasWord 3 (some .boolean) 1 := ⟨co_X1_hasWord, in_X1, by decide, by decide, by decide +kernel⟩
set_option maxHeartbeats 4000000 in
set_option maxRecDepth 100000 in
theorem c_X1_hasWord (l : Launch) (G : s_G) (k0 : Nat) (x1 : Int32) (σ : Sg) (post : Int32 → Sg → Prop) (hk0 : s_kd k0 = 1) (h : wpX1_hasWord k0 x1 σ post) : Met l yX1_hasWord (wsU yX1_hasWord cX1_hasWord 3 (some .boolean)) rm_X1_hasWord (va_Pc [.ref (G.2.2 + k0), .int x1] (s_Pre G σ)) (va_Qi post (s_B G) (s_A G.2.2)) 0 0 (s_A G.2.2) := by
  refine Met.ofW (cc := cX1_hasWord) (maxL := 3) (ret := (some .boolean)) (by decide) rfl ?_
  intro p e s m args below meth c s₁ B hml hv
  obtain ⟨rfl, hP, hrok, hK, hN⟩ := hv
  have C : s_C G p s (([.ref (G.2.2 + k0), .int x1] : List Value).toArray) m c RX1 cX1_hasWord := ⟨B.exec, B.bytes, findClass_of_methodNamed B.named, fun w hw => atoms_spec (ws := wsU yX1_hasWord cX1_hasWord 3 (some .boolean)) B.pre w (List.mem_cons_of_mem _ hw), hK, hN⟩
  have hr := B.returns
  have hlocks := B.notSynchronized
  have S : s_St G σ s.heap s.heap [] := ⟨hP, va_S.rf, hrok⟩
  have hcs : 0 ≤ (rm_X1_hasWord).cells ∧ 0 ≤ (rm_X1_hasWord).slots := ⟨Nat.le_refl 0, Nat.le_refl 0⟩
  have hR : ∀ (r : Int32) (σ1 : Sg) (H : Heap) (locs : List Loc) (pc : Nat) (ls : Array Slot), decode cX1_hasWord pc = .ok (.ireturn, 1) → narrow .boolean (.int r) = .int r → post r σ1 → s_St G σ1 s.heap H locs → W p l e rm_X1_hasWord s m ([.ref (G.2.2 + k0), .int x1] : List Value).toArray below meth c H locs 0 0 (MQ below (va_Qi post (s_B G) (s_A G.2.2)) ([.ref (G.2.2 + k0), .int x1] : List Value).toArray s 0 0 (s_A G.2.2)) (F0 m pc ls [.int r]) := fun _ _ _ _ _ _ hd hn hp S => ret_z C hr hlocks hd hn hp S
  have hl := lv_entry ([.ref (G.2.2 + k0), .int x1]) (n := 3) (Nat.le_of_ble_eq_true rfl)
  rw [lg_entry_eq]
  generalize (lg_sl ([.ref (G.2.2 + k0), .int x1]) ++ List.replicate (3 - (lg_sl ([.ref (G.2.2 + k0), .int x1])).length) Slot.unset).toArray = ls at hl ⊢
  have hl : lv_has ls 3 [(0, .ref (G.2.2 + k0)), (1, .int x1)] := hl
  unfold wpX1_hasWord at h
  refine lv_iconst (v := (0 : Int32)) C.1 C.2.1 dX1_hasWord_0 (by decide) ?_
  refine lv_istore_n (lv' := [(2, .int (0 : Int32)), (0, .ref (G.2.2 + k0)), (1, .int x1)]) C.1 C.2.1 dX1_hasWord_1 rfl hl (by decide) rfl (fun ls hl => ?_)
  obtain ⟨nf, h⟩ := h
  exact TX1_hasWord_2 C hml hcs hk0 hR nf ((0 : Int32)) S (lv_sub hl [1, 2, 0] rfl) h
/-! X1_isEnough -/
abbrev rm_X1_isEnough : Room := { frames := 1, cells := 0, slots := 0, locals := 21 }
def BX1_isEnough_2 (k0 : Nat) (x1 : Int32) (post : Int32 → Sg → Prop) : Nat → Int32 → Sg → Prop
  | 0, _, _ => False
  | n + 1, x2, σ => ((((σ.1 k0 2) ≤ x2) → post (1 : Int32) σ) ∧ ((¬ (σ.1 k0 2) ≤ x2) → wpX6_timesIn x1 x2 σ (fun r3 σ2 => wpX1_at k0 x2 σ2 (fun q5 σ4 => s_kd q5 = 3 → ((((σ4.1 q5 2) ≤ r3) → BX1_isEnough_2 k0 x1 post n ((x2 + 1)) σ4) ∧ ((¬ (σ4.1 q5 2) ≤ r3) → post (0 : Int32) σ4))))))
def wpX1_isEnough (k0 : Nat) (x1 : Int32) (σ : Sg) (post : Int32 → Sg → Prop) : Prop := ∃ nf, BX1_isEnough_2 k0 x1 post nf ((0 : Int32)) σ
set_option maxHeartbeats 4000000 in
set_option maxRecDepth 100000 in
theorem TX1_isEnough_2 (C : s_C G p s args m c RX1 cX1_isEnough) (hml : c.maxLocals = 3) (hcs : cells ≤ (rm_X1_isEnough).cells ∧ slots ≤ (rm_X1_isEnough).slots) {k0 : Nat} {x1 : Int32} (hk0 : s_kd k0 = 1) {post : Int32 → Sg → Prop} (hR : ∀ (r : Int32) (σ1 : Sg) (H : Heap) (locs : List Loc) (pc : Nat) (ls : Array Slot), decode cX1_isEnough pc = .ok (.ireturn, 1) → narrow .boolean (.int r) = .int r → post r σ1 → s_St G σ1 H0 H locs → W p l e rm_X1_isEnough s m args below meth c H locs cells slots Q (F0 m pc ls [.int r])) : ∀ (n : Nat) (x2 : Int32), ∀ {σ : Sg} {H : Heap} {locs : List Loc} {ls : Array Slot}, s_St G σ H0 H locs → lv_has ls 3 [(0, .ref (G.2.2 + k0)), (1, .int x1), (2, .int x2)] → BX1_isEnough_2 k0 x1 post n x2 σ → W p l e rm_X1_isEnough s m args below meth c H locs cells slots Q (F0 m 2 ls []) := by
  intro n
  induction n with
  | zero =>
    intro x2  σ H locs ls S hl h
    exact absurd h (fun h => h)
  | succ n ih0 =>
    have ih : ∀ (x2 : Int32), ∀ (σ : Sg) (H : Heap) (locs : List Loc) (ls : Array Slot), s_St G σ H0 H locs → lv_has ls 3 [(0, .ref (G.2.2 + k0)), (1, .int x1), (2, .int x2)] → BX1_isEnough_2 k0 x1 post n x2 σ → W p l e rm_X1_isEnough s m args below meth c H locs cells slots Q (F0 m 2 ls []) := fun x2  _ _ _ _ => ih0 x2 
    intro x2  σ H locs ls S hl h
    refine lv_iload_n C.1 C.2.1 dX1_isEnough_2 rfl (lv_at hl 2 rfl) ?_
    refine lv_aload_n C.1 C.2.1 dX1_isEnough_3 rfl (lv_at hl 0 rfl) ?_
    refine g_X1_2 C fl_X1_22 hk0 S dX1_isEnough_4 ?_
    refine lv_icmp_ge (tgt := 34) C.1 C.2.1 dX1_isEnough_7 (by decide) (fun c1 => ?_) (fun c1 => ?_)
    · replace h := h.1 c1
      refine lv_iconst (v := (1 : Int32)) C.1 C.2.1 dX1_isEnough_34 (by decide) ?_
      exact hR _ _ _ _ _ _ dX1_isEnough_35 rfl h S
    · replace h := h.2 c1
      refine lv_iload_n C.1 C.2.1 dX1_isEnough_10 rfl (lv_at hl 1 rfl) ?_
      refine lv_iload_n C.1 C.2.1 dX1_isEnough_11 rfl (lv_at hl 2 rfl) ?_
      refine k_i (r_SN (As := [.int x1, .int x2]) (rest := []) C hml (c_X6_timesIn l G x1 x2 σ _ h) kM_X6_timesIn st_X6_timesIn nm_X1_84 ⟨rfl, rfl⟩ ⟨Nat.le_of_ble_eq_true rfl, Nat.le_of_ble_eq_true rfl⟩ hcs S rfl hl.1 rfl (Nat.le_of_ble_eq_true rfl) dX1_isEnough_12) S (fun r3 σ2 H locs h S => ?_)
      refine lv_aload_n C.1 C.2.1 dX1_isEnough_15 rfl (lv_at hl 0 rfl) ?_
      refine lv_iload_n C.1 C.2.1 dX1_isEnough_16 rfl (lv_at hl 2 rfl) ?_
      refine k_r (kd := 3) (r_V (As := [.int x2]) (rest := [.int r3]) C hml (c_X1_at l G k0 x2 σ2 _ hk0 h) kM_X1_at im_X1_at se_X1_at ml_X1_29 ⟨rfl, rfl⟩ ⟨Nat.le_of_ble_eq_true rfl, Nat.le_of_ble_eq_true rfl⟩ hcs S hk0 (by decide) (T := TX1) (N := 4) rfl rfl hl.1 rfl (Nat.le_of_ble_eq_true rfl) dX1_isEnough_17) S (fun q5 σ4 H locs hq5 h S => ?_)
      replace h := h hq5
      refine gn_X3_2 C nf_X1_43 hq5 S dX1_isEnough_20 ?_
      refine lv_icmp_ge (tgt := 28) C.1 C.2.1 dX1_isEnough_23 (by decide) (fun c6 => ?_) (fun c6 => ?_)
      · replace h := h.1 c6
        refine lv_iinc (v := (x2 + 1)) (lv' := [(2, .int (x2 + 1)), (0, .ref (G.2.2 + k0)), (1, .int x1)]) C.1 C.2.1 dX1_isEnough_28 hl (k := 2) rfl rfl (by decide) rfl (fun ls hl => ?_)
        refine lv_goto (tgt := 2) C.1 C.2.1 dX1_isEnough_31 (by decide) ?_
        exact ih ((x2 + 1)) _ _ _ _ S (lv_sub hl [1, 2, 0] rfl) h
      · replace h := h.2 c6
        refine lv_iconst (v := (0 : Int32)) C.1 C.2.1 dX1_isEnough_26 (by decide) ?_
        exact hR _ _ _ _ _ _ dX1_isEnough_27 rfl h S
theorem kM_X1_isEnough : s_M yX1_isEnough cX1_isEnough 3 (some .boolean) 1 := ⟨co_X1_isEnough, in_X1, by decide, by decide, by decide +kernel⟩
set_option maxHeartbeats 4000000 in
set_option maxRecDepth 100000 in
theorem c_X1_isEnough (l : Launch) (G : s_G) (k0 : Nat) (x1 : Int32) (σ : Sg) (post : Int32 → Sg → Prop) (hk0 : s_kd k0 = 1) (h : wpX1_isEnough k0 x1 σ post) : Met l yX1_isEnough (wsU yX1_isEnough cX1_isEnough 3 (some .boolean)) rm_X1_isEnough (va_Pc [.ref (G.2.2 + k0), .int x1] (s_Pre G σ)) (va_Qi post (s_B G) (s_A G.2.2)) 0 0 (s_A G.2.2) := by
  refine Met.ofW (cc := cX1_isEnough) (maxL := 3) (ret := (some .boolean)) (by decide) rfl ?_
  intro p e s m args below meth c s₁ B hml hv
  obtain ⟨rfl, hP, hrok, hK, hN⟩ := hv
  have C : s_C G p s (([.ref (G.2.2 + k0), .int x1] : List Value).toArray) m c RX1 cX1_isEnough := ⟨B.exec, B.bytes, findClass_of_methodNamed B.named, fun w hw => atoms_spec (ws := wsU yX1_isEnough cX1_isEnough 3 (some .boolean)) B.pre w (List.mem_cons_of_mem _ hw), hK, hN⟩
  have hr := B.returns
  have hlocks := B.notSynchronized
  have S : s_St G σ s.heap s.heap [] := ⟨hP, va_S.rf, hrok⟩
  have hcs : 0 ≤ (rm_X1_isEnough).cells ∧ 0 ≤ (rm_X1_isEnough).slots := ⟨Nat.le_refl 0, Nat.le_refl 0⟩
  have hR : ∀ (r : Int32) (σ1 : Sg) (H : Heap) (locs : List Loc) (pc : Nat) (ls : Array Slot), decode cX1_isEnough pc = .ok (.ireturn, 1) → narrow .boolean (.int r) = .int r → post r σ1 → s_St G σ1 s.heap H locs → W p l e rm_X1_isEnough s m ([.ref (G.2.2 + k0), .int x1] : List Value).toArray below meth c H locs 0 0 (MQ below (va_Qi post (s_B G) (s_A G.2.2)) ([.ref (G.2.2 + k0), .int x1] : List Value).toArray s 0 0 (s_A G.2.2)) (F0 m pc ls [.int r]) := fun _ _ _ _ _ _ hd hn hp S => ret_z C hr hlocks hd hn hp S
  have hl := lv_entry ([.ref (G.2.2 + k0), .int x1]) (n := 3) (Nat.le_of_ble_eq_true rfl)
  rw [lg_entry_eq]
  generalize (lg_sl ([.ref (G.2.2 + k0), .int x1]) ++ List.replicate (3 - (lg_sl ([.ref (G.2.2 + k0), .int x1])).length) Slot.unset).toArray = ls at hl ⊢
  have hl : lv_has ls 3 [(0, .ref (G.2.2 + k0)), (1, .int x1)] := hl
  unfold wpX1_isEnough at h
  refine lv_iconst (v := (0 : Int32)) C.1 C.2.1 dX1_isEnough_0 (by decide) ?_
  refine lv_istore_n (lv' := [(2, .int (0 : Int32)), (0, .ref (G.2.2 + k0)), (1, .int x1)]) C.1 C.2.1 dX1_isEnough_1 rfl hl (by decide) rfl (fun ls hl => ?_)
  obtain ⟨nf, h⟩ := h
  exact TX1_isEnough_2 C hml hcs hk0 hR nf ((0 : Int32)) S (lv_sub hl [1, 2, 0] rfl) h
/-! X1_leastOccurrences -/
abbrev rm_X1_leastOccurrences : Room := { frames := 1, cells := 0, slots := 0, locals := 21 }
def BX1_leastOccurrences_4 (k0 : Nat) (post : Int32 → Sg → Prop) : Nat → Int32 → Int32 → Sg → Prop
  | 0, _, _, _ => False
  | n + 1, x1, x2, σ => ((((σ.1 k0 2) ≤ x2) → post x1 σ) ∧ ((¬ (σ.1 k0 2) ≤ x2) → wpX1_at k0 x2 σ (fun q3 σ2 => s_kd q3 = 3 → BX1_leastOccurrences_4 k0 post n ((x1 + (σ2.1 q3 2))) ((x2 + 1)) σ2)))
def wpX1_leastOccurrences (k0 : Nat) (σ : Sg) (post : Int32 → Sg → Prop) : Prop := ∃ nf, BX1_leastOccurrences_4 k0 post nf ((0 : Int32)) ((0 : Int32)) σ
set_option maxHeartbeats 4000000 in
set_option maxRecDepth 100000 in
theorem TX1_leastOccurrences_4 (C : s_C G p s args m c RX1 cX1_leastOccurrences) (hml : c.maxLocals = 3) (hcs : cells ≤ (rm_X1_leastOccurrences).cells ∧ slots ≤ (rm_X1_leastOccurrences).slots) {k0 : Nat} (hk0 : s_kd k0 = 1) {post : Int32 → Sg → Prop} (hR : ∀ (r : Int32) (σ1 : Sg) (H : Heap) (locs : List Loc) (pc : Nat) (ls : Array Slot), decode cX1_leastOccurrences pc = .ok (.ireturn, 1) → post r σ1 → s_St G σ1 H0 H locs → W p l e rm_X1_leastOccurrences s m args below meth c H locs cells slots Q (F0 m pc ls [.int r])) : ∀ (n : Nat) (x1 : Int32) (x2 : Int32), ∀ {σ : Sg} {H : Heap} {locs : List Loc} {ls : Array Slot}, s_St G σ H0 H locs → lv_has ls 3 [(0, .ref (G.2.2 + k0)), (1, .int x1), (2, .int x2)] → BX1_leastOccurrences_4 k0 post n x1 x2 σ → W p l e rm_X1_leastOccurrences s m args below meth c H locs cells slots Q (F0 m 4 ls []) := by
  intro n
  induction n with
  | zero =>
    intro x1 x2  σ H locs ls S hl h
    exact absurd h (fun h => h)
  | succ n ih0 =>
    have ih : ∀ (x1 : Int32) (x2 : Int32), ∀ (σ : Sg) (H : Heap) (locs : List Loc) (ls : Array Slot), s_St G σ H0 H locs → lv_has ls 3 [(0, .ref (G.2.2 + k0)), (1, .int x1), (2, .int x2)] → BX1_leastOccurrences_4 k0 post n x1 x2 σ → W p l e rm_X1_leastOccurrences s m args below meth c H locs cells slots Q (F0 m 4 ls []) := fun x1 x2  _ _ _ _ => ih0 x1 x2 
    intro x1 x2  σ H locs ls S hl h
    refine lv_iload_n C.1 C.2.1 dX1_leastOccurrences_4 rfl (lv_at hl 2 rfl) ?_
    refine lv_aload_n C.1 C.2.1 dX1_leastOccurrences_5 rfl (lv_at hl 0 rfl) ?_
    refine g_X1_2 C fl_X1_22 hk0 S dX1_leastOccurrences_6 ?_
    refine lv_icmp_ge (tgt := 29) C.1 C.2.1 dX1_leastOccurrences_9 (by decide) (fun c1 => ?_) (fun c1 => ?_)
    · replace h := h.1 c1
      refine lv_iload_n C.1 C.2.1 dX1_leastOccurrences_29 rfl (lv_at hl 1 rfl) ?_
      exact hR _ _ _ _ _ _ dX1_leastOccurrences_30 h S
    · replace h := h.2 c1
      refine lv_iload_n C.1 C.2.1 dX1_leastOccurrences_12 rfl (lv_at hl 1 rfl) ?_
      refine lv_aload_n C.1 C.2.1 dX1_leastOccurrences_13 rfl (lv_at hl 0 rfl) ?_
      refine lv_iload_n C.1 C.2.1 dX1_leastOccurrences_14 rfl (lv_at hl 2 rfl) ?_
      refine k_r (kd := 3) (r_V (As := [.int x2]) (rest := [.int x1]) C hml (c_X1_at l G k0 x2 σ _ hk0 h) kM_X1_at im_X1_at se_X1_at ml_X1_29 ⟨rfl, rfl⟩ ⟨Nat.le_of_ble_eq_true rfl, Nat.le_of_ble_eq_true rfl⟩ hcs S hk0 (by decide) (T := TX1) (N := 4) rfl rfl hl.1 rfl (Nat.le_of_ble_eq_true rfl) dX1_leastOccurrences_15) S (fun q3 σ2 H locs hq3 h S => ?_)
      replace h := h hq3
      refine gn_X3_2 C nf_X1_43 hq3 S dX1_leastOccurrences_18 ?_
      refine lv_iadd C.1 C.2.1 dX1_leastOccurrences_21 ?_
      refine lv_istore_n (lv' := [(1, .int (x1 + (σ2.1 q3 2))), (0, .ref (G.2.2 + k0)), (2, .int x2)]) C.1 C.2.1 dX1_leastOccurrences_22 rfl hl (by decide) rfl (fun ls hl => ?_)
      refine lv_iinc (v := (x2 + 1)) (lv' := [(2, .int (x2 + 1)), (1, .int (x1 + (σ2.1 q3 2))), (0, .ref (G.2.2 + k0))]) C.1 C.2.1 dX1_leastOccurrences_23 hl (k := 2) rfl rfl (by decide) rfl (fun ls hl => ?_)
      refine lv_goto (tgt := 4) C.1 C.2.1 dX1_leastOccurrences_26 (by decide) ?_
      exact ih ((x1 + (σ2.1 q3 2))) ((x2 + 1)) _ _ _ _ S (lv_sub hl [2, 1, 0] rfl) h
theorem kM_X1_leastOccurrences : s_M yX1_leastOccurrences cX1_leastOccurrences 3 (some .int) 0 := ⟨co_X1_leastOccurrences, in_X1, by decide, by decide, by decide +kernel⟩
set_option maxHeartbeats 4000000 in
set_option maxRecDepth 100000 in
theorem c_X1_leastOccurrences (l : Launch) (G : s_G) (k0 : Nat) (σ : Sg) (post : Int32 → Sg → Prop) (hk0 : s_kd k0 = 1) (h : wpX1_leastOccurrences k0 σ post) : Met l yX1_leastOccurrences (wsU yX1_leastOccurrences cX1_leastOccurrences 3 (some .int)) rm_X1_leastOccurrences (va_Pc [.ref (G.2.2 + k0)] (s_Pre G σ)) (va_Qi post (s_B G) (s_A G.2.2)) 0 0 (s_A G.2.2) := by
  refine Met.ofW (cc := cX1_leastOccurrences) (maxL := 3) (ret := (some .int)) (by decide) rfl ?_
  intro p e s m args below meth c s₁ B hml hv
  obtain ⟨rfl, hP, hrok, hK, hN⟩ := hv
  have C : s_C G p s (([.ref (G.2.2 + k0)] : List Value).toArray) m c RX1 cX1_leastOccurrences := ⟨B.exec, B.bytes, findClass_of_methodNamed B.named, fun w hw => atoms_spec (ws := wsU yX1_leastOccurrences cX1_leastOccurrences 3 (some .int)) B.pre w (List.mem_cons_of_mem _ hw), hK, hN⟩
  have hr := B.returns
  have hlocks := B.notSynchronized
  have S : s_St G σ s.heap s.heap [] := ⟨hP, va_S.rf, hrok⟩
  have hcs : 0 ≤ (rm_X1_leastOccurrences).cells ∧ 0 ≤ (rm_X1_leastOccurrences).slots := ⟨Nat.le_refl 0, Nat.le_refl 0⟩
  have hR : ∀ (r : Int32) (σ1 : Sg) (H : Heap) (locs : List Loc) (pc : Nat) (ls : Array Slot), decode cX1_leastOccurrences pc = .ok (.ireturn, 1) → post r σ1 → s_St G σ1 s.heap H locs → W p l e rm_X1_leastOccurrences s m ([.ref (G.2.2 + k0)] : List Value).toArray below meth c H locs 0 0 (MQ below (va_Qi post (s_B G) (s_A G.2.2)) ([.ref (G.2.2 + k0)] : List Value).toArray s 0 0 (s_A G.2.2)) (F0 m pc ls [.int r]) := fun _ _ _ _ _ _ hd hp S => ret_i C hr hlocks hd hp S
  have hl := lv_entry ([.ref (G.2.2 + k0)]) (n := 3) (Nat.le_of_ble_eq_true rfl)
  rw [lg_entry_eq]
  generalize (lg_sl ([.ref (G.2.2 + k0)]) ++ List.replicate (3 - (lg_sl ([.ref (G.2.2 + k0)])).length) Slot.unset).toArray = ls at hl ⊢
  have hl : lv_has ls 3 [(0, .ref (G.2.2 + k0))] := hl
  unfold wpX1_leastOccurrences at h
  refine lv_iconst (v := (0 : Int32)) C.1 C.2.1 dX1_leastOccurrences_0 (by decide) ?_
  refine lv_istore_n (lv' := [(1, .int (0 : Int32)), (0, .ref (G.2.2 + k0))]) C.1 C.2.1 dX1_leastOccurrences_1 rfl hl (by decide) rfl (fun ls hl => ?_)
  refine lv_iconst (v := (0 : Int32)) C.1 C.2.1 dX1_leastOccurrences_2 (by decide) ?_
  refine lv_istore_n (lv' := [(2, .int (0 : Int32)), (1, .int (0 : Int32)), (0, .ref (G.2.2 + k0))]) C.1 C.2.1 dX1_leastOccurrences_3 rfl hl (by decide) rfl (fun ls hl => ?_)
  obtain ⟨nf, h⟩ := h
  exact TX1_leastOccurrences_4 C hml hcs hk0 hR nf ((0 : Int32)) ((0 : Int32)) S (lv_sub hl [2, 1, 0] rfl) h
end M1
