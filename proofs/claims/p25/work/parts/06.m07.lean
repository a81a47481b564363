section M7
variable {p : Program} {l : Launch} {e : Env} {R : Room} {s : State} {m : MethodId} {args : Array Value} {below : List Frame} {meth : Method} {c : Code} {H0 : Heap} {cells slots : Nat} {Q : State → Prop} {G : s_G}
/-! X5_startAt -/
abbrev rm_X5_startAt : Room := { frames := 0, cells := 0, slots := 0, locals := 0 }
def wpX5_startAt (x1 : Int32) (σ : Sg) (post : Int32 → Sg → Prop) : Prop := (((x1 < 0) → post ((-9 : Int32)) σ) ∧ ((¬ x1 < 0) → ((((σ.1 90 6) ≤ x1) → post ((-9 : Int32)) σ) ∧ ((¬ (σ.1 90 6) ≤ x1) → ((((18 : Int32) ≤ x1) → post ((-9 : Int32)) σ) ∧ ((¬ (18 : Int32) ≤ x1) → (vp_in x1 18 ∧ post ((σ.1 95 (x1).toNatClampNeg)) σ)))))))
theorem kM_X5_startAt : s_M yX5_startAt cX5_startAt 2 (some .int) 1 := ⟨co_X5_startAt, in_X5, by decide, by decide, by decide +kernel⟩
set_option maxHeartbeats 4000000 in
set_option maxRecDepth 100000 in
theorem c_X5_startAt (l : Launch) (G : s_G) (x1 : Int32) (σ : Sg) (post : Int32 → Sg → Prop) (h : wpX5_startAt x1 σ post) : Met l yX5_startAt (wsU yX5_startAt cX5_startAt 2 (some .int)) rm_X5_startAt (va_Pc [.ref (G.2.2 + 90), .int x1] (s_Pre G σ)) (va_Qi post (s_B G) (s_A G.2.2)) 0 0 (s_A G.2.2) := by
  refine Met.ofW (cc := cX5_startAt) (maxL := 2) (ret := (some .int)) (by decide) rfl ?_
  intro p e s m args below meth c s₁ B hml hv
  obtain ⟨rfl, hP, hrok, hK, hN⟩ := hv
  have C : s_C G p s (([.ref (G.2.2 + 90), .int x1] : List Value).toArray) m c RX5 cX5_startAt := ⟨B.exec, B.bytes, findClass_of_methodNamed B.named, fun w hw => atoms_spec (ws := wsU yX5_startAt cX5_startAt 2 (some .int)) B.pre w (List.mem_cons_of_mem _ hw), hK, hN⟩
  have hr := B.returns
  have hlocks := B.notSynchronized
  have S : s_St G σ s.heap s.heap [] := ⟨hP, va_S.rf, hrok⟩
  have hcs : 0 ≤ (rm_X5_startAt).cells ∧ 0 ≤ (rm_X5_startAt).slots := ⟨Nat.le_refl 0, Nat.le_refl 0⟩
  have hR : ∀ (r : Int32) (σ1 : Sg) (H : Heap) (locs : List Loc) (pc : Nat) (ls : Array Slot), decode cX5_startAt pc = .ok (.ireturn, 1) → post r σ1 → s_St G σ1 s.heap H locs → W p l e rm_X5_startAt s m ([.ref (G.2.2 + 90), .int x1] : List Value).toArray below meth c H locs 0 0 (MQ below (va_Qi post (s_B G) (s_A G.2.2)) ([.ref (G.2.2 + 90), .int x1] : List Value).toArray s 0 0 (s_A G.2.2)) (F0 m pc ls [.int r]) := fun _ _ _ _ _ _ hd hp S => ret_i C hr hlocks hd hp S
  have hl := lv_entry ([.ref (G.2.2 + 90), .int x1]) (n := 2) (Nat.le_of_ble_eq_true rfl)
  rw [lg_entry_eq]
  generalize (lg_sl ([.ref (G.2.2 + 90), .int x1]) ++ List.replicate (2 - (lg_sl ([.ref (G.2.2 + 90), .int x1])).length) Slot.unset).toArray = ls at hl ⊢
  have hl : lv_has ls 2 [(0, .ref (G.2.2 + 90)), (1, .int x1)] := hl
  unfold wpX5_startAt at h
  refine lv_iload_n C.1 C.2.1 dX5_startAt_0 rfl (lv_at hl 1 rfl) ?_
  refine lv_if_lt (tgt := 30) C.1 C.2.1 dX5_startAt_1 (by decide) (fun c1 => ?_) (fun c1 => ?_)
  · replace h := h.1 c1
    refine lv_bipush (v := (-9 : Int32)) C.1 C.2.1 dX5_startAt_30 (by decide) ?_
    exact hR _ _ _ _ _ _ dX5_startAt_32 h S
  · replace h := h.2 c1
    refine lv_iload_n C.1 C.2.1 dX5_startAt_4 rfl (lv_at hl 1 rfl) ?_
    refine lv_aload_n C.1 C.2.1 dX5_startAt_5 rfl (lv_at hl 0 rfl) ?_
    refine g_X5_6 C fl_X5_49 kd_90 S dX5_startAt_6 ?_
    refine lv_icmp_ge (tgt := 30) C.1 C.2.1 dX5_startAt_9 (by decide) (fun c2 => ?_) (fun c2 => ?_)
    · replace h := h.1 c2
      refine lv_bipush (v := (-9 : Int32)) C.1 C.2.1 dX5_startAt_30 (by decide) ?_
      exact hR _ _ _ _ _ _ dX5_startAt_32 h S
    · replace h := h.2 c2
      refine lv_iload_n C.1 C.2.1 dX5_startAt_12 rfl (lv_at hl 1 rfl) ?_
      refine lv_aload_n C.1 C.2.1 dX5_startAt_13 rfl (lv_at hl 0 rfl) ?_
      refine g_X5_4 C fl_X5_25 kd_90 S fn_90_4 dX5_startAt_14 ?_
      refine a_len8 C kd_95 S (v := (18 : Int32)) (by rw [ln_95]; rfl) dX5_startAt_17 ?_
      refine lv_icmp_ge (tgt := 30) C.1 C.2.1 dX5_startAt_18 (by decide) (fun c3 => ?_) (fun c3 => ?_)
      · replace h := h.1 c3
        refine lv_bipush (v := (-9 : Int32)) C.1 C.2.1 dX5_startAt_30 (by decide) ?_
        exact hR _ _ _ _ _ _ dX5_startAt_32 h S
      · replace h := h.2 c3
        refine lv_aload_n C.1 C.2.1 dX5_startAt_21 rfl (lv_at hl 0 rfl) ?_
        refine g_X5_4 C fl_X5_25 kd_90 S fn_90_4 dX5_startAt_22 ?_
        refine lv_iload_n C.1 C.2.1 dX5_startAt_25 rfl (lv_at hl 1 rfl) ?_
        refine a_ild C kd_95 S ln_95 h.1 dX5_startAt_26 ?_
        replace h := h.2
        refine lv_goto (tgt := 32) C.1 C.2.1 dX5_startAt_27 (by decide) ?_
        exact hR _ _ _ _ _ _ dX5_startAt_32 h S
/-! X6_occurrence -/
abbrev rm_X6_occurrence : Room := { frames := 6, cells := 0, slots := 0, locals := 144 }
def wpX6_occurrence (x1 : Int32) (x2 : Int32) (σ : Sg) (post : Int32 → Sg → Prop) : Prop := (((x1 < 0) → post ((-1 : Int32)) σ) ∧ ((¬ x1 < 0) → (((x2 < 0) → post ((-1 : Int32)) σ) ∧ ((¬ x2 < 0) → (((x2 ≤ (2 : Int32)) → wpX5_learn σ (fun σ4 => wpX5_exists σ4 (fun r6 σ5 => (((¬ r6 = 0) → (((¬ x2 = 0 ∧ ¬ x2 = 1) → wpX5_numberAt x1 σ5 (fun r10 σ9 => post r10 σ9)) ∧ ((x2 = 0) → wpX5_memberAt x1 σ5 (fun r12 σ11 => post r12 σ11)) ∧ ((x2 = 1) → wpX5_startAt x1 σ5 (fun r14 σ13 => post r14 σ13)))) ∧ ((r6 = 0) → post ((-2 : Int32)) σ5))))) ∧ ((¬ x2 ≤ (2 : Int32)) → post ((-1 : Int32)) σ))))))
theorem kM_X6_occurrence : s_M yX6_occurrence cX6_occurrence 3 (some .int) 2 := ⟨co_X6_occurrence, in_X6, by decide, by decide, by decide +kernel⟩
set_option maxHeartbeats 4000000 in
set_option maxRecDepth 100000 in
theorem c_X6_occurrence (l : Launch) (G : s_G) (x1 : Int32) (x2 : Int32) (σ : Sg) (post : Int32 → Sg → Prop) (h : wpX6_occurrence x1 x2 σ post) : Met l yX6_occurrence (wsU yX6_occurrence cX6_occurrence 3 (some .int)) rm_X6_occurrence (va_Pc [.ref (G.2.2 + 0), .int x1, .int x2] (s_Pre G σ)) (va_Qi post (s_B G) (s_A G.2.2)) 0 0 (s_A G.2.2) := by
  refine Met.ofW (cc := cX6_occurrence) (maxL := 3) (ret := (some .int)) (by decide) rfl ?_
  intro p e s m args below meth c s₁ B hml hv
  obtain ⟨rfl, hP, hrok, hK, hN⟩ := hv
  have C : s_C G p s (([.ref (G.2.2 + 0), .int x1, .int x2] : List Value).toArray) m c RX6 cX6_occurrence := ⟨B.exec, B.bytes, findClass_of_methodNamed B.named, fun w hw => atoms_spec (ws := wsU yX6_occurrence cX6_occurrence 3 (some .int)) B.pre w (List.mem_cons_of_mem _ hw), hK, hN⟩
  have hr := B.returns
  have hlocks := B.notSynchronized
  have S : s_St G σ s.heap s.heap [] := ⟨hP, va_S.rf, hrok⟩
  have hcs : 0 ≤ (rm_X6_occurrence).cells ∧ 0 ≤ (rm_X6_occurrence).slots := ⟨Nat.le_refl 0, Nat.le_refl 0⟩
  have hR : ∀ (r : Int32) (σ1 : Sg) (H : Heap) (locs : List Loc) (pc : Nat) (ls : Array Slot), decode cX6_occurrence pc = .ok (.ireturn, 1) → post r σ1 → s_St G σ1 s.heap H locs → W p l e rm_X6_occurrence s m ([.ref (G.2.2 + 0), .int x1, .int x2] : List Value).toArray below meth c H locs 0 0 (MQ below (va_Qi post (s_B G) (s_A G.2.2)) ([.ref (G.2.2 + 0), .int x1, .int x2] : List Value).toArray s 0 0 (s_A G.2.2)) (F0 m pc ls [.int r]) := fun _ _ _ _ _ _ hd hp S => ret_i C hr hlocks hd hp S
  have hl := lv_entry ([.ref (G.2.2 + 0), .int x1, .int x2]) (n := 3) (Nat.le_of_ble_eq_true rfl)
  rw [lg_entry_eq]
  generalize (lg_sl ([.ref (G.2.2 + 0), .int x1, .int x2]) ++ List.replicate (3 - (lg_sl ([.ref (G.2.2 + 0), .int x1, .int x2])).length) Slot.unset).toArray = ls at hl ⊢
  have hl : lv_has ls 3 [(0, .ref (G.2.2 + 0)), (1, .int x1), (2, .int x2)] := hl
  unfold wpX6_occurrence at h
  refine lv_iload_n C.1 C.2.1 dX6_occurrence_0 rfl (lv_at hl 1 rfl) ?_
  refine lv_if_lt (tgt := 13) C.1 C.2.1 dX6_occurrence_1 (by decide) (fun c1 => ?_) (fun c1 => ?_)
  · replace h := h.1 c1
    refine lv_iconst (v := (-1 : Int32)) C.1 C.2.1 dX6_occurrence_13 (by decide) ?_
    exact hR _ _ _ _ _ _ dX6_occurrence_14 h S
  · replace h := h.2 c1
    refine lv_iload_n C.1 C.2.1 dX6_occurrence_4 rfl (lv_at hl 2 rfl) ?_
    refine lv_if_lt (tgt := 13) C.1 C.2.1 dX6_occurrence_5 (by decide) (fun c2 => ?_) (fun c2 => ?_)
    · replace h := h.1 c2
      refine lv_iconst (v := (-1 : Int32)) C.1 C.2.1 dX6_occurrence_13 (by decide) ?_
      exact hR _ _ _ _ _ _ dX6_occurrence_14 h S
    · replace h := h.2 c2
      refine lv_iload_n C.1 C.2.1 dX6_occurrence_8 rfl (lv_at hl 2 rfl) ?_
      refine lv_iconst (v := (2 : Int32)) C.1 C.2.1 dX6_occurrence_9 (by decide) ?_
      refine lv_icmp_le (tgt := 15) C.1 C.2.1 dX6_occurrence_10 (by decide) (fun c3 => ?_) (fun c3 => ?_)
      · replace h := h.1 c3
        refine lv_aload_n C.1 C.2.1 dX6_occurrence_15 rfl (lv_at hl 0 rfl) ?_
        refine g_X6_6 C fl_X6_44 kd_0 S fn_0_6 dX6_occurrence_16 ?_
        refine lv_aload_n C.1 C.2.1 dX6_occurrence_19 rfl (lv_at hl 0 rfl) ?_
        refine g_X6_2 C fl_X6_22 kd_0 S fn_0_2 dX6_occurrence_20 ?_
        refine lv_aload_n C.1 C.2.1 dX6_occurrence_23 rfl (lv_at hl 0 rfl) ?_
        refine g_X6_0 C fl_X6_10 kd_0 S fn_0_0 dX6_occurrence_24 ?_
        refine k_v (r_VN (As := [.ref (G.2.2 + 5), .ref (G.2.2 + 1)]) (rest := []) C hml (c_X5_learn l G σ _ h) kM_X5_learn im_X5_learn se_X5_learn nm_X6_164 ⟨rfl, rfl⟩ ⟨Nat.le_of_ble_eq_true rfl, Nat.le_of_ble_eq_true rfl⟩ hcs S.v kd_90 (by decide) (T := TX5) (N := 8) rfl rfl hl.1 rfl (Nat.le_of_ble_eq_true rfl) dX6_occurrence_27) S (fun σ4 H locs h S => ?_)
        refine lv_aload_n C.1 C.2.1 dX6_occurrence_30 rfl (lv_at hl 0 rfl) ?_
        refine g_X6_6 C fl_X6_44 kd_0 S fn_0_6 dX6_occurrence_31 ?_
        refine k_i (r_VN (As := []) (rest := []) C hml (c_X5_exists l G σ4 _ h) kM_X5_exists im_X5_exists se_X5_exists nm_X6_168 ⟨rfl, rfl⟩ ⟨Nat.le_of_ble_eq_true rfl, Nat.le_of_ble_eq_true rfl⟩ hcs S.v kd_90 (by decide) (T := TX5) (N := 8) rfl rfl hl.1 rfl (Nat.le_of_ble_eq_true rfl) dX6_occurrence_34) S (fun r6 σ5 H locs h S => ?_)
        refine lv_if_ne (tgt := 43) C.1 C.2.1 dX6_occurrence_37 (by decide) (fun c7 => ?_) (fun c7 => ?_)
        · replace h := h.1 c7
          refine lv_iload_n C.1 C.2.1 dX6_occurrence_43 rfl (lv_at hl 2 rfl) ?_
          rcases (lk_0_1 x2) with c8 | c8 | c8
          · replace h := h.1 c8
            refine lv_lookup (tgt := 90) (off := 46) C.1 C.2.1 dX6_occurrence_44 (by decide) (lkd_0_1 c8) (by decide) ?_
            refine lv_aload_n C.1 C.2.1 dX6_occurrence_90 rfl (lv_at hl 0 rfl) ?_
            refine g_X6_6 C fl_X6_44 kd_0 S fn_0_6 dX6_occurrence_91 ?_
            refine lv_iload_n C.1 C.2.1 dX6_occurrence_94 rfl (lv_at hl 1 rfl) ?_
            refine k_i (r_VN (As := [.int x1]) (rest := []) C hml (c_X5_numberAt l G x1 σ5 _ h) kM_X5_numberAt im_X5_numberAt se_X5_numberAt nm_X6_194 ⟨rfl, rfl⟩ ⟨Nat.le_of_ble_eq_true rfl, Nat.le_of_ble_eq_true rfl⟩ hcs S.v kd_90 (by decide) (T := TX5) (N := 8) rfl rfl hl.1 rfl (Nat.le_of_ble_eq_true rfl) dX6_occurrence_95) S (fun r10 σ9 H locs h S => ?_)
            exact hR _ _ _ _ _ _ dX6_occurrence_98 h S
          · replace h := h.2.1 c8
            refine lv_lookup (tgt := 72) (off := 28) C.1 C.2.1 dX6_occurrence_44 (by decide) (by rw [c8]; decide) (by decide) ?_
            refine lv_aload_n C.1 C.2.1 dX6_occurrence_72 rfl (lv_at hl 0 rfl) ?_
            refine g_X6_6 C fl_X6_44 kd_0 S fn_0_6 dX6_occurrence_73 ?_
            refine lv_iload_n C.1 C.2.1 dX6_occurrence_76 rfl (lv_at hl 1 rfl) ?_
            refine k_i (r_VN (As := [.int x1]) (rest := []) C hml (c_X5_memberAt l G x1 σ5 _ h) kM_X5_memberAt im_X5_memberAt se_X5_memberAt nm_X6_188 ⟨rfl, rfl⟩ ⟨Nat.le_of_ble_eq_true rfl, Nat.le_of_ble_eq_true rfl⟩ hcs S.v kd_90 (by decide) (T := TX5) (N := 8) rfl rfl hl.1 rfl (Nat.le_of_ble_eq_true rfl) dX6_occurrence_77) S (fun r12 σ11 H locs h S => ?_)
            exact hR _ _ _ _ _ _ dX6_occurrence_80 h S
          · replace h := h.2.2 c8
            refine lv_lookup (tgt := 81) (off := 37) C.1 C.2.1 dX6_occurrence_44 (by decide) (by rw [c8]; decide) (by decide) ?_
            refine lv_aload_n C.1 C.2.1 dX6_occurrence_81 rfl (lv_at hl 0 rfl) ?_
            refine g_X6_6 C fl_X6_44 kd_0 S fn_0_6 dX6_occurrence_82 ?_
            refine lv_iload_n C.1 C.2.1 dX6_occurrence_85 rfl (lv_at hl 1 rfl) ?_
            refine k_i (r_VN (As := [.int x1]) (rest := []) C hml (c_X5_startAt l G x1 σ5 _ h) kM_X5_startAt im_X5_startAt se_X5_startAt nm_X6_191 ⟨rfl, rfl⟩ ⟨Nat.le_of_ble_eq_true rfl, Nat.le_of_ble_eq_true rfl⟩ hcs S.v kd_90 (by decide) (T := TX5) (N := 8) rfl rfl hl.1 rfl (Nat.le_of_ble_eq_true rfl) dX6_occurrence_86) S (fun r14 σ13 H locs h S => ?_)
            exact hR _ _ _ _ _ _ dX6_occurrence_89 h S
        · replace h := h.2 c7
          refine lv_bipush (v := (-2 : Int32)) C.1 C.2.1 dX6_occurrence_40 (by decide) ?_
          exact hR _ _ _ _ _ _ dX6_occurrence_42 h S
      · replace h := h.2 c3
        refine lv_iconst (v := (-1 : Int32)) C.1 C.2.1 dX6_occurrence_13 (by decide) ?_
        exact hR _ _ _ _ _ _ dX6_occurrence_14 h S
/-! X4_numberOf -/
abbrev rm_X4_numberOf : Room := { frames := 4, cells := 0, slots := 0, locals := 95 }
def BX4_numberOf_30  (K8 : Int64 → Int32 → Int32 → Sg → Prop) (post : Int64 → Sg → Prop) (x3 : Int64) (x5 : Int32) (x6 : Int32) (σ : Sg) : Prop := wpX5_memberAt x6 σ (fun r2 σ1 => wpX4_countBehind x5 r2 σ1 (fun r4 σ3 => wpX5_memberAt x6 σ3 (fun r6 σ5 => wpX6_withOneMore x5 r6 σ5 (fun r8 σ7 => K8 ((x3 + r4)) r8 ((x6 + 1)) σ7))))
def BX4_numberOf_8  (post : Int64 → Sg → Prop) : Nat → Int64 → Int32 → Int32 → Sg → Prop
  | 0, _, _, _, _ => False
  | n + 1, x3, x5, x6, σ => ((((σ.1 90 6) ≤ x6) → post x3 σ) ∧ ((¬ (σ.1 90 6) ≤ x6) → wpX1_isEnough 5 x5 σ (fun r11 σ10 => (((r11 = 0) → BX4_numberOf_30 (BX4_numberOf_8 post n) post x3 x5 x6 σ10) ∧ ((¬ r11 = 0) → BX4_numberOf_30 (BX4_numberOf_8 post n) post ((x3 + (1 : Int64))) x5 x6 σ10)))))
def wpX4_numberOf  (σ : Sg) (post : Int64 → Sg → Prop) : Prop := ∃ nf, BX4_numberOf_8 post nf ((0 : Int64)) ((0 : Int32)) ((0 : Int32)) σ
set_option maxHeartbeats 4000000 in
set_option maxRecDepth 100000 in
theorem TX4_numberOf_30 (C : s_C G p s args m c RX4 cX4_numberOf) (hml : c.maxLocals = 7) (hcs : cells ≤ (rm_X4_numberOf).cells ∧ slots ≤ (rm_X4_numberOf).slots)  {K8 : Int64 → Int32 → Int32 → Sg → Prop} {post : Int64 → Sg → Prop} (hR : ∀ (r : Int64) (σ1 : Sg) (H : Heap) (locs : List Loc) (pc : Nat) (ls : Array Slot), decode cX4_numberOf pc = .ok (.lreturn, 1) → post r σ1 → s_St G σ1 H0 H locs → W p l e rm_X4_numberOf s m args below meth c H locs cells slots Q (F0 m pc ls [.long r])) (hK8 : ∀ (x3 : Int64) (x5 : Int32) (x6 : Int32), ∀ (σ : Sg) (H : Heap) (locs : List Loc) (ls : Array Slot), s_St G σ H0 H locs → lv_has ls 7 [(0, .ref (G.2.2 + 97)), (1, .ref (G.2.2 + 5)), (2, .ref (G.2.2 + 90)), (3, .long x3), (5, .int x5), (6, .int x6)] → K8 x3 x5 x6 σ → W p l e rm_X4_numberOf s m args below meth c H locs cells slots Q (F0 m 8 ls [])) : ∀ (x3 : Int64) (x5 : Int32) (x6 : Int32), ∀ {σ : Sg} {H : Heap} {locs : List Loc} {ls : Array Slot}, s_St G σ H0 H locs → lv_has ls 7 [(0, .ref (G.2.2 + 97)), (1, .ref (G.2.2 + 5)), (2, .ref (G.2.2 + 90)), (3, .long x3), (5, .int x5), (6, .int x6)] → BX4_numberOf_30 K8 post x3 x5 x6 σ → W p l e rm_X4_numberOf s m args below meth c H locs cells slots Q (F0 m 30 ls []) := by
  intro x3 x5 x6  σ H locs ls S hl h
  unfold BX4_numberOf_30 at h
  refine lv_lload_n C.1 C.2.1 dX4_numberOf_30 rfl (lv_at hl 3 rfl) ?_
  refine lv_aload_n C.1 C.2.1 dX4_numberOf_31 rfl (lv_at hl 0 rfl) ?_
  refine lv_iload C.1 C.2.1 dX4_numberOf_32 (lv_at hl 4 rfl) ?_
  refine lv_aload_n C.1 C.2.1 dX4_numberOf_34 rfl (lv_at hl 2 rfl) ?_
  refine lv_iload C.1 C.2.1 dX4_numberOf_35 (lv_at hl 5 rfl) ?_
  refine k_i (r_VN (As := [.int x6]) (rest := [.int x5, .ref (G.2.2 + 97), .long x3]) C hml (c_X5_memberAt l G x6 σ _ h) kM_X5_memberAt im_X5_memberAt se_X5_memberAt nm_X4_66 ⟨rfl, rfl⟩ ⟨Nat.le_of_ble_eq_true rfl, Nat.le_of_ble_eq_true rfl⟩ hcs S.v kd_90 (by decide) (T := TX5) (N := 8) rfl rfl hl.1 rfl (Nat.le_of_ble_eq_true rfl) dX4_numberOf_37) S (fun r2 σ1 H locs h S => ?_)
  refine lv_aload_n C.1 C.2.1 dX4_numberOf_40 rfl (lv_at hl 1 rfl) ?_
  refine k_l (r_V (As := [.int x5, .int r2, .ref (G.2.2 + 5)]) (rest := [.long x3]) C hml (c_X4_countBehind l G x5 r2 σ1 _ h) kM_X4_countBehind im_X4_countBehind se_X4_countBehind ml_X4_42 ⟨rfl, rfl⟩ ⟨Nat.le_of_ble_eq_true rfl, Nat.le_of_ble_eq_true rfl⟩ hcs S.v kd_97 (by decide) (T := TX4) (N := 2) rfl rfl hl.1 rfl (Nat.le_of_ble_eq_true rfl) dX4_numberOf_41) S (fun r4 σ3 H locs h S => ?_)
  refine lv_ladd C.1 C.2.1 dX4_numberOf_44 ?_
  refine lv_lstore_n (lv' := [(3, .long (x3 + r4)), (0, .ref (G.2.2 + 97)), (1, .ref (G.2.2 + 5)), (2, .ref (G.2.2 + 90)), (5, .int x5), (6, .int x6)]) C.1 C.2.1 dX4_numberOf_45 rfl hl (by decide) rfl (fun ls hl => ?_)
  refine lv_iload C.1 C.2.1 dX4_numberOf_46 (lv_at hl 4 rfl) ?_
  refine lv_aload_n C.1 C.2.1 dX4_numberOf_48 rfl (lv_at hl 3 rfl) ?_
  refine lv_iload C.1 C.2.1 dX4_numberOf_49 (lv_at hl 5 rfl) ?_
  refine k_i (r_VN (As := [.int x6]) (rest := [.int x5]) C hml (c_X5_memberAt l G x6 σ3 _ h) kM_X5_memberAt im_X5_memberAt se_X5_memberAt nm_X4_66 ⟨rfl, rfl⟩ ⟨Nat.le_of_ble_eq_true rfl, Nat.le_of_ble_eq_true rfl⟩ hcs S.v kd_90 (by decide) (T := TX5) (N := 8) rfl rfl hl.1 rfl (Nat.le_of_ble_eq_true rfl) dX4_numberOf_51) S (fun r6 σ5 H locs h S => ?_)
  refine k_i (r_SN (As := [.int x5, .int r6]) (rest := []) C hml (c_X6_withOneMore l G x5 r6 σ5 _ h) kM_X6_withOneMore st_X6_withOneMore nm_X4_52 ⟨rfl, rfl⟩ ⟨Nat.le_of_ble_eq_true rfl, Nat.le_of_ble_eq_true rfl⟩ hcs S.v rfl hl.1 rfl (Nat.le_of_ble_eq_true rfl) dX4_numberOf_54) S (fun r8 σ7 H locs h S => ?_)
  refine lv_istore (lv' := [(5, .int r8), (3, .long (x3 + r4)), (0, .ref (G.2.2 + 97)), (1, .ref (G.2.2 + 5)), (2, .ref (G.2.2 + 90)), (6, .int x6)]) C.1 C.2.1 dX4_numberOf_57 hl (by decide) rfl (fun ls hl => ?_)
  refine lv_iinc (v := (x6 + 1)) (lv' := [(6, .int (x6 + 1)), (5, .int r8), (3, .long (x3 + r4)), (0, .ref (G.2.2 + 97)), (1, .ref (G.2.2 + 5)), (2, .ref (G.2.2 + 90))]) C.1 C.2.1 dX4_numberOf_59 hl (k := 5) rfl rfl (by decide) rfl (fun ls hl => ?_)
  refine lv_goto (tgt := 8) C.1 C.2.1 dX4_numberOf_62 (by decide) ?_
  exact hK8 ((x3 + r4)) r8 ((x6 + 1)) _ _ _ _ S (lv_sub hl [3, 4, 5, 2, 1, 0] rfl) h
set_option maxHeartbeats 4000000 in
set_option maxRecDepth 100000 in
theorem TX4_numberOf_8 (C : s_C G p s args m c RX4 cX4_numberOf) (hml : c.maxLocals = 7) (hcs : cells ≤ (rm_X4_numberOf).cells ∧ slots ≤ (rm_X4_numberOf).slots)  {post : Int64 → Sg → Prop} (hR : ∀ (r : Int64) (σ1 : Sg) (H : Heap) (locs : List Loc) (pc : Nat) (ls : Array Slot), decode cX4_numberOf pc = .ok (.lreturn, 1) → post r σ1 → s_St G σ1 H0 H locs → W p l e rm_X4_numberOf s m args below meth c H locs cells slots Q (F0 m pc ls [.long r])) : ∀ (n : Nat) (x3 : Int64) (x5 : Int32) (x6 : Int32), ∀ {σ : Sg} {H : Heap} {locs : List Loc} {ls : Array Slot}, s_St G σ H0 H locs → lv_has ls 7 [(0, .ref (G.2.2 + 97)), (1, .ref (G.2.2 + 5)), (2, .ref (G.2.2 + 90)), (3, .long x3), (5, .int x5), (6, .int x6)] → BX4_numberOf_8 post n x3 x5 x6 σ → W p l e rm_X4_numberOf s m args below meth c H locs cells slots Q (F0 m 8 ls []) := by
  intro n
  induction n with
  | zero =>
    intro x3 x5 x6  σ H locs ls S hl h
    exact absurd h (fun h => h)
  | succ n ih0 =>
    have ih : ∀ (x3 : Int64) (x5 : Int32) (x6 : Int32), ∀ (σ : Sg) (H : Heap) (locs : List Loc) (ls : Array Slot), s_St G σ H0 H locs → lv_has ls 7 [(0, .ref (G.2.2 + 97)), (1, .ref (G.2.2 + 5)), (2, .ref (G.2.2 + 90)), (3, .long x3), (5, .int x5), (6, .int x6)] → BX4_numberOf_8 post n x3 x5 x6 σ → W p l e rm_X4_numberOf s m args below meth c H locs cells slots Q (F0 m 8 ls []) := fun x3 x5 x6  _ _ _ _ => ih0 x3 x5 x6 
    intro x3 x5 x6  σ H locs ls S hl h
    refine lv_iload C.1 C.2.1 dX4_numberOf_8 (lv_at hl 5 rfl) ?_
    refine lv_aload_n C.1 C.2.1 dX4_numberOf_10 rfl (lv_at hl 2 rfl) ?_
    refine gn_X5_6 C nf_X4_63 kd_90 S dX4_numberOf_11 ?_
    refine lv_icmp_ge (tgt := 65) C.1 C.2.1 dX4_numberOf_14 (by decide) (fun c9 => ?_) (fun c9 => ?_)
    · replace h := h.1 c9
      refine lv_lload_n C.1 C.2.1 dX4_numberOf_65 rfl (lv_at hl 3 rfl) ?_
      exact hR _ _ _ _ _ _ dX4_numberOf_66 h S
    · replace h := h.2 c9
      refine lv_aload_n C.1 C.2.1 dX4_numberOf_17 rfl (lv_at hl 1 rfl) ?_
      refine lv_iload C.1 C.2.1 dX4_numberOf_18 (lv_at hl 4 rfl) ?_
      refine k_i (r_VN (As := [.int x5]) (rest := []) C hml (c_X1_isEnough l G 5 x5 σ _ kd_5 h) kM_X1_isEnough im_X1_isEnough se_X1_isEnough nm_X4_35 ⟨rfl, rfl⟩ ⟨Nat.le_of_ble_eq_true rfl, Nat.le_of_ble_eq_true rfl⟩ hcs S.v kd_5 (by decide) (T := TX1) (N := 4) rfl rfl hl.1 rfl (Nat.le_of_ble_eq_true rfl) dX4_numberOf_20) S (fun r11 σ10 H locs h S => ?_)
      refine lv_if_eq (tgt := 30) C.1 C.2.1 dX4_numberOf_23 (by decide) (fun c12 => ?_) (fun c12 => ?_)
      · replace h := h.1 c12
        exact TX4_numberOf_30 C hml hcs hR ih x3 x5 x6 S (lv_sub hl [0, 1, 2, 3, 4, 5] rfl) h
      · replace h := h.2 c12
        refine lv_lload_n C.1 C.2.1 dX4_numberOf_26 rfl (lv_at hl 3 rfl) ?_
        refine lv_lconst (v := (1 : Int64)) C.1 C.2.1 dX4_numberOf_27 (by decide) ?_
        refine lv_ladd C.1 C.2.1 dX4_numberOf_28 ?_
        refine lv_lstore_n (lv' := [(3, .long (x3 + (1 : Int64))), (0, .ref (G.2.2 + 97)), (1, .ref (G.2.2 + 5)), (2, .ref (G.2.2 + 90)), (5, .int x5), (6, .int x6)]) C.1 C.2.1 dX4_numberOf_29 rfl hl (by decide) rfl (fun ls hl => ?_)
        exact TX4_numberOf_30 C hml hcs hR ih ((x3 + (1 : Int64))) x5 x6 S (lv_sub hl [1, 2, 3, 0, 4, 5] rfl) h
theorem kM_X4_numberOf : s_M yX4_numberOf cX4_numberOf 7 (some .long) 2 := ⟨co_X4_numberOf, in_X4, by decide, by decide, by decide +kernel⟩
set_option maxHeartbeats 4000000 in
set_option maxRecDepth 100000 in
theorem c_X4_numberOf (l : Launch) (G : s_G)  (σ : Sg) (post : Int64 → Sg → Prop) (h : wpX4_numberOf σ post) : Met l yX4_numberOf (wsU yX4_numberOf cX4_numberOf 7 (some .long)) rm_X4_numberOf (va_Pc [.ref (G.2.2 + 97), .ref (G.2.2 + 5), .ref (G.2.2 + 90)] (s_Pre G σ)) (va_Ql post (s_B G) (s_A G.2.2)) 0 0 (s_A G.2.2) := by
  refine Met.ofW (cc := cX4_numberOf) (maxL := 7) (ret := (some .long)) (by decide) rfl ?_
  intro p e s m args below meth c s₁ B hml hv
  obtain ⟨rfl, hP, hrok, hK, hN⟩ := hv
  have C : s_C G p s (([.ref (G.2.2 + 97), .ref (G.2.2 + 5), .ref (G.2.2 + 90)] : List Value).toArray) m c RX4 cX4_numberOf := ⟨B.exec, B.bytes, findClass_of_methodNamed B.named, fun w hw => atoms_spec (ws := wsU yX4_numberOf cX4_numberOf 7 (some .long)) B.pre w (List.mem_cons_of_mem _ hw), hK, hN⟩
  have hr := B.returns
  have hlocks := B.notSynchronized
  have S : s_St G σ s.heap s.heap [] := ⟨hP, va_S.rf, hrok⟩
  have hcs : 0 ≤ (rm_X4_numberOf).cells ∧ 0 ≤ (rm_X4_numberOf).slots := ⟨Nat.le_refl 0, Nat.le_refl 0⟩
  have hR : ∀ (r : Int64) (σ1 : Sg) (H : Heap) (locs : List Loc) (pc : Nat) (ls : Array Slot), decode cX4_numberOf pc = .ok (.lreturn, 1) → post r σ1 → s_St G σ1 s.heap H locs → W p l e rm_X4_numberOf s m ([.ref (G.2.2 + 97), .ref (G.2.2 + 5), .ref (G.2.2 + 90)] : List Value).toArray below meth c H locs 0 0 (MQ below (va_Ql post (s_B G) (s_A G.2.2)) ([.ref (G.2.2 + 97), .ref (G.2.2 + 5), .ref (G.2.2 + 90)] : List Value).toArray s 0 0 (s_A G.2.2)) (F0 m pc ls [.long r]) := fun _ _ _ _ _ _ hd hp S => ret_l C hr hlocks hd hp S
  have hl := lv_entry ([.ref (G.2.2 + 97), .ref (G.2.2 + 5), .ref (G.2.2 + 90)]) (n := 7) (Nat.le_of_ble_eq_true rfl)
  rw [lg_entry_eq]
  generalize (lg_sl ([.ref (G.2.2 + 97), .ref (G.2.2 + 5), .ref (G.2.2 + 90)]) ++ List.replicate (7 - (lg_sl ([.ref (G.2.2 + 97), .ref (G.2.2 + 5), .ref (G.2.2 + 90)])).length) Slot.unset).toArray = ls at hl ⊢
  have hl : lv_has ls 7 [(0, .ref (G.2.2 + 97)), (1, .ref (G.2.2 + 5)), (2, .ref (G.2.2 + 90))] := hl
  unfold wpX4_numberOf at h
  refine lv_lconst (v := (0 : Int64)) C.1 C.2.1 dX4_numberOf_0 (by decide) ?_
  refine lv_lstore_n (lv' := [(3, .long (0 : Int64)), (0, .ref (G.2.2 + 97)), (1, .ref (G.2.2 + 5)), (2, .ref (G.2.2 + 90))]) C.1 C.2.1 dX4_numberOf_1 rfl hl (by decide) rfl (fun ls hl => ?_)
  refine lv_iconst (v := (0 : Int32)) C.1 C.2.1 dX4_numberOf_2 (by decide) ?_
  refine lv_istore (lv' := [(5, .int (0 : Int32)), (3, .long (0 : Int64)), (0, .ref (G.2.2 + 97)), (1, .ref (G.2.2 + 5)), (2, .ref (G.2.2 + 90))]) C.1 C.2.1 dX4_numberOf_3 hl (by decide) rfl (fun ls hl => ?_)
  refine lv_iconst (v := (0 : Int32)) C.1 C.2.1 dX4_numberOf_5 (by decide) ?_
  refine lv_istore (lv' := [(6, .int (0 : Int32)), (5, .int (0 : Int32)), (3, .long (0 : Int64)), (0, .ref (G.2.2 + 97)), (1, .ref (G.2.2 + 5)), (2, .ref (G.2.2 + 90))]) C.1 C.2.1 dX4_numberOf_6 hl (by decide) rfl (fun ls hl => ?_)
  obtain ⟨nf, h⟩ := h
  exact TX4_numberOf_8 C hml hcs hR nf ((0 : Int64)) ((0 : Int32)) ((0 : Int32)) S (lv_sub hl [3, 4, 5, 2, 1, 0] rfl) h
/-! X6_rank -/
abbrev rm_X6_rank : Room := { frames := 6, cells := 0, slots := 0, locals := 144 }
def wpX6_rank  (σ : Sg) (post : Int64 → Sg → Prop) : Prop := wpX5_learn σ (fun σ1 => wpX5_exists σ1 (fun r3 σ2 => (((¬ r3 = 0) → wpX4_learn ((-1 : Int32)) σ2 (fun σ5 => wpX4_numberOf σ5 (fun r7 σ6 => post r7 σ6))) ∧ ((r3 = 0) → post ((-2 : Int64)) σ2))))
theorem kM_X6_rank : s_M yX6_rank cX6_rank 1 (some .long) 0 := ⟨co_X6_rank, in_X6, by decide, by decide, by decide +kernel⟩
set_option maxHeartbeats 4000000 in
set_option maxRecDepth 100000 in
theorem c_X6_rank (l : Launch) (G : s_G)  (σ : Sg) (post : Int64 → Sg → Prop) (h : wpX6_rank σ post) : Met l yX6_rank (wsU yX6_rank cX6_rank 1 (some .long)) rm_X6_rank (va_Pc [.ref (G.2.2 + 0)] (s_Pre G σ)) (va_Ql post (s_B G) (s_A G.2.2)) 0 0 (s_A G.2.2) := by
  refine Met.ofW (cc := cX6_rank) (maxL := 1) (ret := (some .long)) (by decide) rfl ?_
  intro p e s m args below meth c s₁ B hml hv
  obtain ⟨rfl, hP, hrok, hK, hN⟩ := hv
  have C : s_C G p s (([.ref (G.2.2 + 0)] : List Value).toArray) m c RX6 cX6_rank := ⟨B.exec, B.bytes, findClass_of_methodNamed B.named, fun w hw => atoms_spec (ws := wsU yX6_rank cX6_rank 1 (some .long)) B.pre w (List.mem_cons_of_mem _ hw), hK, hN⟩
  have hr := B.returns
  have hlocks := B.notSynchronized
  have S : s_St G σ s.heap s.heap [] := ⟨hP, va_S.rf, hrok⟩
  have hcs : 0 ≤ (rm_X6_rank).cells ∧ 0 ≤ (rm_X6_rank).slots := ⟨Nat.le_refl 0, Nat.le_refl 0⟩
  have hR : ∀ (r : Int64) (σ1 : Sg) (H : Heap) (locs : List Loc) (pc : Nat) (ls : Array Slot), decode cX6_rank pc = .ok (.lreturn, 1) → post r σ1 → s_St G σ1 s.heap H locs → W p l e rm_X6_rank s m ([.ref (G.2.2 + 0)] : List Value).toArray below meth c H locs 0 0 (MQ below (va_Ql post (s_B G) (s_A G.2.2)) ([.ref (G.2.2 + 0)] : List Value).toArray s 0 0 (s_A G.2.2)) (F0 m pc ls [.long r]) := fun _ _ _ _ _ _ hd hp S => ret_l C hr hlocks hd hp S
  have hl := lv_entry ([.ref (G.2.2 + 0)]) (n := 1) (Nat.le_of_ble_eq_true rfl)
  rw [lg_entry_eq]
  generalize (lg_sl ([.ref (G.2.2 + 0)]) ++ List.replicate (1 - (lg_sl ([.ref (G.2.2 + 0)])).length) Slot.unset).toArray = ls at hl ⊢
  have hl : lv_has ls 1 [(0, .ref (G.2.2 + 0))] := hl
  unfold wpX6_rank at h
  refine lv_aload_n C.1 C.2.1 dX6_rank_0 rfl (lv_at hl 0 rfl) ?_
  refine g_X6_6 C fl_X6_44 kd_0 S fn_0_6 dX6_rank_1 ?_
  refine lv_aload_n C.1 C.2.1 dX6_rank_4 rfl (lv_at hl 0 rfl) ?_
  refine g_X6_2 C fl_X6_22 kd_0 S fn_0_2 dX6_rank_5 ?_
  refine lv_aload_n C.1 C.2.1 dX6_rank_8 rfl (lv_at hl 0 rfl) ?_
  refine g_X6_0 C fl_X6_10 kd_0 S fn_0_0 dX6_rank_9 ?_
  refine k_v (r_VN (As := [.ref (G.2.2 + 5), .ref (G.2.2 + 1)]) (rest := []) C hml (c_X5_learn l G σ _ h) kM_X5_learn im_X5_learn se_X5_learn nm_X6_164 ⟨rfl, rfl⟩ ⟨Nat.le_of_ble_eq_true rfl, Nat.le_of_ble_eq_true rfl⟩ hcs S.v kd_90 (by decide) (T := TX5) (N := 8) rfl rfl hl.1 rfl (Nat.le_of_ble_eq_true rfl) dX6_rank_12) S (fun σ1 H locs h S => ?_)
  refine lv_aload_n C.1 C.2.1 dX6_rank_15 rfl (lv_at hl 0 rfl) ?_
  refine g_X6_6 C fl_X6_44 kd_0 S fn_0_6 dX6_rank_16 ?_
  refine k_i (r_VN (As := []) (rest := []) C hml (c_X5_exists l G σ1 _ h) kM_X5_exists im_X5_exists se_X5_exists nm_X6_168 ⟨rfl, rfl⟩ ⟨Nat.le_of_ble_eq_true rfl, Nat.le_of_ble_eq_true rfl⟩ hcs S.v kd_90 (by decide) (T := TX5) (N := 8) rfl rfl hl.1 rfl (Nat.le_of_ble_eq_true rfl) dX6_rank_19) S (fun r3 σ2 H locs h S => ?_)
  refine lv_if_ne (tgt := 29) C.1 C.2.1 dX6_rank_22 (by decide) (fun c4 => ?_) (fun c4 => ?_)
  · replace h := h.1 c4
    refine lv_aload_n C.1 C.2.1 dX6_rank_29 rfl (lv_at hl 0 rfl) ?_
    refine g_X6_7 C fl_X6_51 kd_0 S fn_0_7 dX6_rank_30 ?_
    refine lv_aload_n C.1 C.2.1 dX6_rank_33 rfl (lv_at hl 0 rfl) ?_
    refine g_X6_2 C fl_X6_22 kd_0 S fn_0_2 dX6_rank_34 ?_
    refine lv_iconst (v := (-1 : Int32)) C.1 C.2.1 dX6_rank_37 (by decide) ?_
    refine k_v (r_VN (As := [.ref (G.2.2 + 5), .int (-1 : Int32)]) (rest := []) C hml (c_X4_learn l G ((-1 : Int32)) σ2 _ h) kM_X4_learn im_X4_learn se_X4_learn nm_X6_215 ⟨rfl, rfl⟩ ⟨Nat.le_of_ble_eq_true rfl, Nat.le_of_ble_eq_true rfl⟩ hcs S.v kd_97 (by decide) (T := TX4) (N := 2) rfl rfl hl.1 rfl (Nat.le_of_ble_eq_true rfl) dX6_rank_38) S (fun σ5 H locs h S => ?_)
    refine lv_aload_n C.1 C.2.1 dX6_rank_41 rfl (lv_at hl 0 rfl) ?_
    refine g_X6_7 C fl_X6_51 kd_0 S fn_0_7 dX6_rank_42 ?_
    refine lv_aload_n C.1 C.2.1 dX6_rank_45 rfl (lv_at hl 0 rfl) ?_
    refine g_X6_2 C fl_X6_22 kd_0 S fn_0_2 dX6_rank_46 ?_
    refine lv_aload_n C.1 C.2.1 dX6_rank_49 rfl (lv_at hl 0 rfl) ?_
    refine g_X6_6 C fl_X6_44 kd_0 S fn_0_6 dX6_rank_50 ?_
    refine k_l (r_VN (As := [.ref (G.2.2 + 5), .ref (G.2.2 + 90)]) (rest := []) C hml (c_X4_numberOf l G σ5 _ h) kM_X4_numberOf im_X4_numberOf se_X4_numberOf nm_X6_227 ⟨rfl, rfl⟩ ⟨Nat.le_of_ble_eq_true rfl, Nat.le_of_ble_eq_true rfl⟩ hcs S.v kd_97 (by decide) (T := TX4) (N := 2) rfl rfl hl.1 rfl (Nat.le_of_ble_eq_true rfl) dX6_rank_53) S (fun r7 σ6 H locs h S => ?_)
    exact hR _ _ _ _ _ _ dX6_rank_56 h S
  · replace h := h.2 c4
    refine lv_ldc2 (v := (-2 : Int64)) C.1 C.2.1 C.2.2.1 (C.2.2.2.1 _ cl_X6_225) dX6_rank_25 ?_
    exact hR _ _ _ _ _ _ dX6_rank_28 h S
/-! X6_value -/
abbrev rm_X6_value : Room := { frames := 6, cells := 0, slots := 0, locals := 144 }
def BX6_value_50 (x1 : Int32) (x2 : Int32) (post : Int32 → Sg → Prop) : Nat → Int32 → Int32 → Sg → Prop
  | 0, _, _, _ => False
  | n + 1, x3, x4, σ => ((((σ.1 90 6) ≤ x4) → (((¬ x3 = 0) → post ((-9 : Int32)) σ) ∧ ((x3 = 0) → (((¬ x2 = 0) → post ((-9 : Int32)) σ) ∧ ((x2 = 0) → wpX1_at 5 x1 σ (fun q5 σ4 => s_kd q5 = 3 → post ((σ4.1 q5 4)) σ4)))))) ∧ ((¬ (σ.1 90 6) ≤ x4) → wpX5_memberAt x4 σ (fun r7 σ6 => (((¬ r7 = x1) → BX6_value_50 x1 x2 post n x3 ((x4 + 1)) σ6) ∧ ((r7 = x1) → (((¬ x3 = x2) → BX6_value_50 x1 x2 post n ((x3 + 1)) ((x4 + 1)) σ6) ∧ ((x3 = x2) → wpX5_numberAt x4 σ6 (fun r11 σ10 => post r11 σ10))))))))
def wpX6_value (x1 : Int32) (x2 : Int32) (σ : Sg) (post : Int32 → Sg → Prop) : Prop := wpX1_has 5 x1 σ (fun r13 σ12 => (((r13 = 0) → post ((-1 : Int32)) σ12) ∧ ((¬ r13 = 0) → (((0 ≤ x2) → wpX5_learn σ12 (fun σ16 => wpX5_exists σ16 (fun r18 σ17 => (((¬ r18 = 0) → ∃ nf, BX6_value_50 x1 x2 post nf ((0 : Int32)) ((0 : Int32)) σ17) ∧ ((r18 = 0) → post ((-2 : Int32)) σ17))))) ∧ ((¬ 0 ≤ x2) → post ((-1 : Int32)) σ12)))))
set_option maxHeartbeats 4000000 in
set_option maxRecDepth 100000 in
theorem TX6_value_50 (C : s_C G p s args m c RX6 cX6_value) (hml : c.maxLocals = 5) (hcs : cells ≤ (rm_X6_value).cells ∧ slots ≤ (rm_X6_value).slots) {x1 : Int32} {x2 : Int32} {post : Int32 → Sg → Prop} (hR : ∀ (r : Int32) (σ1 : Sg) (H : Heap) (locs : List Loc) (pc : Nat) (ls : Array Slot), decode cX6_value pc = .ok (.ireturn, 1) → post r σ1 → s_St G σ1 H0 H locs → W p l e rm_X6_value s m args below meth c H locs cells slots Q (F0 m pc ls [.int r])) : ∀ (n : Nat) (x3 : Int32) (x4 : Int32), ∀ {σ : Sg} {H : Heap} {locs : List Loc} {ls : Array Slot}, s_St G σ H0 H locs → lv_has ls 5 [(0, .ref (G.2.2 + 0)), (1, .int x1), (2, .int x2), (3, .int x3), (4, .int x4)] → BX6_value_50 x1 x2 post n x3 x4 σ → W p l e rm_X6_value s m args below meth c H locs cells slots Q (F0 m 50 ls []) := by
  intro n
  induction n with
  | zero =>
    intro x3 x4  σ H locs ls S hl h
    exact absurd h (fun h => h)
  | succ n ih0 =>
    have ih : ∀ (x3 : Int32) (x4 : Int32), ∀ (σ : Sg) (H : Heap) (locs : List Loc) (ls : Array Slot), s_St G σ H0 H locs → lv_has ls 5 [(0, .ref (G.2.2 + 0)), (1, .int x1), (2, .int x2), (3, .int x3), (4, .int x4)] → BX6_value_50 x1 x2 post n x3 x4 σ → W p l e rm_X6_value s m args below meth c H locs cells slots Q (F0 m 50 ls []) := fun x3 x4  _ _ _ _ => ih0 x3 x4 
    intro x3 x4  σ H locs ls S hl h
    refine lv_iload C.1 C.2.1 dX6_value_50 (lv_at hl 4 rfl) ?_
    refine lv_aload_n C.1 C.2.1 dX6_value_52 rfl (lv_at hl 0 rfl) ?_
    refine g_X6_6 C fl_X6_44 kd_0 S fn_0_6 dX6_value_53 ?_
    refine gn_X5_6 C nf_X6_197 kd_90 S dX6_value_56 ?_
    refine lv_icmp_ge (tgt := 99) C.1 C.2.1 dX6_value_59 (by decide) (fun c1 => ?_) (fun c1 => ?_)
    · replace h := h.1 c1
      refine lv_iload_n C.1 C.2.1 dX6_value_99 rfl (lv_at hl 3 rfl) ?_
      refine lv_if_ne (tgt := 121) C.1 C.2.1 dX6_value_100 (by decide) (fun c2 => ?_) (fun c2 => ?_)
      · replace h := h.1 c2
        refine lv_bipush (v := (-9 : Int32)) C.1 C.2.1 dX6_value_121 (by decide) ?_
        exact hR _ _ _ _ _ _ dX6_value_123 h S
      · replace h := h.2 c2
        refine lv_iload_n C.1 C.2.1 dX6_value_103 rfl (lv_at hl 2 rfl) ?_
        refine lv_if_ne (tgt := 121) C.1 C.2.1 dX6_value_104 (by decide) (fun c3 => ?_) (fun c3 => ?_)
        · replace h := h.1 c3
          refine lv_bipush (v := (-9 : Int32)) C.1 C.2.1 dX6_value_121 (by decide) ?_
          exact hR _ _ _ _ _ _ dX6_value_123 h S
        · replace h := h.2 c3
          refine lv_aload_n C.1 C.2.1 dX6_value_107 rfl (lv_at hl 0 rfl) ?_
          refine g_X6_2 C fl_X6_22 kd_0 S fn_0_2 dX6_value_108 ?_
          refine lv_iload_n C.1 C.2.1 dX6_value_111 rfl (lv_at hl 1 rfl) ?_
          refine k_r (kd := 3) (r_VN (As := [.int x1]) (rest := []) C hml (c_X1_at l G 5 x1 σ _ kd_5 h) kM_X1_at im_X1_at se_X1_at nm_X6_96 ⟨rfl, rfl⟩ ⟨Nat.le_of_ble_eq_true rfl, Nat.le_of_ble_eq_true rfl⟩ hcs S.v kd_5 (by decide) (T := TX1) (N := 4) rfl rfl hl.1 rfl (Nat.le_of_ble_eq_true rfl) dX6_value_112) S (fun q5 σ4 H locs hq5 h S => ?_)
          replace h := h hq5
          refine gn_X3_4 C nf_X6_198 hq5 S dX6_value_115 ?_
          refine lv_goto (tgt := 123) C.1 C.2.1 dX6_value_118 (by decide) ?_
          exact hR _ _ _ _ _ _ dX6_value_123 h S
    · replace h := h.2 c1
      refine lv_aload_n C.1 C.2.1 dX6_value_62 rfl (lv_at hl 0 rfl) ?_
      refine g_X6_6 C fl_X6_44 kd_0 S fn_0_6 dX6_value_63 ?_
      refine lv_iload C.1 C.2.1 dX6_value_66 (lv_at hl 4 rfl) ?_
      refine k_i (r_VN (As := [.int x4]) (rest := []) C hml (c_X5_memberAt l G x4 σ _ h) kM_X5_memberAt im_X5_memberAt se_X5_memberAt nm_X6_188 ⟨rfl, rfl⟩ ⟨Nat.le_of_ble_eq_true rfl, Nat.le_of_ble_eq_true rfl⟩ hcs S.v kd_90 (by decide) (T := TX5) (N := 8) rfl rfl hl.1 rfl (Nat.le_of_ble_eq_true rfl) dX6_value_68) S (fun r7 σ6 H locs h S => ?_)
      refine lv_iload_n C.1 C.2.1 dX6_value_71 rfl (lv_at hl 1 rfl) ?_
      refine lv_icmp_ne (tgt := 93) C.1 C.2.1 dX6_value_72 (by decide) (fun c8 => ?_) (fun c8 => ?_)
      · replace h := h.1 c8
        refine lv_iinc (v := (x4 + 1)) (lv' := [(4, .int (x4 + 1)), (0, .ref (G.2.2 + 0)), (1, .int x1), (2, .int x2), (3, .int x3)]) C.1 C.2.1 dX6_value_93 hl (k := 4) rfl rfl (by decide) rfl (fun ls hl => ?_)
        refine lv_goto (tgt := 50) C.1 C.2.1 dX6_value_96 (by decide) ?_
        exact ih x3 ((x4 + 1)) _ _ _ _ S (lv_sub hl [1, 2, 3, 4, 0] rfl) h
      · replace h := h.2 c8
        refine lv_iload_n C.1 C.2.1 dX6_value_75 rfl (lv_at hl 3 rfl) ?_
        refine lv_iload_n C.1 C.2.1 dX6_value_76 rfl (lv_at hl 2 rfl) ?_
        refine lv_icmp_ne (tgt := 90) C.1 C.2.1 dX6_value_77 (by decide) (fun c9 => ?_) (fun c9 => ?_)
        · replace h := h.1 c9
          refine lv_iinc (v := (x3 + 1)) (lv' := [(3, .int (x3 + 1)), (0, .ref (G.2.2 + 0)), (1, .int x1), (2, .int x2), (4, .int x4)]) C.1 C.2.1 dX6_value_90 hl (k := 3) rfl rfl (by decide) rfl (fun ls hl => ?_)
          refine lv_iinc (v := (x4 + 1)) (lv' := [(4, .int (x4 + 1)), (3, .int (x3 + 1)), (0, .ref (G.2.2 + 0)), (1, .int x1), (2, .int x2)]) C.1 C.2.1 dX6_value_93 hl (k := 4) rfl rfl (by decide) rfl (fun ls hl => ?_)
          refine lv_goto (tgt := 50) C.1 C.2.1 dX6_value_96 (by decide) ?_
          exact ih ((x3 + 1)) ((x4 + 1)) _ _ _ _ S (lv_sub hl [2, 3, 4, 1, 0] rfl) h
        · replace h := h.2 c9
          refine lv_aload_n C.1 C.2.1 dX6_value_80 rfl (lv_at hl 0 rfl) ?_
          refine g_X6_6 C fl_X6_44 kd_0 S fn_0_6 dX6_value_81 ?_
          refine lv_iload C.1 C.2.1 dX6_value_84 (lv_at hl 4 rfl) ?_
          refine k_i (r_VN (As := [.int x4]) (rest := []) C hml (c_X5_numberAt l G x4 σ6 _ h) kM_X5_numberAt im_X5_numberAt se_X5_numberAt nm_X6_194 ⟨rfl, rfl⟩ ⟨Nat.le_of_ble_eq_true rfl, Nat.le_of_ble_eq_true rfl⟩ hcs S.v kd_90 (by decide) (T := TX5) (N := 8) rfl rfl hl.1 rfl (Nat.le_of_ble_eq_true rfl) dX6_value_86) S (fun r11 σ10 H locs h S => ?_)
          exact hR _ _ _ _ _ _ dX6_value_89 h S
theorem kM_X6_value : s_M yX6_value cX6_value 5 (some .int) 2 := ⟨co_X6_value, in_X6, by decide, by decide, by decide +kernel⟩
set_option maxHeartbeats 4000000 in
set_option maxRecDepth 100000 in
theorem c_X6_value (l : Launch) (G : s_G) (x1 : Int32) (x2 : Int32) (σ : Sg) (post : Int32 → Sg → Prop) (h : wpX6_value x1 x2 σ post) : Met l yX6_value (wsU yX6_value cX6_value 5 (some .int)) rm_X6_value (va_Pc [.ref (G.2.2 + 0), .int x1, .int x2] (s_Pre G σ)) (va_Qi post (s_B G) (s_A G.2.2)) 0 0 (s_A G.2.2) := by
  refine Met.ofW (cc := cX6_value) (maxL := 5) (ret := (some .int)) (by decide) rfl ?_
  intro p e s m args below meth c s₁ B hml hv
  obtain ⟨rfl, hP, hrok, hK, hN⟩ := hv
  have C : s_C G p s (([.ref (G.2.2 + 0), .int x1, .int x2] : List Value).toArray) m c RX6 cX6_value := ⟨B.exec, B.bytes, findClass_of_methodNamed B.named, fun w hw => atoms_spec (ws := wsU yX6_value cX6_value 5 (some .int)) B.pre w (List.mem_cons_of_mem _ hw), hK, hN⟩
  have hr := B.returns
  have hlocks := B.notSynchronized
  have S : s_St G σ s.heap s.heap [] := ⟨hP, va_S.rf, hrok⟩
  have hcs : 0 ≤ (rm_X6_value).cells ∧ 0 ≤ (rm_X6_value).slots := ⟨Nat.le_refl 0, Nat.le_refl 0⟩
  have hR : ∀ (r : Int32) (σ1 : Sg) (H : Heap) (locs : List Loc) (pc : Nat) (ls : Array Slot), decode cX6_value pc = .ok (.ireturn, 1) → post r σ1 → s_St G σ1 s.heap H locs → W p l e rm_X6_value s m ([.ref (G.2.2 + 0), .int x1, .int x2] : List Value).toArray below meth c H locs 0 0 (MQ below (va_Qi post (s_B G) (s_A G.2.2)) ([.ref (G.2.2 + 0), .int x1, .int x2] : List Value).toArray s 0 0 (s_A G.2.2)) (F0 m pc ls [.int r]) := fun _ _ _ _ _ _ hd hp S => ret_i C hr hlocks hd hp S
  have hl := lv_entry ([.ref (G.2.2 + 0), .int x1, .int x2]) (n := 5) (Nat.le_of_ble_eq_true rfl)
  rw [lg_entry_eq]
  generalize (lg_sl ([.ref (G.2.2 + 0), .int x1, .int x2]) ++ List.replicate (5 - (lg_sl ([.ref (G.2.2 + 0), .int x1, .int x2])).length) Slot.unset).toArray = ls at hl ⊢
  have hl : lv_has ls 5 [(0, .ref (G.2.2 + 0)), (1, .int x1), (2, .int x2)] := hl
  unfold wpX6_value at h
  refine lv_aload_n C.1 C.2.1 dX6_value_0 rfl (lv_at hl 0 rfl) ?_
  refine g_X6_2 C fl_X6_22 kd_0 S fn_0_2 dX6_value_1 ?_
  refine lv_iload_n C.1 C.2.1 dX6_value_4 rfl (lv_at hl 1 rfl) ?_
  refine k_i (r_VN (As := [.int x1]) (rest := []) C hml (c_X1_has l G 5 x1 σ _ kd_5 h) kM_X1_has im_X1_has se_X1_has nm_X6_89 ⟨rfl, rfl⟩ ⟨Nat.le_of_ble_eq_true rfl, Nat.le_of_ble_eq_true rfl⟩ hcs S.v kd_5 (by decide) (T := TX1) (N := 4) rfl rfl hl.1 rfl (Nat.le_of_ble_eq_true rfl) dX6_value_5) S (fun r13 σ12 H locs h S => ?_)
  refine lv_if_eq (tgt := 15) C.1 C.2.1 dX6_value_8 (by decide) (fun c14 => ?_) (fun c14 => ?_)
  · replace h := h.1 c14
    refine lv_iconst (v := (-1 : Int32)) C.1 C.2.1 dX6_value_15 (by decide) ?_
    exact hR _ _ _ _ _ _ dX6_value_16 h S
  · replace h := h.2 c14
    refine lv_iload_n C.1 C.2.1 dX6_value_11 rfl (lv_at hl 2 rfl) ?_
    refine lv_if_ge (tgt := 17) C.1 C.2.1 dX6_value_12 (by decide) (fun c15 => ?_) (fun c15 => ?_)
    · replace h := h.1 c15
      refine lv_aload_n C.1 C.2.1 dX6_value_17 rfl (lv_at hl 0 rfl) ?_
      refine g_X6_6 C fl_X6_44 kd_0 S fn_0_6 dX6_value_18 ?_
      refine lv_aload_n C.1 C.2.1 dX6_value_21 rfl (lv_at hl 0 rfl) ?_
      refine g_X6_2 C fl_X6_22 kd_0 S fn_0_2 dX6_value_22 ?_
      refine lv_aload_n C.1 C.2.1 dX6_value_25 rfl (lv_at hl 0 rfl) ?_
      refine g_X6_0 C fl_X6_10 kd_0 S fn_0_0 dX6_value_26 ?_
      refine k_v (r_VN (As := [.ref (G.2.2 + 5), .ref (G.2.2 + 1)]) (rest := []) C hml (c_X5_learn l G σ12 _ h) kM_X5_learn im_X5_learn se_X5_learn nm_X6_164 ⟨rfl, rfl⟩ ⟨Nat.le_of_ble_eq_true rfl, Nat.le_of_ble_eq_true rfl⟩ hcs S.v kd_90 (by decide) (T := TX5) (N := 8) rfl rfl hl.1 rfl (Nat.le_of_ble_eq_true rfl) dX6_value_29) S (fun σ16 H locs h S => ?_)
      refine lv_aload_n C.1 C.2.1 dX6_value_32 rfl (lv_at hl 0 rfl) ?_
      refine g_X6_6 C fl_X6_44 kd_0 S fn_0_6 dX6_value_33 ?_
      refine k_i (r_VN (As := []) (rest := []) C hml (c_X5_exists l G σ16 _ h) kM_X5_exists im_X5_exists se_X5_exists nm_X6_168 ⟨rfl, rfl⟩ ⟨Nat.le_of_ble_eq_true rfl, Nat.le_of_ble_eq_true rfl⟩ hcs S.v kd_90 (by decide) (T := TX5) (N := 8) rfl rfl hl.1 rfl (Nat.le_of_ble_eq_true rfl) dX6_value_36) S (fun r18 σ17 H locs h S => ?_)
      refine lv_if_ne (tgt := 45) C.1 C.2.1 dX6_value_39 (by decide) (fun c19 => ?_) (fun c19 => ?_)
      · replace h := h.1 c19
        refine lv_iconst (v := (0 : Int32)) C.1 C.2.1 dX6_value_45 (by decide) ?_
        refine lv_istore_n (lv' := [(3, .int (0 : Int32)), (0, .ref (G.2.2 + 0)), (1, .int x1), (2, .int x2)]) C.1 C.2.1 dX6_value_46 rfl hl (by decide) rfl (fun ls hl => ?_)
        refine lv_iconst (v := (0 : Int32)) C.1 C.2.1 dX6_value_47 (by decide) ?_
        refine lv_istore (lv' := [(4, .int (0 : Int32)), (3, .int (0 : Int32)), (0, .ref (G.2.2 + 0)), (1, .int x1), (2, .int x2)]) C.1 C.2.1 dX6_value_48 hl (by decide) rfl (fun ls hl => ?_)
        obtain ⟨nf, h⟩ := h
        exact TX6_value_50 C hml hcs hR nf ((0 : Int32)) ((0 : Int32)) S (lv_sub hl [2, 3, 4, 1, 0] rfl) h
      · replace h := h.2 c19
        refine lv_bipush (v := (-2 : Int32)) C.1 C.2.1 dX6_value_42 (by decide) ?_
        exact hR _ _ _ _ _ _ dX6_value_44 h S
    · replace h := h.2 c15
      refine lv_iconst (v := (-1 : Int32)) C.1 C.2.1 dX6_value_15 (by decide) ?_
      exact hR _ _ _ _ _ _ dX6_value_16 h S
/-! L_isRead -/
abbrev rm_L_isRead : Room := { frames := 7, cells := 0, slots := 0, locals := 172 }
def BL_isRead_276  (K80 : Int64 → Int32 → Int32 → Int32 → Sg → Prop) (post : Int32 → Sg → Prop) (x2 : Int64) (x5 : Int32) (x6 : Int32) (x7 : Int32) (x8 : Int32) (y0 : Int32) (σ : Sg) : Prop := wpX6_member x7 ((4 : Int32)) σ (fun r2 σ1 => wpX6_member x7 ((0 : Int32)) σ1 (fun r4 σ3 => (((¬ r4 = 0) → (((¬ r4 = (2 : Int32)) → (((((y0 - x8) - r2) < (1 : Int32)) → post (0 : Int32) σ3) ∧ ((¬ ((y0 - x8) - r2) < (1 : Int32)) → (((((y0 - x8) - r2) ≤ (3 : Int32)) → K80 x2 y0 ((x5 + (1 : Int32))) x6 σ3) ∧ ((¬ ((y0 - x8) - r2) ≤ (3 : Int32)) → post (0 : Int32) σ3))))) ∧ ((r4 = (2 : Int32)) → (((((y0 - x8) - r2) = (1 : Int32)) → K80 x2 y0 ((x5 + (1 : Int32))) x6 σ3) ∧ ((¬ ((y0 - x8) - r2) = (1 : Int32)) → post (0 : Int32) σ3))))) ∧ ((r4 = 0) → (((((y0 - x8) - r2) = 0) → K80 x2 y0 ((x5 + (1 : Int32))) x6 σ3) ∧ ((¬ ((y0 - x8) - r2) = 0) → post (0 : Int32) σ3))))))
def BL_isRead_177  (K80 : Int64 → Int32 → Int32 → Int32 → Sg → Prop) (post : Int32 → Sg → Prop) : Nat → Int64 → Int32 → Int32 → Int32 → Int32 → Int32 → Sg → Prop
  | 0, _, _, _, _, _, _, _ => False
  | n + 1, x2, x5, x6, x7, x8, x9, σ => wpX6_told ((0 : Int32)) σ (fun r12 σ11 => (((r12 ≤ x9) → wpX6_occurrence ((x5 + (1 : Int32))) ((1 : Int32)) σ11 (fun r15 σ14 => (((0 ≤ r15) → wpX6_told ((1 : Int32)) σ14 (fun r18 σ17 => (((r18 ≤ 0) → BL_isRead_276 K80 post x2 x5 ((x6 + ((1 : Int32) <<< (((4 : Int32) * x7) &&& 31)))) x7 x8 ((r15 - (0 : Int32))) σ17) ∧ ((¬ r18 ≤ 0) → BL_isRead_276 K80 post x2 x5 ((x6 + ((1 : Int32) <<< (((4 : Int32) * x7) &&& 31)))) x7 x8 ((r15 - (1 : Int32))) σ17)))) ∧ ((¬ 0 ≤ r15) → wpX6_told ((4 : Int32)) σ14 (fun r21 σ20 => BL_isRead_276 K80 post x2 x5 ((x6 + ((1 : Int32) <<< (((4 : Int32) * x7) &&& 31)))) x7 x8 r21 σ20))))) ∧ ((¬ r12 ≤ x9) → wpX6_member x7 ((8 : Int32)) σ11 (fun r23 σ22 => (((¬ ((r23 >>> (x9 &&& 31)) &&& (1 : Int32)) = (1 : Int32)) → BL_isRead_177 K80 post n x2 x5 x6 x7 x8 ((x9 + 1)) σ22) ∧ ((((r23 >>> (x9 &&& 31)) &&& (1 : Int32)) = (1 : Int32)) → (((((x6 >>> (((4 : Int32) * x9) &&& 31)) &&& (15 : Int32)) ≤ 0) → BL_isRead_177 K80 post n x2 x5 x6 x7 x8 ((x9 + 1)) σ22) ∧ ((¬ ((x6 >>> (((4 : Int32) * x9) &&& 31)) &&& (15 : Int32)) ≤ 0) → post (0 : Int32) σ22))))))))
def BL_isRead_119  (K80 : Int64 → Int32 → Int32 → Int32 → Sg → Prop) (post : Int32 → Sg → Prop) (x2 : Int64) (x5 : Int32) (x6 : Int32) (x7 : Int32) (y0 : Int32) (y1 : Int32) (σ : Sg) : Prop := wpX6_occurrence x5 ((1 : Int32)) σ (fun r27 σ26 => (((¬ r27 = (y0 + y1)) → post (0 : Int32) σ26) ∧ ((r27 = (y0 + y1)) → wpX6_order x2 x5 σ26 (fun r30 σ29 => (((¬ r30 = x7) → post (0 : Int32) σ29) ∧ ((r30 = x7) → wpX6_value x7 (((x6 >>> (((4 : Int32) * x7) &&& 31)) &&& (15 : Int32))) σ29 (fun r33 σ32 => wpX6_occurrence x5 ((2 : Int32)) σ32 (fun r35 σ34 => (((r33 = r35) → ∃ nf, BL_isRead_177 K80 post nf x2 x5 x6 x7 ((y0 + y1)) ((0 : Int32)) σ34) ∧ ((¬ r33 = r35) → post (0 : Int32) σ34))))))))))
def BL_isRead_495  (post : Int32 → Sg → Prop) (y0 : Int32) (σ : Sg) : Prop := wpX6_told ((4 : Int32)) σ (fun r38 σ37 => (((¬ r38 = 0) → (((¬ y0 = (0 : Int32)) → post (0 : Int32) σ37) ∧ ((y0 = (0 : Int32)) → post (1 : Int32) σ37))) ∧ ((r38 = 0) → (((¬ y0 = (1 : Int32)) → post (0 : Int32) σ37) ∧ ((y0 = (1 : Int32)) → post (1 : Int32) σ37)))))
def BL_isRead_356  (post : Int32 → Sg → Prop) : Nat → Int64 → Int32 → Int32 → Int32 → Int32 → Sg → Prop
  | 0, _, _, _, _, _, _ => False
  | n + 1, x2, x4, x5, x6, x7, σ => wpX6_told ((0 : Int32)) σ (fun r43 σ42 => (((r43 ≤ x7) → wpX6_fault σ42 (fun r46 σ45 => (((¬ r46 = (-9 : Int32)) → post (0 : Int32) σ45) ∧ ((r46 = (-9 : Int32)) → wpX6_told ((4 : Int32)) σ45 (fun r49 σ48 => (((¬ x4 = r49) → post (0 : Int32) σ48) ∧ ((x4 = r49) → ((((lg_cmp x2 (0 : Int64)) < 0) → post (0 : Int32) σ48) ∧ ((¬ (lg_cmp x2 (0 : Int64)) < 0) → wpX6_orders ((-1 : Int32)) σ48 (fun r53 σ52 => (((0 ≤ (lg_cmp x2 r53)) → post (0 : Int32) σ52) ∧ ((¬ 0 ≤ (lg_cmp x2 r53)) → wpX6_order x2 x5 σ52 (fun r56 σ55 => (((¬ r56 = (-9 : Int32)) → post (0 : Int32) σ55) ∧ ((r56 = (-9 : Int32)) → (((¬ x5 = 0) → BL_isRead_495 post ((0 : Int32)) σ55) ∧ ((x5 = 0) → BL_isRead_495 post ((1 : Int32)) σ55))))))))))))))))) ∧ ((¬ r43 ≤ x7) → wpX6_member x7 ((1 : Int32)) σ42 (fun r60 σ59 => (((((x6 >>> (((4 : Int32) * x7) &&& 31)) &&& (15 : Int32)) < r60) → post (0 : Int32) σ59) ∧ ((¬ ((x6 >>> (((4 : Int32) * x7) &&& 31)) &&& (15 : Int32)) < r60) → wpX6_member x7 ((2 : Int32)) σ59 (fun r63 σ62 => (((r63 < ((x6 >>> (((4 : Int32) * x7) &&& 31)) &&& (15 : Int32))) → post (0 : Int32) σ62) ∧ ((¬ r63 < ((x6 >>> (((4 : Int32) * x7) &&& 31)) &&& (15 : Int32))) → wpX6_value x7 (((x6 >>> (((4 : Int32) * x7) &&& 31)) &&& (15 : Int32))) σ62 (fun r66 σ65 => (((¬ ((x6 >>> (((4 : Int32) * x7) &&& 31)) &&& (15 : Int32)) = 0) → (((r66 = (-9 : Int32)) → BL_isRead_356 post n x2 x4 x5 x6 ((x7 + 1)) σ65) ∧ ((¬ r66 = (-9 : Int32)) → post (0 : Int32) σ65))) ∧ ((((x6 >>> (((4 : Int32) * x7) &&& 31)) &&& (15 : Int32)) = 0) → wpX6_member x7 ((3 : Int32)) σ65 (fun r70 σ69 => (((r66 = r70) → BL_isRead_356 post n x2 x4 x5 x6 ((x7 + 1)) σ69) ∧ ((¬ r66 = r70) → post (0 : Int32) σ69)))))))))))))))
def BL_isRead_80  (post : Int32 → Sg → Prop) : Nat → Int64 → Int32 → Int32 → Int32 → Sg → Prop
  | 0, _, _, _, _, _ => False
  | n + 1, x2, x4, x5, x6, σ => wpX6_occurrence x5 ((0 : Int32)) σ (fun r73 σ72 => (((r73 < 0) → ∃ nf, BL_isRead_356 post nf x2 x4 x5 x6 ((0 : Int32)) σ72) ∧ ((¬ r73 < 0) → wpX6_occurrence x5 ((0 : Int32)) σ72 (fun r76 σ75 => (((x5 ≤ 0) → BL_isRead_119 (BL_isRead_80 post n) post x2 x5 x6 r76 x4 ((0 : Int32)) σ75) ∧ ((¬ x5 ≤ 0) → wpX6_told ((1 : Int32)) σ75 (fun r79 σ78 => (((r79 ≤ 0) → BL_isRead_119 (BL_isRead_80 post n) post x2 x5 x6 r76 x4 ((0 : Int32)) σ78) ∧ ((¬ r79 ≤ 0) → BL_isRead_119 (BL_isRead_80 post n) post x2 x5 x6 r76 x4 ((1 : Int32)) σ78)))))))))
def wpL_isRead  (σ : Sg) (post : Int32 → Sg → Prop) : Prop := wpX6_readings σ (fun r82 σ81 => (((¬ r82 = 0) → wpX6_rank σ81 (fun r85 σ84 => ∃ nf, BL_isRead_80 post nf r85 ((0 : Int32)) ((0 : Int32)) ((0 : Int32)) σ84)) ∧ ((r82 = 0) → wpX6_fault σ81 (fun r87 σ86 => (((r87 < 0) → post (0 : Int32) σ86) ∧ ((¬ r87 < 0) → wpX6_fault σ86 (fun r90 σ89 => wpX6_told ((4 : Int32)) σ89 (fun r92 σ91 => (((r92 < r90) → post (0 : Int32) σ91) ∧ ((¬ r92 < r90) → wpX6_occurrence ((0 : Int32)) ((0 : Int32)) σ91 (fun r95 σ94 => (((¬ r95 = (-2 : Int32)) → post (0 : Int32) σ94) ∧ ((r95 = (-2 : Int32)) → wpX6_rank σ94 (fun r98 σ97 => (((¬ (lg_cmp r98 (-2 : Int64)) = 0) → post (0 : Int32) σ97) ∧ (((lg_cmp r98 (-2 : Int64)) = 0) → wpX6_normal ((0 : Int32)) σ97 (fun r101 σ100 => (((¬ r101 = (-2 : Int32)) → post (0 : Int32) σ100) ∧ ((r101 = (-2 : Int32)) → post (1 : Int32) σ100)))))))))))))))))))
set_option maxHeartbeats 4000000 in
set_option maxRecDepth 100000 in
theorem TL_isRead_276 (C : s_C G p s args m c RL cL_isRead) (hml : c.maxLocals = 12) (hcs : cells ≤ (rm_L_isRead).cells ∧ slots ≤ (rm_L_isRead).slots)  {K80 : Int64 → Int32 → Int32 → Int32 → Sg → Prop} {post : Int32 → Sg → Prop} (hR : ∀ (r : Int32) (σ1 : Sg) (H : Heap) (locs : List Loc) (pc : Nat) (ls : Array Slot), decode cL_isRead pc = .ok (.ireturn, 1) → narrow .boolean (.int r) = .int r → post r σ1 → s_St G σ1 H0 H locs → W p l e rm_L_isRead s m args below meth c H locs cells slots Q (F0 m pc ls [.int r])) (hK80 : ∀ (x2 : Int64) (x4 : Int32) (x5 : Int32) (x6 : Int32), ∀ (σ : Sg) (H : Heap) (locs : List Loc) (ls : Array Slot), s_St G σ H0 H locs → lv_has ls 12 [(0, .ref (G.2.2 + 0)), (2, .long x2), (4, .int x4), (5, .int x5), (6, .int x6)] → K80 x2 x4 x5 x6 σ → W p l e rm_L_isRead s m args below meth c H locs cells slots Q (F0 m 80 ls [])) : ∀ (x2 : Int64) (x5 : Int32) (x6 : Int32) (x7 : Int32) (x8 : Int32) (y0 : Int32), ∀ {σ : Sg} {H : Heap} {locs : List Loc} {ls : Array Slot}, s_St G σ H0 H locs → lv_has ls 12 [(0, .ref (G.2.2 + 0)), (2, .long x2), (5, .int x5), (6, .int x6), (7, .int x7), (8, .int x8)] → BL_isRead_276 K80 post x2 x5 x6 x7 x8 y0 σ → W p l e rm_L_isRead s m args below meth c H locs cells slots Q (F0 m 276 ls [.int y0]) := by
  intro x2 x5 x6 x7 x8 y0  σ H locs ls S hl h
  unfold BL_isRead_276 at h
  refine lv_istore (lv' := [(4, .int y0), (0, .ref (G.2.2 + 0)), (2, .long x2), (5, .int x5), (6, .int x6), (7, .int x7), (8, .int x8)]) C.1 C.2.1 dL_isRead_276 hl (by decide) rfl (fun ls hl => ?_)
  refine lv_iload C.1 C.2.1 dL_isRead_278 (lv_at hl 0 rfl) ?_
  refine lv_iload C.1 C.2.1 dL_isRead_280 (lv_at hl 6 rfl) ?_
  refine lv_isub C.1 C.2.1 dL_isRead_282 ?_
  refine lv_aload_n C.1 C.2.1 dL_isRead_283 rfl (lv_at hl 1 rfl) ?_
  refine lv_iload C.1 C.2.1 dL_isRead_284 (lv_at hl 5 rfl) ?_
  refine lv_iconst (v := (4 : Int32)) C.1 C.2.1 dL_isRead_286 (by decide) ?_
  refine k_i (r_V (As := [.int x7, .int (4 : Int32)]) (rest := [.int (y0 - x8)]) C hml (c_X6_member l G x7 ((4 : Int32)) σ _ h) kM_X6_member im_X6_member se_X6_member ml_L_60 ⟨rfl, rfl⟩ ⟨Nat.le_of_ble_eq_true rfl, Nat.le_of_ble_eq_true rfl⟩ hcs S.v kd_0 (by decide) (T := TX6) (N := 8) rfl rfl hl.1 rfl (Nat.le_of_ble_eq_true rfl) dL_isRead_287) S (fun r2 σ1 H locs h S => ?_)
  refine lv_isub C.1 C.2.1 dL_isRead_290 ?_
  refine lv_istore (lv' := [(10, .int ((y0 - x8) - r2)), (4, .int y0), (0, .ref (G.2.2 + 0)), (2, .long x2), (5, .int x5), (6, .int x6), (7, .int x7), (8, .int x8)]) C.1 C.2.1 dL_isRead_291 hl (by decide) rfl (fun ls hl => ?_)
  refine lv_aload_n C.1 C.2.1 dL_isRead_293 rfl (lv_at hl 2 rfl) ?_
  refine lv_iload C.1 C.2.1 dL_isRead_294 (lv_at hl 6 rfl) ?_
  refine lv_iconst (v := (0 : Int32)) C.1 C.2.1 dL_isRead_296 (by decide) ?_
  refine k_i (r_V (As := [.int x7, .int (0 : Int32)]) (rest := []) C hml (c_X6_member l G x7 ((0 : Int32)) σ1 _ h) kM_X6_member im_X6_member se_X6_member ml_L_60 ⟨rfl, rfl⟩ ⟨Nat.le_of_ble_eq_true rfl, Nat.le_of_ble_eq_true rfl⟩ hcs S.v kd_0 (by decide) (T := TX6) (N := 8) rfl rfl hl.1 rfl (Nat.le_of_ble_eq_true rfl) dL_isRead_297) S (fun r4 σ3 H locs h S => ?_)
  refine lv_istore (lv' := [(11, .int r4), (10, .int ((y0 - x8) - r2)), (4, .int y0), (0, .ref (G.2.2 + 0)), (2, .long x2), (5, .int x5), (6, .int x6), (7, .int x7), (8, .int x8)]) C.1 C.2.1 dL_isRead_300 hl (by decide) rfl (fun ls hl => ?_)
  refine lv_iload C.1 C.2.1 dL_isRead_302 (lv_at hl 0 rfl) ?_
  refine lv_if_ne (tgt := 315) C.1 C.2.1 dL_isRead_304 (by decide) (fun c5 => ?_) (fun c5 => ?_)
  · replace h := h.1 c5
    refine lv_iload C.1 C.2.1 dL_isRead_315 (lv_at hl 0 rfl) ?_
    refine lv_iconst (v := (2 : Int32)) C.1 C.2.1 dL_isRead_317 (by decide) ?_
    refine lv_icmp_ne (tgt := 330) C.1 C.2.1 dL_isRead_318 (by decide) (fun c6 => ?_) (fun c6 => ?_)
    · replace h := h.1 c6
      refine lv_iload C.1 C.2.1 dL_isRead_330 (lv_at hl 1 rfl) ?_
      refine lv_iconst (v := (1 : Int32)) C.1 C.2.1 dL_isRead_332 (by decide) ?_
      refine lv_icmp_lt (tgt := 342) C.1 C.2.1 dL_isRead_333 (by decide) (fun c7 => ?_) (fun c7 => ?_)
      · replace h := h.1 c7
        refine lv_iconst (v := (0 : Int32)) C.1 C.2.1 dL_isRead_342 (by decide) ?_
        exact hR _ _ _ _ _ _ dL_isRead_343 rfl h S
      · replace h := h.2 c7
        refine lv_iload C.1 C.2.1 dL_isRead_336 (lv_at hl 1 rfl) ?_
        refine lv_iconst (v := (3 : Int32)) C.1 C.2.1 dL_isRead_338 (by decide) ?_
        refine lv_icmp_le (tgt := 344) C.1 C.2.1 dL_isRead_339 (by decide) (fun c8 => ?_) (fun c8 => ?_)
        · replace h := h.1 c8
          refine lv_iload C.1 C.2.1 dL_isRead_344 (lv_at hl 5 rfl) ?_
          refine lv_iconst (v := (1 : Int32)) C.1 C.2.1 dL_isRead_346 (by decide) ?_
          refine lv_iadd C.1 C.2.1 dL_isRead_347 ?_
          refine lv_istore (lv' := [(5, .int (x5 + (1 : Int32))), (11, .int r4), (10, .int ((y0 - x8) - r2)), (4, .int y0), (0, .ref (G.2.2 + 0)), (2, .long x2), (6, .int x6), (7, .int x7), (8, .int x8)]) C.1 C.2.1 dL_isRead_348 hl (by decide) rfl (fun ls hl => ?_)
          refine lv_goto (tgt := 80) C.1 C.2.1 dL_isRead_350 (by decide) ?_
          exact hK80 x2 y0 ((x5 + (1 : Int32))) x6 _ _ _ _ S (lv_sub hl [4, 5, 3, 0, 6] rfl) h
        · replace h := h.2 c8
          refine lv_iconst (v := (0 : Int32)) C.1 C.2.1 dL_isRead_342 (by decide) ?_
          exact hR _ _ _ _ _ _ dL_isRead_343 rfl h S
    · replace h := h.2 c6
      refine lv_iload C.1 C.2.1 dL_isRead_321 (lv_at hl 1 rfl) ?_
      refine lv_iconst (v := (1 : Int32)) C.1 C.2.1 dL_isRead_323 (by decide) ?_
      refine lv_icmp_eq (tgt := 344) C.1 C.2.1 dL_isRead_324 (by decide) (fun c9 => ?_) (fun c9 => ?_)
      · replace h := h.1 c9
        refine lv_iload C.1 C.2.1 dL_isRead_344 (lv_at hl 5 rfl) ?_
        refine lv_iconst (v := (1 : Int32)) C.1 C.2.1 dL_isRead_346 (by decide) ?_
        refine lv_iadd C.1 C.2.1 dL_isRead_347 ?_
        refine lv_istore (lv' := [(5, .int (x5 + (1 : Int32))), (11, .int r4), (10, .int ((y0 - x8) - r2)), (4, .int y0), (0, .ref (G.2.2 + 0)), (2, .long x2), (6, .int x6), (7, .int x7), (8, .int x8)]) C.1 C.2.1 dL_isRead_348 hl (by decide) rfl (fun ls hl => ?_)
        refine lv_goto (tgt := 80) C.1 C.2.1 dL_isRead_350 (by decide) ?_
        exact hK80 x2 y0 ((x5 + (1 : Int32))) x6 _ _ _ _ S (lv_sub hl [4, 5, 3, 0, 6] rfl) h
      · replace h := h.2 c9
        refine lv_goto (tgt := 342) C.1 C.2.1 dL_isRead_327 (by decide) ?_
        refine lv_iconst (v := (0 : Int32)) C.1 C.2.1 dL_isRead_342 (by decide) ?_
        exact hR _ _ _ _ _ _ dL_isRead_343 rfl h S
  · replace h := h.2 c5
    refine lv_iload C.1 C.2.1 dL_isRead_307 (lv_at hl 1 rfl) ?_
    refine lv_if_eq (tgt := 344) C.1 C.2.1 dL_isRead_309 (by decide) (fun c10 => ?_) (fun c10 => ?_)
    · replace h := h.1 c10
      refine lv_iload C.1 C.2.1 dL_isRead_344 (lv_at hl 5 rfl) ?_
      refine lv_iconst (v := (1 : Int32)) C.1 C.2.1 dL_isRead_346 (by decide) ?_
      refine lv_iadd C.1 C.2.1 dL_isRead_347 ?_
      refine lv_istore (lv' := [(5, .int (x5 + (1 : Int32))), (11, .int r4), (10, .int ((y0 - x8) - r2)), (4, .int y0), (0, .ref (G.2.2 + 0)), (2, .long x2), (6, .int x6), (7, .int x7), (8, .int x8)]) C.1 C.2.1 dL_isRead_348 hl (by decide) rfl (fun ls hl => ?_)
      refine lv_goto (tgt := 80) C.1 C.2.1 dL_isRead_350 (by decide) ?_
      exact hK80 x2 y0 ((x5 + (1 : Int32))) x6 _ _ _ _ S (lv_sub hl [4, 5, 3, 0, 6] rfl) h
    · replace h := h.2 c10
      refine lv_goto (tgt := 342) C.1 C.2.1 dL_isRead_312 (by decide) ?_
      refine lv_iconst (v := (0 : Int32)) C.1 C.2.1 dL_isRead_342 (by decide) ?_
      exact hR _ _ _ _ _ _ dL_isRead_343 rfl h S
set_option maxHeartbeats 4000000 in
set_option maxRecDepth 100000 in
theorem TL_isRead_177 (C : s_C G p s args m c RL cL_isRead) (hml : c.maxLocals = 12) (hcs : cells ≤ (rm_L_isRead).cells ∧ slots ≤ (rm_L_isRead).slots)  {K80 : Int64 → Int32 → Int32 → Int32 → Sg → Prop} {post : Int32 → Sg → Prop} (hR : ∀ (r : Int32) (σ1 : Sg) (H : Heap) (locs : List Loc) (pc : Nat) (ls : Array Slot), decode cL_isRead pc = .ok (.ireturn, 1) → narrow .boolean (.int r) = .int r → post r σ1 → s_St G σ1 H0 H locs → W p l e rm_L_isRead s m args below meth c H locs cells slots Q (F0 m pc ls [.int r])) (hK80 : ∀ (x2 : Int64) (x4 : Int32) (x5 : Int32) (x6 : Int32), ∀ (σ : Sg) (H : Heap) (locs : List Loc) (ls : Array Slot), s_St G σ H0 H locs → lv_has ls 12 [(0, .ref (G.2.2 + 0)), (2, .long x2), (4, .int x4), (5, .int x5), (6, .int x6)] → K80 x2 x4 x5 x6 σ → W p l e rm_L_isRead s m args below meth c H locs cells slots Q (F0 m 80 ls [])) : ∀ (n : Nat) (x2 : Int64) (x5 : Int32) (x6 : Int32) (x7 : Int32) (x8 : Int32) (x9 : Int32), ∀ {σ : Sg} {H : Heap} {locs : List Loc} {ls : Array Slot}, s_St G σ H0 H locs → lv_has ls 12 [(0, .ref (G.2.2 + 0)), (2, .long x2), (5, .int x5), (6, .int x6), (7, .int x7), (8, .int x8), (9, .int x9)] → BL_isRead_177 K80 post n x2 x5 x6 x7 x8 x9 σ → W p l e rm_L_isRead s m args below meth c H locs cells slots Q (F0 m 177 ls []) := by
  intro n
  induction n with
  | zero =>
    intro x2 x5 x6 x7 x8 x9  σ H locs ls S hl h
    exact absurd h (fun h => h)
  | succ n ih0 =>
    have ih : ∀ (x2 : Int64) (x5 : Int32) (x6 : Int32) (x7 : Int32) (x8 : Int32) (x9 : Int32), ∀ (σ : Sg) (H : Heap) (locs : List Loc) (ls : Array Slot), s_St G σ H0 H locs → lv_has ls 12 [(0, .ref (G.2.2 + 0)), (2, .long x2), (5, .int x5), (6, .int x6), (7, .int x7), (8, .int x8), (9, .int x9)] → BL_isRead_177 K80 post n x2 x5 x6 x7 x8 x9 σ → W p l e rm_L_isRead s m args below meth c H locs cells slots Q (F0 m 177 ls []) := fun x2 x5 x6 x7 x8 x9  _ _ _ _ => ih0 x2 x5 x6 x7 x8 x9 
    intro x2 x5 x6 x7 x8 x9  σ H locs ls S hl h
    refine lv_iload C.1 C.2.1 dL_isRead_177 (lv_at hl 6 rfl) ?_
    refine lv_aload_n C.1 C.2.1 dL_isRead_179 rfl (lv_at hl 0 rfl) ?_
    refine lv_iconst (v := (0 : Int32)) C.1 C.2.1 dL_isRead_180 (by decide) ?_
    refine k_i (r_V (As := [.int (0 : Int32)]) (rest := [.int x9]) C hml (c_X6_told l G ((0 : Int32)) σ _ h) kM_X6_told im_X6_told se_X6_told ml_L_57 ⟨rfl, rfl⟩ ⟨Nat.le_of_ble_eq_true rfl, Nat.le_of_ble_eq_true rfl⟩ hcs S.v kd_0 (by decide) (T := TX6) (N := 8) rfl rfl hl.1 rfl (Nat.le_of_ble_eq_true rfl) dL_isRead_181) S (fun r12 σ11 H locs h S => ?_)
    refine lv_icmp_ge (tgt := 225) C.1 C.2.1 dL_isRead_184 (by decide) (fun c13 => ?_) (fun c13 => ?_)
    · replace h := h.1 c13
      refine lv_iload C.1 C.2.1 dL_isRead_225 (lv_at hl 3 rfl) ?_
      refine lv_iconst (v := (1 : Int32)) C.1 C.2.1 dL_isRead_227 (by decide) ?_
      refine lv_iconst (v := (4 : Int32)) C.1 C.2.1 dL_isRead_228 (by decide) ?_
      refine lv_iload C.1 C.2.1 dL_isRead_229 (lv_at hl 4 rfl) ?_
      refine lv_imul C.1 C.2.1 dL_isRead_231 ?_
      refine lv_ishl C.1 C.2.1 dL_isRead_232 ?_
      refine lv_iadd C.1 C.2.1 dL_isRead_233 ?_
      refine lv_istore (lv' := [(6, .int (x6 + ((1 : Int32) <<< (((4 : Int32) * x7) &&& 31)))), (0, .ref (G.2.2 + 0)), (2, .long x2), (5, .int x5), (7, .int x7), (8, .int x8), (9, .int x9)]) C.1 C.2.1 dL_isRead_234 hl (by decide) rfl (fun ls hl => ?_)
      refine lv_aload_n C.1 C.2.1 dL_isRead_236 rfl (lv_at hl 1 rfl) ?_
      refine lv_iload C.1 C.2.1 dL_isRead_237 (lv_at hl 3 rfl) ?_
      refine lv_iconst (v := (1 : Int32)) C.1 C.2.1 dL_isRead_239 (by decide) ?_
      refine lv_iadd C.1 C.2.1 dL_isRead_240 ?_
      refine lv_iconst (v := (1 : Int32)) C.1 C.2.1 dL_isRead_241 (by decide) ?_
      refine k_i (r_V (As := [.int (x5 + (1 : Int32)), .int (1 : Int32)]) (rest := []) C hml (c_X6_occurrence l G ((x5 + (1 : Int32))) ((1 : Int32)) σ11 _ h) kM_X6_occurrence im_X6_occurrence se_X6_occurrence ml_L_69 ⟨rfl, rfl⟩ ⟨Nat.le_of_ble_eq_true rfl, Nat.le_of_ble_eq_true rfl⟩ hcs S.v kd_0 (by decide) (T := TX6) (N := 8) rfl rfl hl.1 rfl (Nat.le_of_ble_eq_true rfl) dL_isRead_242) S (fun r15 σ14 H locs h S => ?_)
      refine lv_istore (lv' := [(9, .int r15), (6, .int (x6 + ((1 : Int32) <<< (((4 : Int32) * x7) &&& 31)))), (0, .ref (G.2.2 + 0)), (2, .long x2), (5, .int x5), (7, .int x7), (8, .int x8)]) C.1 C.2.1 dL_isRead_245 hl (by decide) rfl (fun ls hl => ?_)
      refine lv_iload C.1 C.2.1 dL_isRead_247 (lv_at hl 0 rfl) ?_
      refine lv_if_ge (tgt := 260) C.1 C.2.1 dL_isRead_249 (by decide) (fun c16 => ?_) (fun c16 => ?_)
      · replace h := h.1 c16
        refine lv_iload C.1 C.2.1 dL_isRead_260 (lv_at hl 0 rfl) ?_
        refine lv_aload_n C.1 C.2.1 dL_isRead_262 rfl (lv_at hl 2 rfl) ?_
        refine lv_iconst (v := (1 : Int32)) C.1 C.2.1 dL_isRead_263 (by decide) ?_
        refine k_i (r_V (As := [.int (1 : Int32)]) (rest := [.int r15]) C hml (c_X6_told l G ((1 : Int32)) σ14 _ h) kM_X6_told im_X6_told se_X6_told ml_L_57 ⟨rfl, rfl⟩ ⟨Nat.le_of_ble_eq_true rfl, Nat.le_of_ble_eq_true rfl⟩ hcs S.v kd_0 (by decide) (T := TX6) (N := 8) rfl rfl hl.1 rfl (Nat.le_of_ble_eq_true rfl) dL_isRead_264) S (fun r18 σ17 H locs h S => ?_)
        refine lv_if_le (tgt := 274) C.1 C.2.1 dL_isRead_267 (by decide) (fun c19 => ?_) (fun c19 => ?_)
        · replace h := h.1 c19
          refine lv_iconst (v := (0 : Int32)) C.1 C.2.1 dL_isRead_274 (by decide) ?_
          refine lv_isub C.1 C.2.1 dL_isRead_275 ?_
          exact TL_isRead_276 C hml hcs hR hK80 x2 x5 ((x6 + ((1 : Int32) <<< (((4 : Int32) * x7) &&& 31)))) x7 x8 ((r15 - (0 : Int32))) S (lv_sub hl [2, 3, 4, 1, 5, 6] rfl) h
        · replace h := h.2 c19
          refine lv_iconst (v := (1 : Int32)) C.1 C.2.1 dL_isRead_270 (by decide) ?_
          refine lv_goto (tgt := 275) C.1 C.2.1 dL_isRead_271 (by decide) ?_
          refine lv_isub C.1 C.2.1 dL_isRead_275 ?_
          exact TL_isRead_276 C hml hcs hR hK80 x2 x5 ((x6 + ((1 : Int32) <<< (((4 : Int32) * x7) &&& 31)))) x7 x8 ((r15 - (1 : Int32))) S (lv_sub hl [2, 3, 4, 1, 5, 6] rfl) h
      · replace h := h.2 c16
        refine lv_aload_n C.1 C.2.1 dL_isRead_252 rfl (lv_at hl 2 rfl) ?_
        refine lv_iconst (v := (4 : Int32)) C.1 C.2.1 dL_isRead_253 (by decide) ?_
        refine k_i (r_V (As := [.int (4 : Int32)]) (rest := []) C hml (c_X6_told l G ((4 : Int32)) σ14 _ h) kM_X6_told im_X6_told se_X6_told ml_L_57 ⟨rfl, rfl⟩ ⟨Nat.le_of_ble_eq_true rfl, Nat.le_of_ble_eq_true rfl⟩ hcs S.v kd_0 (by decide) (T := TX6) (N := 8) rfl rfl hl.1 rfl (Nat.le_of_ble_eq_true rfl) dL_isRead_254) S (fun r21 σ20 H locs h S => ?_)
        refine lv_goto (tgt := 276) C.1 C.2.1 dL_isRead_257 (by decide) ?_
        exact TL_isRead_276 C hml hcs hR hK80 x2 x5 ((x6 + ((1 : Int32) <<< (((4 : Int32) * x7) &&& 31)))) x7 x8 r21 S (lv_sub hl [2, 3, 4, 1, 5, 6] rfl) h
    · replace h := h.2 c13
      refine lv_aload_n C.1 C.2.1 dL_isRead_187 rfl (lv_at hl 0 rfl) ?_
      refine lv_iload C.1 C.2.1 dL_isRead_188 (lv_at hl 4 rfl) ?_
      refine lv_bipush (v := (8 : Int32)) C.1 C.2.1 dL_isRead_190 (by decide) ?_
      refine k_i (r_V (As := [.int x7, .int (8 : Int32)]) (rest := []) C hml (c_X6_member l G x7 ((8 : Int32)) σ11 _ h) kM_X6_member im_X6_member se_X6_member ml_L_60 ⟨rfl, rfl⟩ ⟨Nat.le_of_ble_eq_true rfl, Nat.le_of_ble_eq_true rfl⟩ hcs S.v kd_0 (by decide) (T := TX6) (N := 8) rfl rfl hl.1 rfl (Nat.le_of_ble_eq_true rfl) dL_isRead_192) S (fun r23 σ22 H locs h S => ?_)
      refine lv_iload C.1 C.2.1 dL_isRead_195 (lv_at hl 6 rfl) ?_
      refine lv_ishr C.1 C.2.1 dL_isRead_197 ?_
      refine lv_iconst (v := (1 : Int32)) C.1 C.2.1 dL_isRead_198 (by decide) ?_
      refine lv_iand C.1 C.2.1 dL_isRead_199 ?_
      refine lv_iconst (v := (1 : Int32)) C.1 C.2.1 dL_isRead_200 (by decide) ?_
      refine lv_icmp_ne (tgt := 219) C.1 C.2.1 dL_isRead_201 (by decide) (fun c24 => ?_) (fun c24 => ?_)
      · replace h := h.1 c24
        refine lv_iinc (v := (x9 + 1)) (lv' := [(9, .int (x9 + 1)), (0, .ref (G.2.2 + 0)), (2, .long x2), (5, .int x5), (6, .int x6), (7, .int x7), (8, .int x8)]) C.1 C.2.1 dL_isRead_219 hl (k := 6) rfl rfl (by decide) rfl (fun ls hl => ?_)
        refine lv_goto (tgt := 177) C.1 C.2.1 dL_isRead_222 (by decide) ?_
        exact ih x2 x5 x6 x7 x8 ((x9 + 1)) _ _ _ _ S (lv_sub hl [1, 2, 3, 4, 5, 6, 0] rfl) h
      · replace h := h.2 c24
        refine lv_iload C.1 C.2.1 dL_isRead_204 (lv_at hl 3 rfl) ?_
        refine lv_iconst (v := (4 : Int32)) C.1 C.2.1 dL_isRead_206 (by decide) ?_
        refine lv_iload C.1 C.2.1 dL_isRead_207 (lv_at hl 6 rfl) ?_
        refine lv_imul C.1 C.2.1 dL_isRead_209 ?_
        refine lv_ishr C.1 C.2.1 dL_isRead_210 ?_
        refine lv_bipush (v := (15 : Int32)) C.1 C.2.1 dL_isRead_211 (by decide) ?_
        refine lv_iand C.1 C.2.1 dL_isRead_213 ?_
        refine lv_if_le (tgt := 219) C.1 C.2.1 dL_isRead_214 (by decide) (fun c25 => ?_) (fun c25 => ?_)
        · replace h := h.1 c25
          refine lv_iinc (v := (x9 + 1)) (lv' := [(9, .int (x9 + 1)), (0, .ref (G.2.2 + 0)), (2, .long x2), (5, .int x5), (6, .int x6), (7, .int x7), (8, .int x8)]) C.1 C.2.1 dL_isRead_219 hl (k := 6) rfl rfl (by decide) rfl (fun ls hl => ?_)
          refine lv_goto (tgt := 177) C.1 C.2.1 dL_isRead_222 (by decide) ?_
          exact ih x2 x5 x6 x7 x8 ((x9 + 1)) _ _ _ _ S (lv_sub hl [1, 2, 3, 4, 5, 6, 0] rfl) h
        · replace h := h.2 c25
          refine lv_iconst (v := (0 : Int32)) C.1 C.2.1 dL_isRead_217 (by decide) ?_
          exact hR _ _ _ _ _ _ dL_isRead_218 rfl h S
set_option maxHeartbeats 4000000 in
set_option maxRecDepth 100000 in
theorem TL_isRead_119 (C : s_C G p s args m c RL cL_isRead) (hml : c.maxLocals = 12) (hcs : cells ≤ (rm_L_isRead).cells ∧ slots ≤ (rm_L_isRead).slots)  {K80 : Int64 → Int32 → Int32 → Int32 → Sg → Prop} {post : Int32 → Sg → Prop} (hR : ∀ (r : Int32) (σ1 : Sg) (H : Heap) (locs : List Loc) (pc : Nat) (ls : Array Slot), decode cL_isRead pc = .ok (.ireturn, 1) → narrow .boolean (.int r) = .int r → post r σ1 → s_St G σ1 H0 H locs → W p l e rm_L_isRead s m args below meth c H locs cells slots Q (F0 m pc ls [.int r])) (hK80 : ∀ (x2 : Int64) (x4 : Int32) (x5 : Int32) (x6 : Int32), ∀ (σ : Sg) (H : Heap) (locs : List Loc) (ls : Array Slot), s_St G σ H0 H locs → lv_has ls 12 [(0, .ref (G.2.2 + 0)), (2, .long x2), (4, .int x4), (5, .int x5), (6, .int x6)] → K80 x2 x4 x5 x6 σ → W p l e rm_L_isRead s m args below meth c H locs cells slots Q (F0 m 80 ls [])) : ∀ (x2 : Int64) (x5 : Int32) (x6 : Int32) (x7 : Int32) (y0 : Int32) (y1 : Int32), ∀ {σ : Sg} {H : Heap} {locs : List Loc} {ls : Array Slot}, s_St G σ H0 H locs → lv_has ls 12 [(0, .ref (G.2.2 + 0)), (2, .long x2), (5, .int x5), (6, .int x6), (7, .int x7)] → BL_isRead_119 K80 post x2 x5 x6 x7 y0 y1 σ → W p l e rm_L_isRead s m args below meth c H locs cells slots Q (F0 m 119 ls [.int y1, .int y0]) := by
  intro x2 x5 x6 x7 y0 y1  σ H locs ls S hl h
  unfold BL_isRead_119 at h
  refine lv_iadd C.1 C.2.1 dL_isRead_119 ?_
  refine lv_istore (lv' := [(8, .int (y0 + y1)), (0, .ref (G.2.2 + 0)), (2, .long x2), (5, .int x5), (6, .int x6), (7, .int x7)]) C.1 C.2.1 dL_isRead_120 hl (by decide) rfl (fun ls hl => ?_)
  refine lv_aload_n C.1 C.2.1 dL_isRead_122 rfl (lv_at hl 1 rfl) ?_
  refine lv_iload C.1 C.2.1 dL_isRead_123 (lv_at hl 3 rfl) ?_
  refine lv_iconst (v := (1 : Int32)) C.1 C.2.1 dL_isRead_125 (by decide) ?_
  refine k_i (r_V (As := [.int x5, .int (1 : Int32)]) (rest := []) C hml (c_X6_occurrence l G x5 ((1 : Int32)) σ _ h) kM_X6_occurrence im_X6_occurrence se_X6_occurrence ml_L_69 ⟨rfl, rfl⟩ ⟨Nat.le_of_ble_eq_true rfl, Nat.le_of_ble_eq_true rfl⟩ hcs S.v kd_0 (by decide) (T := TX6) (N := 8) rfl rfl hl.1 rfl (Nat.le_of_ble_eq_true rfl) dL_isRead_126) S (fun r27 σ26 H locs h S => ?_)
  refine lv_iload C.1 C.2.1 dL_isRead_129 (lv_at hl 0 rfl) ?_
  refine lv_icmp_ne (tgt := 172) C.1 C.2.1 dL_isRead_131 (by decide) (fun c28 => ?_) (fun c28 => ?_)
  · replace h := h.1 c28
    refine lv_iconst (v := (0 : Int32)) C.1 C.2.1 dL_isRead_172 (by decide) ?_
    exact hR _ _ _ _ _ _ dL_isRead_173 rfl h S
  · replace h := h.2 c28
    refine lv_aload_n C.1 C.2.1 dL_isRead_134 rfl (lv_at hl 1 rfl) ?_
    refine lv_lload_n C.1 C.2.1 dL_isRead_135 rfl (lv_at hl 2 rfl) ?_
    refine lv_iload C.1 C.2.1 dL_isRead_136 (lv_at hl 3 rfl) ?_
    refine k_i (r_V (As := [.long x2, .int x5]) (rest := []) C hml (c_X6_order l G x2 x5 σ26 _ h) kM_X6_order im_X6_order se_X6_order ml_L_81 ⟨rfl, rfl⟩ ⟨Nat.le_of_ble_eq_true rfl, Nat.le_of_ble_eq_true rfl⟩ hcs S.v kd_0 (by decide) (T := TX6) (N := 8) rfl rfl hl.1 rfl (Nat.le_of_ble_eq_true rfl) dL_isRead_138) S (fun r30 σ29 H locs h S => ?_)
    refine lv_iload C.1 C.2.1 dL_isRead_141 (lv_at hl 5 rfl) ?_
    refine lv_icmp_ne (tgt := 172) C.1 C.2.1 dL_isRead_143 (by decide) (fun c31 => ?_) (fun c31 => ?_)
    · replace h := h.1 c31
      refine lv_iconst (v := (0 : Int32)) C.1 C.2.1 dL_isRead_172 (by decide) ?_
      exact hR _ _ _ _ _ _ dL_isRead_173 rfl h S
    · replace h := h.2 c31
      refine lv_aload_n C.1 C.2.1 dL_isRead_146 rfl (lv_at hl 1 rfl) ?_
      refine lv_iload C.1 C.2.1 dL_isRead_147 (lv_at hl 5 rfl) ?_
      refine lv_iload C.1 C.2.1 dL_isRead_149 (lv_at hl 4 rfl) ?_
      refine lv_iconst (v := (4 : Int32)) C.1 C.2.1 dL_isRead_151 (by decide) ?_
      refine lv_iload C.1 C.2.1 dL_isRead_152 (lv_at hl 5 rfl) ?_
      refine lv_imul C.1 C.2.1 dL_isRead_154 ?_
      refine lv_ishr C.1 C.2.1 dL_isRead_155 ?_
      refine lv_bipush (v := (15 : Int32)) C.1 C.2.1 dL_isRead_156 (by decide) ?_
      refine lv_iand C.1 C.2.1 dL_isRead_158 ?_
      refine k_i (r_V (As := [.int x7, .int ((x6 >>> (((4 : Int32) * x7) &&& 31)) &&& (15 : Int32))]) (rest := []) C hml (c_X6_value l G x7 (((x6 >>> (((4 : Int32) * x7) &&& 31)) &&& (15 : Int32))) σ29 _ h) kM_X6_value im_X6_value se_X6_value ml_L_85 ⟨rfl, rfl⟩ ⟨Nat.le_of_ble_eq_true rfl, Nat.le_of_ble_eq_true rfl⟩ hcs S.v kd_0 (by decide) (T := TX6) (N := 8) rfl rfl hl.1 rfl (Nat.le_of_ble_eq_true rfl) dL_isRead_159) S (fun r33 σ32 H locs h S => ?_)
      refine lv_aload_n C.1 C.2.1 dL_isRead_162 rfl (lv_at hl 1 rfl) ?_
      refine lv_iload C.1 C.2.1 dL_isRead_163 (lv_at hl 3 rfl) ?_
      refine lv_iconst (v := (2 : Int32)) C.1 C.2.1 dL_isRead_165 (by decide) ?_
      refine k_i (r_V (As := [.int x5, .int (2 : Int32)]) (rest := [.int r33]) C hml (c_X6_occurrence l G x5 ((2 : Int32)) σ32 _ h) kM_X6_occurrence im_X6_occurrence se_X6_occurrence ml_L_69 ⟨rfl, rfl⟩ ⟨Nat.le_of_ble_eq_true rfl, Nat.le_of_ble_eq_true rfl⟩ hcs S.v kd_0 (by decide) (T := TX6) (N := 8) rfl rfl hl.1 rfl (Nat.le_of_ble_eq_true rfl) dL_isRead_166) S (fun r35 σ34 H locs h S => ?_)
      refine lv_icmp_eq (tgt := 174) C.1 C.2.1 dL_isRead_169 (by decide) (fun c36 => ?_) (fun c36 => ?_)
      · replace h := h.1 c36
        refine lv_iconst (v := (0 : Int32)) C.1 C.2.1 dL_isRead_174 (by decide) ?_
        refine lv_istore (lv' := [(9, .int (0 : Int32)), (8, .int (y0 + y1)), (0, .ref (G.2.2 + 0)), (2, .long x2), (5, .int x5), (6, .int x6), (7, .int x7)]) C.1 C.2.1 dL_isRead_175 hl (by decide) rfl (fun ls hl => ?_)
        obtain ⟨nf, h⟩ := h
        exact TL_isRead_177 C hml hcs hR hK80 nf x2 x5 x6 x7 ((y0 + y1)) ((0 : Int32)) S (lv_sub hl [2, 3, 4, 5, 6, 1, 0] rfl) h
      · replace h := h.2 c36
        refine lv_iconst (v := (0 : Int32)) C.1 C.2.1 dL_isRead_172 (by decide) ?_
        exact hR _ _ _ _ _ _ dL_isRead_173 rfl h S
set_option maxHeartbeats 4000000 in
set_option maxRecDepth 100000 in
theorem TL_isRead_495 (C : s_C G p s args m c RL cL_isRead) (hml : c.maxLocals = 12) (hcs : cells ≤ (rm_L_isRead).cells ∧ slots ≤ (rm_L_isRead).slots)  {post : Int32 → Sg → Prop} (hR : ∀ (r : Int32) (σ1 : Sg) (H : Heap) (locs : List Loc) (pc : Nat) (ls : Array Slot), decode cL_isRead pc = .ok (.ireturn, 1) → narrow .boolean (.int r) = .int r → post r σ1 → s_St G σ1 H0 H locs → W p l e rm_L_isRead s m args below meth c H locs cells slots Q (F0 m pc ls [.int r])) : ∀ (y0 : Int32), ∀ {σ : Sg} {H : Heap} {locs : List Loc} {ls : Array Slot}, s_St G σ H0 H locs → lv_has ls 12 [(0, .ref (G.2.2 + 0))] → BL_isRead_495 post y0 σ → W p l e rm_L_isRead s m args below meth c H locs cells slots Q (F0 m 495 ls [.int y0]) := by
  intro y0  σ H locs ls S hl h
  unfold BL_isRead_495 at h
  refine lv_aload_n C.1 C.2.1 dL_isRead_495 rfl (lv_at hl 0 rfl) ?_
  refine lv_iconst (v := (4 : Int32)) C.1 C.2.1 dL_isRead_496 (by decide) ?_
  refine k_i (r_V (As := [.int (4 : Int32)]) (rest := [.int y0]) C hml (c_X6_told l G ((4 : Int32)) σ _ h) kM_X6_told im_X6_told se_X6_told ml_L_57 ⟨rfl, rfl⟩ ⟨Nat.le_of_ble_eq_true rfl, Nat.le_of_ble_eq_true rfl⟩ hcs S.v kd_0 (by decide) (T := TX6) (N := 8) rfl rfl hl.1 rfl (Nat.le_of_ble_eq_true rfl) dL_isRead_497) S (fun r38 σ37 H locs h S => ?_)
  refine lv_if_ne (tgt := 507) C.1 C.2.1 dL_isRead_500 (by decide) (fun c39 => ?_) (fun c39 => ?_)
  · replace h := h.1 c39
    refine lv_iconst (v := (0 : Int32)) C.1 C.2.1 dL_isRead_507 (by decide) ?_
    refine lv_icmp_ne (tgt := 515) C.1 C.2.1 dL_isRead_508 (by decide) (fun c40 => ?_) (fun c40 => ?_)
    · replace h := h.1 c40
      refine lv_iconst (v := (0 : Int32)) C.1 C.2.1 dL_isRead_515 (by decide) ?_
      exact hR _ _ _ _ _ _ dL_isRead_516 rfl h S
    · replace h := h.2 c40
      refine lv_iconst (v := (1 : Int32)) C.1 C.2.1 dL_isRead_511 (by decide) ?_
      refine lv_goto (tgt := 516) C.1 C.2.1 dL_isRead_512 (by decide) ?_
      exact hR _ _ _ _ _ _ dL_isRead_516 rfl h S
  · replace h := h.2 c39
    refine lv_iconst (v := (1 : Int32)) C.1 C.2.1 dL_isRead_503 (by decide) ?_
    refine lv_goto (tgt := 508) C.1 C.2.1 dL_isRead_504 (by decide) ?_
    refine lv_icmp_ne (tgt := 515) C.1 C.2.1 dL_isRead_508 (by decide) (fun c41 => ?_) (fun c41 => ?_)
    · replace h := h.1 c41
      refine lv_iconst (v := (0 : Int32)) C.1 C.2.1 dL_isRead_515 (by decide) ?_
      exact hR _ _ _ _ _ _ dL_isRead_516 rfl h S
    · replace h := h.2 c41
      refine lv_iconst (v := (1 : Int32)) C.1 C.2.1 dL_isRead_511 (by decide) ?_
      refine lv_goto (tgt := 516) C.1 C.2.1 dL_isRead_512 (by decide) ?_
      exact hR _ _ _ _ _ _ dL_isRead_516 rfl h S
set_option maxHeartbeats 4000000 in
set_option maxRecDepth 100000 in
theorem TL_isRead_356 (C : s_C G p s args m c RL cL_isRead) (hml : c.maxLocals = 12) (hcs : cells ≤ (rm_L_isRead).cells ∧ slots ≤ (rm_L_isRead).slots)  {post : Int32 → Sg → Prop} (hR : ∀ (r : Int32) (σ1 : Sg) (H : Heap) (locs : List Loc) (pc : Nat) (ls : Array Slot), decode cL_isRead pc = .ok (.ireturn, 1) → narrow .boolean (.int r) = .int r → post r σ1 → s_St G σ1 H0 H locs → W p l e rm_L_isRead s m args below meth c H locs cells slots Q (F0 m pc ls [.int r])) : ∀ (n : Nat) (x2 : Int64) (x4 : Int32) (x5 : Int32) (x6 : Int32) (x7 : Int32), ∀ {σ : Sg} {H : Heap} {locs : List Loc} {ls : Array Slot}, s_St G σ H0 H locs → lv_has ls 12 [(0, .ref (G.2.2 + 0)), (2, .long x2), (4, .int x4), (5, .int x5), (6, .int x6), (7, .int x7)] → BL_isRead_356 post n x2 x4 x5 x6 x7 σ → W p l e rm_L_isRead s m args below meth c H locs cells slots Q (F0 m 356 ls []) := by
  intro n
  induction n with
  | zero =>
    intro x2 x4 x5 x6 x7  σ H locs ls S hl h
    exact absurd h (fun h => h)
  | succ n ih0 =>
    have ih : ∀ (x2 : Int64) (x4 : Int32) (x5 : Int32) (x6 : Int32) (x7 : Int32), ∀ (σ : Sg) (H : Heap) (locs : List Loc) (ls : Array Slot), s_St G σ H0 H locs → lv_has ls 12 [(0, .ref (G.2.2 + 0)), (2, .long x2), (4, .int x4), (5, .int x5), (6, .int x6), (7, .int x7)] → BL_isRead_356 post n x2 x4 x5 x6 x7 σ → W p l e rm_L_isRead s m args below meth c H locs cells slots Q (F0 m 356 ls []) := fun x2 x4 x5 x6 x7  _ _ _ _ => ih0 x2 x4 x5 x6 x7 
    intro x2 x4 x5 x6 x7  σ H locs ls S hl h
    refine lv_iload C.1 C.2.1 dL_isRead_356 (lv_at hl 5 rfl) ?_
    refine lv_aload_n C.1 C.2.1 dL_isRead_358 rfl (lv_at hl 0 rfl) ?_
    refine lv_iconst (v := (0 : Int32)) C.1 C.2.1 dL_isRead_359 (by decide) ?_
    refine k_i (r_V (As := [.int (0 : Int32)]) (rest := [.int x7]) C hml (c_X6_told l G ((0 : Int32)) σ _ h) kM_X6_told im_X6_told se_X6_told ml_L_57 ⟨rfl, rfl⟩ ⟨Nat.le_of_ble_eq_true rfl, Nat.le_of_ble_eq_true rfl⟩ hcs S.v kd_0 (by decide) (T := TX6) (N := 8) rfl rfl hl.1 rfl (Nat.le_of_ble_eq_true rfl) dL_isRead_360) S (fun r43 σ42 H locs h S => ?_)
    refine lv_icmp_ge (tgt := 438) C.1 C.2.1 dL_isRead_363 (by decide) (fun c44 => ?_) (fun c44 => ?_)
    · replace h := h.1 c44
      refine lv_aload_n C.1 C.2.1 dL_isRead_438 rfl (lv_at hl 0 rfl) ?_
      refine k_i (r_V (As := []) (rest := []) C hml (c_X6_fault l G σ42 _ h) kM_X6_fault im_X6_fault se_X6_fault ml_L_66 ⟨rfl, rfl⟩ ⟨Nat.le_of_ble_eq_true rfl, Nat.le_of_ble_eq_true rfl⟩ hcs S.v kd_0 (by decide) (T := TX6) (N := 8) rfl rfl hl.1 rfl (Nat.le_of_ble_eq_true rfl) dL_isRead_439) S (fun r46 σ45 H locs h S => ?_)
      refine lv_bipush (v := (-9 : Int32)) C.1 C.2.1 dL_isRead_442 (by decide) ?_
      refine lv_icmp_ne (tgt := 515) C.1 C.2.1 dL_isRead_444 (by decide) (fun c47 => ?_) (fun c47 => ?_)
      · replace h := h.1 c47
        refine lv_iconst (v := (0 : Int32)) C.1 C.2.1 dL_isRead_515 (by decide) ?_
        exact hR _ _ _ _ _ _ dL_isRead_516 rfl h S
      · replace h := h.2 c47
        refine lv_iload C.1 C.2.1 dL_isRead_447 (lv_at hl 2 rfl) ?_
        refine lv_aload_n C.1 C.2.1 dL_isRead_449 rfl (lv_at hl 0 rfl) ?_
        refine lv_iconst (v := (4 : Int32)) C.1 C.2.1 dL_isRead_450 (by decide) ?_
        refine k_i (r_V (As := [.int (4 : Int32)]) (rest := [.int x4]) C hml (c_X6_told l G ((4 : Int32)) σ45 _ h) kM_X6_told im_X6_told se_X6_told ml_L_57 ⟨rfl, rfl⟩ ⟨Nat.le_of_ble_eq_true rfl, Nat.le_of_ble_eq_true rfl⟩ hcs S.v kd_0 (by decide) (T := TX6) (N := 8) rfl rfl hl.1 rfl (Nat.le_of_ble_eq_true rfl) dL_isRead_451) S (fun r49 σ48 H locs h S => ?_)
        refine lv_icmp_ne (tgt := 515) C.1 C.2.1 dL_isRead_454 (by decide) (fun c50 => ?_) (fun c50 => ?_)
        · replace h := h.1 c50
          refine lv_iconst (v := (0 : Int32)) C.1 C.2.1 dL_isRead_515 (by decide) ?_
          exact hR _ _ _ _ _ _ dL_isRead_516 rfl h S
        · replace h := h.2 c50
          refine lv_lload_n C.1 C.2.1 dL_isRead_457 rfl (lv_at hl 1 rfl) ?_
          refine lv_lconst (v := (0 : Int64)) C.1 C.2.1 dL_isRead_458 (by decide) ?_
          refine W.lcmp C.1 C.2.1 dL_isRead_459 ?_
          refine lv_if_lt (tgt := 515) C.1 C.2.1 dL_isRead_460 (by decide) (fun c51 => ?_) (fun c51 => ?_)
          · replace h := h.1 c51
            refine lv_iconst (v := (0 : Int32)) C.1 C.2.1 dL_isRead_515 (by decide) ?_
            exact hR _ _ _ _ _ _ dL_isRead_516 rfl h S
          · replace h := h.2 c51
            refine lv_lload_n C.1 C.2.1 dL_isRead_463 rfl (lv_at hl 1 rfl) ?_
            refine lv_aload_n C.1 C.2.1 dL_isRead_464 rfl (lv_at hl 0 rfl) ?_
            refine lv_iconst (v := (-1 : Int32)) C.1 C.2.1 dL_isRead_465 (by decide) ?_
            refine k_l (r_V (As := [.int (-1 : Int32)]) (rest := [.long x2]) C hml (c_X6_orders l G ((-1 : Int32)) σ48 _ h) kM_X6_orders im_X6_orders se_X6_orders ml_L_88 ⟨rfl, rfl⟩ ⟨Nat.le_of_ble_eq_true rfl, Nat.le_of_ble_eq_true rfl⟩ hcs S.v kd_0 (by decide) (T := TX6) (N := 8) rfl rfl hl.1 rfl (Nat.le_of_ble_eq_true rfl) dL_isRead_466) S (fun r53 σ52 H locs h S => ?_)
            refine W.lcmp C.1 C.2.1 dL_isRead_469 ?_
            refine lv_if_ge (tgt := 515) C.1 C.2.1 dL_isRead_470 (by decide) (fun c54 => ?_) (fun c54 => ?_)
            · replace h := h.1 c54
              refine lv_iconst (v := (0 : Int32)) C.1 C.2.1 dL_isRead_515 (by decide) ?_
              exact hR _ _ _ _ _ _ dL_isRead_516 rfl h S
            · replace h := h.2 c54
              refine lv_aload_n C.1 C.2.1 dL_isRead_473 rfl (lv_at hl 0 rfl) ?_
              refine lv_lload_n C.1 C.2.1 dL_isRead_474 rfl (lv_at hl 1 rfl) ?_
              refine lv_iload C.1 C.2.1 dL_isRead_475 (lv_at hl 3 rfl) ?_
              refine k_i (r_V (As := [.long x2, .int x5]) (rest := []) C hml (c_X6_order l G x2 x5 σ52 _ h) kM_X6_order im_X6_order se_X6_order ml_L_81 ⟨rfl, rfl⟩ ⟨Nat.le_of_ble_eq_true rfl, Nat.le_of_ble_eq_true rfl⟩ hcs S.v kd_0 (by decide) (T := TX6) (N := 8) rfl rfl hl.1 rfl (Nat.le_of_ble_eq_true rfl) dL_isRead_477) S (fun r56 σ55 H locs h S => ?_)
              refine lv_bipush (v := (-9 : Int32)) C.1 C.2.1 dL_isRead_480 (by decide) ?_
              refine lv_icmp_ne (tgt := 515) C.1 C.2.1 dL_isRead_482 (by decide) (fun c57 => ?_) (fun c57 => ?_)
              · replace h := h.1 c57
                refine lv_iconst (v := (0 : Int32)) C.1 C.2.1 dL_isRead_515 (by decide) ?_
                exact hR _ _ _ _ _ _ dL_isRead_516 rfl h S
              · replace h := h.2 c57
                refine lv_iload C.1 C.2.1 dL_isRead_485 (lv_at hl 3 rfl) ?_
                refine lv_if_ne (tgt := 494) C.1 C.2.1 dL_isRead_487 (by decide) (fun c58 => ?_) (fun c58 => ?_)
                · replace h := h.1 c58
                  refine lv_iconst (v := (0 : Int32)) C.1 C.2.1 dL_isRead_494 (by decide) ?_
                  exact TL_isRead_495 C hml hcs hR ((0 : Int32)) S (lv_sub hl [0] rfl) h
                · replace h := h.2 c58
                  refine lv_iconst (v := (1 : Int32)) C.1 C.2.1 dL_isRead_490 (by decide) ?_
                  refine lv_goto (tgt := 495) C.1 C.2.1 dL_isRead_491 (by decide) ?_
                  exact TL_isRead_495 C hml hcs hR ((1 : Int32)) S (lv_sub hl [0] rfl) h
    · replace h := h.2 c44
      refine lv_iload C.1 C.2.1 dL_isRead_366 (lv_at hl 4 rfl) ?_
      refine lv_iconst (v := (4 : Int32)) C.1 C.2.1 dL_isRead_368 (by decide) ?_
      refine lv_iload C.1 C.2.1 dL_isRead_369 (lv_at hl 5 rfl) ?_
      refine lv_imul C.1 C.2.1 dL_isRead_371 ?_
      refine lv_ishr C.1 C.2.1 dL_isRead_372 ?_
      refine lv_bipush (v := (15 : Int32)) C.1 C.2.1 dL_isRead_373 (by decide) ?_
      refine lv_iand C.1 C.2.1 dL_isRead_375 ?_
      refine lv_istore (lv' := [(8, .int ((x6 >>> (((4 : Int32) * x7) &&& 31)) &&& (15 : Int32))), (0, .ref (G.2.2 + 0)), (2, .long x2), (4, .int x4), (5, .int x5), (6, .int x6), (7, .int x7)]) C.1 C.2.1 dL_isRead_376 hl (by decide) rfl (fun ls hl => ?_)
      refine lv_iload C.1 C.2.1 dL_isRead_378 (lv_at hl 0 rfl) ?_
      refine lv_aload_n C.1 C.2.1 dL_isRead_380 rfl (lv_at hl 1 rfl) ?_
      refine lv_iload C.1 C.2.1 dL_isRead_381 (lv_at hl 6 rfl) ?_
      refine lv_iconst (v := (1 : Int32)) C.1 C.2.1 dL_isRead_383 (by decide) ?_
      refine k_i (r_V (As := [.int x7, .int (1 : Int32)]) (rest := [.int ((x6 >>> (((4 : Int32) * x7) &&& 31)) &&& (15 : Int32))]) C hml (c_X6_member l G x7 ((1 : Int32)) σ42 _ h) kM_X6_member im_X6_member se_X6_member ml_L_60 ⟨rfl, rfl⟩ ⟨Nat.le_of_ble_eq_true rfl, Nat.le_of_ble_eq_true rfl⟩ hcs S.v kd_0 (by decide) (T := TX6) (N := 8) rfl rfl hl.1 rfl (Nat.le_of_ble_eq_true rfl) dL_isRead_384) S (fun r60 σ59 H locs h S => ?_)
      refine lv_icmp_lt (tgt := 430) C.1 C.2.1 dL_isRead_387 (by decide) (fun c61 => ?_) (fun c61 => ?_)
      · replace h := h.1 c61
        refine lv_iconst (v := (0 : Int32)) C.1 C.2.1 dL_isRead_430 (by decide) ?_
        exact hR _ _ _ _ _ _ dL_isRead_431 rfl h S
      · replace h := h.2 c61
        refine lv_iload C.1 C.2.1 dL_isRead_390 (lv_at hl 0 rfl) ?_
        refine lv_aload_n C.1 C.2.1 dL_isRead_392 rfl (lv_at hl 1 rfl) ?_
        refine lv_iload C.1 C.2.1 dL_isRead_393 (lv_at hl 6 rfl) ?_
        refine lv_iconst (v := (2 : Int32)) C.1 C.2.1 dL_isRead_395 (by decide) ?_
        refine k_i (r_V (As := [.int x7, .int (2 : Int32)]) (rest := [.int ((x6 >>> (((4 : Int32) * x7) &&& 31)) &&& (15 : Int32))]) C hml (c_X6_member l G x7 ((2 : Int32)) σ59 _ h) kM_X6_member im_X6_member se_X6_member ml_L_60 ⟨rfl, rfl⟩ ⟨Nat.le_of_ble_eq_true rfl, Nat.le_of_ble_eq_true rfl⟩ hcs S.v kd_0 (by decide) (T := TX6) (N := 8) rfl rfl hl.1 rfl (Nat.le_of_ble_eq_true rfl) dL_isRead_396) S (fun r63 σ62 H locs h S => ?_)
        refine lv_icmp_gt (tgt := 430) C.1 C.2.1 dL_isRead_399 (by decide) (fun c64 => ?_) (fun c64 => ?_)
        · replace h := h.1 c64
          refine lv_iconst (v := (0 : Int32)) C.1 C.2.1 dL_isRead_430 (by decide) ?_
          exact hR _ _ _ _ _ _ dL_isRead_431 rfl h S
        · replace h := h.2 c64
          refine lv_aload_n C.1 C.2.1 dL_isRead_402 rfl (lv_at hl 1 rfl) ?_
          refine lv_iload C.1 C.2.1 dL_isRead_403 (lv_at hl 6 rfl) ?_
          refine lv_iload C.1 C.2.1 dL_isRead_405 (lv_at hl 0 rfl) ?_
          refine k_i (r_V (As := [.int x7, .int ((x6 >>> (((4 : Int32) * x7) &&& 31)) &&& (15 : Int32))]) (rest := []) C hml (c_X6_value l G x7 (((x6 >>> (((4 : Int32) * x7) &&& 31)) &&& (15 : Int32))) σ62 _ h) kM_X6_value im_X6_value se_X6_value ml_L_85 ⟨rfl, rfl⟩ ⟨Nat.le_of_ble_eq_true rfl, Nat.le_of_ble_eq_true rfl⟩ hcs S.v kd_0 (by decide) (T := TX6) (N := 8) rfl rfl hl.1 rfl (Nat.le_of_ble_eq_true rfl) dL_isRead_407) S (fun r66 σ65 H locs h S => ?_)
          refine lv_iload C.1 C.2.1 dL_isRead_410 (lv_at hl 0 rfl) ?_
          refine lv_if_ne (tgt := 425) C.1 C.2.1 dL_isRead_412 (by decide) (fun c67 => ?_) (fun c67 => ?_)
          · replace h := h.1 c67
            refine lv_bipush (v := (-9 : Int32)) C.1 C.2.1 dL_isRead_425 (by decide) ?_
            refine lv_icmp_eq (tgt := 432) C.1 C.2.1 dL_isRead_427 (by decide) (fun c68 => ?_) (fun c68 => ?_)
            · replace h := h.1 c68
              refine lv_iinc (v := (x7 + 1)) (lv' := [(7, .int (x7 + 1)), (8, .int ((x6 >>> (((4 : Int32) * x7) &&& 31)) &&& (15 : Int32))), (0, .ref (G.2.2 + 0)), (2, .long x2), (4, .int x4), (5, .int x5), (6, .int x6)]) C.1 C.2.1 dL_isRead_432 hl (k := 6) rfl rfl (by decide) rfl (fun ls hl => ?_)
              refine lv_goto (tgt := 356) C.1 C.2.1 dL_isRead_435 (by decide) ?_
              exact ih x2 x4 x5 x6 ((x7 + 1)) _ _ _ _ S (lv_sub hl [2, 3, 4, 5, 6, 0] rfl) h
            · replace h := h.2 c68
              refine lv_iconst (v := (0 : Int32)) C.1 C.2.1 dL_isRead_430 (by decide) ?_
              exact hR _ _ _ _ _ _ dL_isRead_431 rfl h S
          · replace h := h.2 c67
            refine lv_aload_n C.1 C.2.1 dL_isRead_415 rfl (lv_at hl 1 rfl) ?_
            refine lv_iload C.1 C.2.1 dL_isRead_416 (lv_at hl 6 rfl) ?_
            refine lv_iconst (v := (3 : Int32)) C.1 C.2.1 dL_isRead_418 (by decide) ?_
            refine k_i (r_V (As := [.int x7, .int (3 : Int32)]) (rest := [.int r66]) C hml (c_X6_member l G x7 ((3 : Int32)) σ65 _ h) kM_X6_member im_X6_member se_X6_member ml_L_60 ⟨rfl, rfl⟩ ⟨Nat.le_of_ble_eq_true rfl, Nat.le_of_ble_eq_true rfl⟩ hcs S.v kd_0 (by decide) (T := TX6) (N := 8) rfl rfl hl.1 rfl (Nat.le_of_ble_eq_true rfl) dL_isRead_419) S (fun r70 σ69 H locs h S => ?_)
            refine lv_goto (tgt := 427) C.1 C.2.1 dL_isRead_422 (by decide) ?_
            refine lv_icmp_eq (tgt := 432) C.1 C.2.1 dL_isRead_427 (by decide) (fun c71 => ?_) (fun c71 => ?_)
            · replace h := h.1 c71
              refine lv_iinc (v := (x7 + 1)) (lv' := [(7, .int (x7 + 1)), (8, .int ((x6 >>> (((4 : Int32) * x7) &&& 31)) &&& (15 : Int32))), (0, .ref (G.2.2 + 0)), (2, .long x2), (4, .int x4), (5, .int x5), (6, .int x6)]) C.1 C.2.1 dL_isRead_432 hl (k := 6) rfl rfl (by decide) rfl (fun ls hl => ?_)
              refine lv_goto (tgt := 356) C.1 C.2.1 dL_isRead_435 (by decide) ?_
              exact ih x2 x4 x5 x6 ((x7 + 1)) _ _ _ _ S (lv_sub hl [2, 3, 4, 5, 6, 0] rfl) h
            · replace h := h.2 c71
              refine lv_iconst (v := (0 : Int32)) C.1 C.2.1 dL_isRead_430 (by decide) ?_
              exact hR _ _ _ _ _ _ dL_isRead_431 rfl h S
set_option maxHeartbeats 4000000 in
set_option maxRecDepth 100000 in
theorem TL_isRead_80 (C : s_C G p s args m c RL cL_isRead) (hml : c.maxLocals = 12) (hcs : cells ≤ (rm_L_isRead).cells ∧ slots ≤ (rm_L_isRead).slots)  {post : Int32 → Sg → Prop} (hR : ∀ (r : Int32) (σ1 : Sg) (H : Heap) (locs : List Loc) (pc : Nat) (ls : Array Slot), decode cL_isRead pc = .ok (.ireturn, 1) → narrow .boolean (.int r) = .int r → post r σ1 → s_St G σ1 H0 H locs → W p l e rm_L_isRead s m args below meth c H locs cells slots Q (F0 m pc ls [.int r])) : ∀ (n : Nat) (x2 : Int64) (x4 : Int32) (x5 : Int32) (x6 : Int32), ∀ {σ : Sg} {H : Heap} {locs : List Loc} {ls : Array Slot}, s_St G σ H0 H locs → lv_has ls 12 [(0, .ref (G.2.2 + 0)), (2, .long x2), (4, .int x4), (5, .int x5), (6, .int x6)] → BL_isRead_80 post n x2 x4 x5 x6 σ → W p l e rm_L_isRead s m args below meth c H locs cells slots Q (F0 m 80 ls []) := by
  intro n
  induction n with
  | zero =>
    intro x2 x4 x5 x6  σ H locs ls S hl h
    exact absurd h (fun h => h)
  | succ n ih0 =>
    have ih : ∀ (x2 : Int64) (x4 : Int32) (x5 : Int32) (x6 : Int32), ∀ (σ : Sg) (H : Heap) (locs : List Loc) (ls : Array Slot), s_St G σ H0 H locs → lv_has ls 12 [(0, .ref (G.2.2 + 0)), (2, .long x2), (4, .int x4), (5, .int x5), (6, .int x6)] → BL_isRead_80 post n x2 x4 x5 x6 σ → W p l e rm_L_isRead s m args below meth c H locs cells slots Q (F0 m 80 ls []) := fun x2 x4 x5 x6  _ _ _ _ => ih0 x2 x4 x5 x6 
    intro x2 x4 x5 x6  σ H locs ls S hl h
    refine lv_aload_n C.1 C.2.1 dL_isRead_80 rfl (lv_at hl 0 rfl) ?_
    refine lv_iload C.1 C.2.1 dL_isRead_81 (lv_at hl 3 rfl) ?_
    refine lv_iconst (v := (0 : Int32)) C.1 C.2.1 dL_isRead_83 (by decide) ?_
    refine k_i (r_V (As := [.int x5, .int (0 : Int32)]) (rest := []) C hml (c_X6_occurrence l G x5 ((0 : Int32)) σ _ h) kM_X6_occurrence im_X6_occurrence se_X6_occurrence ml_L_69 ⟨rfl, rfl⟩ ⟨Nat.le_of_ble_eq_true rfl, Nat.le_of_ble_eq_true rfl⟩ hcs S.v kd_0 (by decide) (T := TX6) (N := 8) rfl rfl hl.1 rfl (Nat.le_of_ble_eq_true rfl) dL_isRead_84) S (fun r73 σ72 H locs h S => ?_)
    refine lv_if_lt (tgt := 353) C.1 C.2.1 dL_isRead_87 (by decide) (fun c74 => ?_) (fun c74 => ?_)
    · replace h := h.1 c74
      refine lv_iconst (v := (0 : Int32)) C.1 C.2.1 dL_isRead_353 (by decide) ?_
      refine lv_istore (lv' := [(7, .int (0 : Int32)), (0, .ref (G.2.2 + 0)), (2, .long x2), (4, .int x4), (5, .int x5), (6, .int x6)]) C.1 C.2.1 dL_isRead_354 hl (by decide) rfl (fun ls hl => ?_)
      obtain ⟨nf, h⟩ := h
      exact TL_isRead_356 C hml hcs hR nf x2 x4 x5 x6 ((0 : Int32)) S (lv_sub hl [1, 2, 3, 4, 5, 0] rfl) h
    · replace h := h.2 c74
      refine lv_aload_n C.1 C.2.1 dL_isRead_90 rfl (lv_at hl 0 rfl) ?_
      refine lv_iload C.1 C.2.1 dL_isRead_91 (lv_at hl 3 rfl) ?_
      refine lv_iconst (v := (0 : Int32)) C.1 C.2.1 dL_isRead_93 (by decide) ?_
      refine k_i (r_V (As := [.int x5, .int (0 : Int32)]) (rest := []) C hml (c_X6_occurrence l G x5 ((0 : Int32)) σ72 _ h) kM_X6_occurrence im_X6_occurrence se_X6_occurrence ml_L_69 ⟨rfl, rfl⟩ ⟨Nat.le_of_ble_eq_true rfl, Nat.le_of_ble_eq_true rfl⟩ hcs S.v kd_0 (by decide) (T := TX6) (N := 8) rfl rfl hl.1 rfl (Nat.le_of_ble_eq_true rfl) dL_isRead_94) S (fun r76 σ75 H locs h S => ?_)
      refine lv_istore (lv' := [(7, .int r76), (0, .ref (G.2.2 + 0)), (2, .long x2), (4, .int x4), (5, .int x5), (6, .int x6)]) C.1 C.2.1 dL_isRead_97 hl (by decide) rfl (fun ls hl => ?_)
      refine lv_iload C.1 C.2.1 dL_isRead_99 (lv_at hl 3 rfl) ?_
      refine lv_iload C.1 C.2.1 dL_isRead_101 (lv_at hl 4 rfl) ?_
      refine lv_if_le (tgt := 118) C.1 C.2.1 dL_isRead_103 (by decide) (fun c77 => ?_) (fun c77 => ?_)
      · replace h := h.1 c77
        refine lv_iconst (v := (0 : Int32)) C.1 C.2.1 dL_isRead_118 (by decide) ?_
        exact TL_isRead_119 C hml hcs hR ih x2 x5 x6 r76 x4 ((0 : Int32)) S (lv_sub hl [1, 2, 4, 5, 0] rfl) h
      · replace h := h.2 c77
        refine lv_aload_n C.1 C.2.1 dL_isRead_106 rfl (lv_at hl 1 rfl) ?_
        refine lv_iconst (v := (1 : Int32)) C.1 C.2.1 dL_isRead_107 (by decide) ?_
        refine k_i (r_V (As := [.int (1 : Int32)]) (rest := [.int x4]) C hml (c_X6_told l G ((1 : Int32)) σ75 _ h) kM_X6_told im_X6_told se_X6_told ml_L_57 ⟨rfl, rfl⟩ ⟨Nat.le_of_ble_eq_true rfl, Nat.le_of_ble_eq_true rfl⟩ hcs S.v kd_0 (by decide) (T := TX6) (N := 8) rfl rfl hl.1 rfl (Nat.le_of_ble_eq_true rfl) dL_isRead_108) S (fun r79 σ78 H locs h S => ?_)
        refine lv_if_le (tgt := 118) C.1 C.2.1 dL_isRead_111 (by decide) (fun c80 => ?_) (fun c80 => ?_)
        · replace h := h.1 c80
          refine lv_iconst (v := (0 : Int32)) C.1 C.2.1 dL_isRead_118 (by decide) ?_
          exact TL_isRead_119 C hml hcs hR ih x2 x5 x6 r76 x4 ((0 : Int32)) S (lv_sub hl [1, 2, 4, 5, 0] rfl) h
        · replace h := h.2 c80
          refine lv_iconst (v := (1 : Int32)) C.1 C.2.1 dL_isRead_114 (by decide) ?_
          refine lv_goto (tgt := 119) C.1 C.2.1 dL_isRead_115 (by decide) ?_
          exact TL_isRead_119 C hml hcs hR ih x2 x5 x6 r76 x4 ((1 : Int32)) S (lv_sub hl [1, 2, 4, 5, 0] rfl) h
theorem kM_L_isRead : s_M yL_isRead cL_isRead 12 (some .boolean) 1 := ⟨co_L_isRead, in_L, by decide, by decide, by decide +kernel⟩
set_option maxHeartbeats 4000000 in
set_option maxRecDepth 100000 in
theorem c_L_isRead (l : Launch) (G : s_G)  (σ : Sg) (post : Int32 → Sg → Prop) (h : wpL_isRead σ post) : Met l yL_isRead (wsU yL_isRead cL_isRead 12 (some .boolean)) rm_L_isRead (va_Pc [.ref (G.2.2 + 0)] (s_Pre G σ)) (va_Qi post (s_B G) (s_A G.2.2)) 0 0 (s_A G.2.2) := by
  refine Met.ofW (cc := cL_isRead) (maxL := 12) (ret := (some .boolean)) (by decide) rfl ?_
  intro p e s m args below meth c s₁ B hml hv
  obtain ⟨rfl, hP, hrok, hK, hN⟩ := hv
  have C : s_C G p s (([.ref (G.2.2 + 0)] : List Value).toArray) m c RL cL_isRead := ⟨B.exec, B.bytes, findClass_of_methodNamed B.named, fun w hw => atoms_spec (ws := wsU yL_isRead cL_isRead 12 (some .boolean)) B.pre w (List.mem_cons_of_mem _ hw), hK, hN⟩
  have hr := B.returns
  have hlocks := B.notSynchronized
  have S : s_St G σ s.heap s.heap [] := ⟨hP, va_S.rf, hrok⟩
  have hcs : 0 ≤ (rm_L_isRead).cells ∧ 0 ≤ (rm_L_isRead).slots := ⟨Nat.le_refl 0, Nat.le_refl 0⟩
  have hR : ∀ (r : Int32) (σ1 : Sg) (H : Heap) (locs : List Loc) (pc : Nat) (ls : Array Slot), decode cL_isRead pc = .ok (.ireturn, 1) → narrow .boolean (.int r) = .int r → post r σ1 → s_St G σ1 s.heap H locs → W p l e rm_L_isRead s m ([.ref (G.2.2 + 0)] : List Value).toArray below meth c H locs 0 0 (MQ below (va_Qi post (s_B G) (s_A G.2.2)) ([.ref (G.2.2 + 0)] : List Value).toArray s 0 0 (s_A G.2.2)) (F0 m pc ls [.int r]) := fun _ _ _ _ _ _ hd hn hp S => ret_z C hr hlocks hd hn hp S
  have hl := lv_entry ([.ref (G.2.2 + 0)]) (n := 12) (Nat.le_of_ble_eq_true rfl)
  rw [lg_entry_eq]
  generalize (lg_sl ([.ref (G.2.2 + 0)]) ++ List.replicate (12 - (lg_sl ([.ref (G.2.2 + 0)])).length) Slot.unset).toArray = ls at hl ⊢
  have hl : lv_has ls 12 [(0, .ref (G.2.2 + 0))] := hl
  unfold wpL_isRead at h
  refine lv_aload_n C.1 C.2.1 dL_isRead_0 rfl (lv_at hl 0 rfl) ?_
  refine k_i (r_V (As := []) (rest := []) C hml (c_X6_readings l G σ _ h) kM_X6_readings im_X6_readings se_X6_readings ml_L_63 ⟨rfl, rfl⟩ ⟨Nat.le_of_ble_eq_true rfl, Nat.le_of_ble_eq_true rfl⟩ hcs S.v kd_0 (by decide) (T := TX6) (N := 8) rfl rfl hl.1 rfl (Nat.le_of_ble_eq_true rfl) dL_isRead_1) S (fun r82 σ81 H locs h S => ?_)
  refine lv_istore_n (lv' := [(1, .int r82), (0, .ref (G.2.2 + 0))]) C.1 C.2.1 dL_isRead_4 rfl hl (by decide) rfl (fun ls hl => ?_)
  refine lv_iload_n C.1 C.2.1 dL_isRead_5 rfl (lv_at hl 0 rfl) ?_
  refine lv_if_ne (tgt := 66) C.1 C.2.1 dL_isRead_6 (by decide) (fun c83 => ?_) (fun c83 => ?_)
  · replace h := h.1 c83
    refine lv_aload_n C.1 C.2.1 dL_isRead_66 rfl (lv_at hl 1 rfl) ?_
    refine k_l (r_V (As := []) (rest := []) C hml (c_X6_rank l G σ81 _ h) kM_X6_rank im_X6_rank se_X6_rank ml_L_72 ⟨rfl, rfl⟩ ⟨Nat.le_of_ble_eq_true rfl, Nat.le_of_ble_eq_true rfl⟩ hcs S.v kd_0 (by decide) (T := TX6) (N := 8) rfl rfl hl.1 rfl (Nat.le_of_ble_eq_true rfl) dL_isRead_67) S (fun r85 σ84 H locs h S => ?_)
    refine lv_lstore_n (lv' := [(2, .long r85), (1, .int r82), (0, .ref (G.2.2 + 0))]) C.1 C.2.1 dL_isRead_70 rfl hl (by decide) rfl (fun ls hl => ?_)
    refine lv_iconst (v := (0 : Int32)) C.1 C.2.1 dL_isRead_71 (by decide) ?_
    refine lv_istore (lv' := [(4, .int (0 : Int32)), (2, .long r85), (1, .int r82), (0, .ref (G.2.2 + 0))]) C.1 C.2.1 dL_isRead_72 hl (by decide) rfl (fun ls hl => ?_)
    refine lv_iconst (v := (0 : Int32)) C.1 C.2.1 dL_isRead_74 (by decide) ?_
    refine lv_istore (lv' := [(5, .int (0 : Int32)), (4, .int (0 : Int32)), (2, .long r85), (1, .int r82), (0, .ref (G.2.2 + 0))]) C.1 C.2.1 dL_isRead_75 hl (by decide) rfl (fun ls hl => ?_)
    refine lv_iconst (v := (0 : Int32)) C.1 C.2.1 dL_isRead_77 (by decide) ?_
    refine lv_istore (lv' := [(6, .int (0 : Int32)), (5, .int (0 : Int32)), (4, .int (0 : Int32)), (2, .long r85), (1, .int r82), (0, .ref (G.2.2 + 0))]) C.1 C.2.1 dL_isRead_78 hl (by decide) rfl (fun ls hl => ?_)
    obtain ⟨nf, h⟩ := h
    exact TL_isRead_80 C hml hcs hR nf r85 ((0 : Int32)) ((0 : Int32)) ((0 : Int32)) S (lv_sub hl [5, 3, 2, 1, 0] rfl) h
  · replace h := h.2 c83
    refine lv_aload_n C.1 C.2.1 dL_isRead_9 rfl (lv_at hl 1 rfl) ?_
    refine k_i (r_V (As := []) (rest := []) C hml (c_X6_fault l G σ81 _ h) kM_X6_fault im_X6_fault se_X6_fault ml_L_66 ⟨rfl, rfl⟩ ⟨Nat.le_of_ble_eq_true rfl, Nat.le_of_ble_eq_true rfl⟩ hcs S.v kd_0 (by decide) (T := TX6) (N := 8) rfl rfl hl.1 rfl (Nat.le_of_ble_eq_true rfl) dL_isRead_10) S (fun r87 σ86 H locs h S => ?_)
    refine lv_if_lt (tgt := 64) C.1 C.2.1 dL_isRead_13 (by decide) (fun c88 => ?_) (fun c88 => ?_)
    · replace h := h.1 c88
      refine lv_iconst (v := (0 : Int32)) C.1 C.2.1 dL_isRead_64 (by decide) ?_
      exact hR _ _ _ _ _ _ dL_isRead_65 rfl h S
    · replace h := h.2 c88
      refine lv_aload_n C.1 C.2.1 dL_isRead_16 rfl (lv_at hl 1 rfl) ?_
      refine k_i (r_V (As := []) (rest := []) C hml (c_X6_fault l G σ86 _ h) kM_X6_fault im_X6_fault se_X6_fault ml_L_66 ⟨rfl, rfl⟩ ⟨Nat.le_of_ble_eq_true rfl, Nat.le_of_ble_eq_true rfl⟩ hcs S.v kd_0 (by decide) (T := TX6) (N := 8) rfl rfl hl.1 rfl (Nat.le_of_ble_eq_true rfl) dL_isRead_17) S (fun r90 σ89 H locs h S => ?_)
      refine lv_aload_n C.1 C.2.1 dL_isRead_20 rfl (lv_at hl 1 rfl) ?_
      refine lv_iconst (v := (4 : Int32)) C.1 C.2.1 dL_isRead_21 (by decide) ?_
      refine k_i (r_V (As := [.int (4 : Int32)]) (rest := [.int r90]) C hml (c_X6_told l G ((4 : Int32)) σ89 _ h) kM_X6_told im_X6_told se_X6_told ml_L_57 ⟨rfl, rfl⟩ ⟨Nat.le_of_ble_eq_true rfl, Nat.le_of_ble_eq_true rfl⟩ hcs S.v kd_0 (by decide) (T := TX6) (N := 8) rfl rfl hl.1 rfl (Nat.le_of_ble_eq_true rfl) dL_isRead_22) S (fun r92 σ91 H locs h S => ?_)
      refine lv_icmp_gt (tgt := 64) C.1 C.2.1 dL_isRead_25 (by decide) (fun c93 => ?_) (fun c93 => ?_)
      · replace h := h.1 c93
        refine lv_iconst (v := (0 : Int32)) C.1 C.2.1 dL_isRead_64 (by decide) ?_
        exact hR _ _ _ _ _ _ dL_isRead_65 rfl h S
      · replace h := h.2 c93
        refine lv_aload_n C.1 C.2.1 dL_isRead_28 rfl (lv_at hl 1 rfl) ?_
        refine lv_iconst (v := (0 : Int32)) C.1 C.2.1 dL_isRead_29 (by decide) ?_
        refine lv_iconst (v := (0 : Int32)) C.1 C.2.1 dL_isRead_30 (by decide) ?_
        refine k_i (r_V (As := [.int (0 : Int32), .int (0 : Int32)]) (rest := []) C hml (c_X6_occurrence l G ((0 : Int32)) ((0 : Int32)) σ91 _ h) kM_X6_occurrence im_X6_occurrence se_X6_occurrence ml_L_69 ⟨rfl, rfl⟩ ⟨Nat.le_of_ble_eq_true rfl, Nat.le_of_ble_eq_true rfl⟩ hcs S.v kd_0 (by decide) (T := TX6) (N := 8) rfl rfl hl.1 rfl (Nat.le_of_ble_eq_true rfl) dL_isRead_31) S (fun r95 σ94 H locs h S => ?_)
        refine lv_bipush (v := (-2 : Int32)) C.1 C.2.1 dL_isRead_34 (by decide) ?_
        refine lv_icmp_ne (tgt := 64) C.1 C.2.1 dL_isRead_36 (by decide) (fun c96 => ?_) (fun c96 => ?_)
        · replace h := h.1 c96
          refine lv_iconst (v := (0 : Int32)) C.1 C.2.1 dL_isRead_64 (by decide) ?_
          exact hR _ _ _ _ _ _ dL_isRead_65 rfl h S
        · replace h := h.2 c96
          refine lv_aload_n C.1 C.2.1 dL_isRead_39 rfl (lv_at hl 1 rfl) ?_
          refine k_l (r_V (As := []) (rest := []) C hml (c_X6_rank l G σ94 _ h) kM_X6_rank im_X6_rank se_X6_rank ml_L_72 ⟨rfl, rfl⟩ ⟨Nat.le_of_ble_eq_true rfl, Nat.le_of_ble_eq_true rfl⟩ hcs S.v kd_0 (by decide) (T := TX6) (N := 8) rfl rfl hl.1 rfl (Nat.le_of_ble_eq_true rfl) dL_isRead_40) S (fun r98 σ97 H locs h S => ?_)
          refine lv_ldc2 (v := (-2 : Int64)) C.1 C.2.1 C.2.2.1 (C.2.2.2.1 _ cl_L_76) dL_isRead_43 ?_
          refine W.lcmp C.1 C.2.1 dL_isRead_46 ?_
          refine lv_if_ne (tgt := 64) C.1 C.2.1 dL_isRead_47 (by decide) (fun c99 => ?_) (fun c99 => ?_)
          · replace h := h.1 c99
            refine lv_iconst (v := (0 : Int32)) C.1 C.2.1 dL_isRead_64 (by decide) ?_
            exact hR _ _ _ _ _ _ dL_isRead_65 rfl h S
          · replace h := h.2 c99
            refine lv_aload_n C.1 C.2.1 dL_isRead_50 rfl (lv_at hl 1 rfl) ?_
            refine lv_iconst (v := (0 : Int32)) C.1 C.2.1 dL_isRead_51 (by decide) ?_
            refine k_i (r_V (As := [.int (0 : Int32)]) (rest := []) C hml (c_X6_normal l G ((0 : Int32)) σ97 _ h) kM_X6_normal im_X6_normal se_X6_normal ml_L_78 ⟨rfl, rfl⟩ ⟨Nat.le_of_ble_eq_true rfl, Nat.le_of_ble_eq_true rfl⟩ hcs S.v kd_0 (by decide) (T := TX6) (N := 8) rfl rfl hl.1 rfl (Nat.le_of_ble_eq_true rfl) dL_isRead_52) S (fun r101 σ100 H locs h S => ?_)
            refine lv_bipush (v := (-2 : Int32)) C.1 C.2.1 dL_isRead_55 (by decide) ?_
            refine lv_icmp_ne (tgt := 64) C.1 C.2.1 dL_isRead_57 (by decide) (fun c102 => ?_) (fun c102 => ?_)
            · replace h := h.1 c102
              refine lv_iconst (v := (0 : Int32)) C.1 C.2.1 dL_isRead_64 (by decide) ?_
              exact hR _ _ _ _ _ _ dL_isRead_65 rfl h S
            · replace h := h.2 c102
              refine lv_iconst (v := (1 : Int32)) C.1 C.2.1 dL_isRead_60 (by decide) ?_
              refine lv_goto (tgt := 65) C.1 C.2.1 dL_isRead_61 (by decide) ?_
              exact hR _ _ _ _ _ _ dL_isRead_65 rfl h S
/-! L_text -/
abbrev rm_L_text : Room := { frames := 5, cells := 0, slots := 0, locals := 109 }
def BL_text_198 (x1 : Int32) (x2 : Int32) (K218 : Int32 → Int32 → Int32 → Int32 → Int32 → Int32 → Int32 → Sg → Prop) (post : Int32 → Sg → Prop) (x4 : Int32) (x5 : Int32) (x6 : Int32) (x8 : Int32) (x10 : Int32) (x11 : Int32) (y0 : Int32) (σ : Sg) : Prop := wpL_low ((x11 >>> ((2 : Int32) &&& 31))) ((10 : Int32)) σ (fun r2 σ1 => wpX6_write (((48 : Int32) + r2)) σ1 (fun r4 σ3 => K218 x4 x5 x6 r4 x8 x10 x11 σ3))
def BL_text_218 (x1 : Int32) (x2 : Int32) (K42 : Int32 → Int32 → Int32 → Int32 → Int32 → Sg → Prop) (post : Int32 → Sg → Prop) (x4 : Int32) (x5 : Int32) (x6 : Int32) (x7 : Int32) (x8 : Int32) (x10 : Int32) (x11 : Int32) (σ : Sg) : Prop := (((¬ x10 = (2 : Int32)) → K42 x4 x5 x6 x7 ((x8 + 1)) σ) ∧ ((x10 = (2 : Int32)) → wpL_low x11 ((26 : Int32)) σ (fun r7 σ6 => wpX6_write (((65 : Int32) + r7)) σ6 (fun r9 σ8 => K42 x4 x5 x6 r9 ((x8 + 1)) σ8))))
def BL_text_105 (x1 : Int32) (x2 : Int32) (K42 : Int32 → Int32 → Int32 → Int32 → Int32 → Sg → Prop) (post : Int32 → Sg → Prop) : Nat → Int32 → Int32 → Int32 → Int32 → Int32 → Int32 → Int32 → Sg → Prop
  | 0, _, _, _, _, _, _, _, _ => False
  | n + 1, x4, x5, x6, x7, x8, x9, x10, σ => ((((8 : Int32) ≤ x10) → wpX6_member x9 ((0 : Int32)) σ (fun r12 σ11 => (((¬ r12 = (1 : Int32)) → BL_text_218 x1 x2 K42 post x4 x5 x6 x7 x8 r12 ((x2 >>> (((4 : Int32) * x8) &&& 31))) σ11) ∧ ((r12 = (1 : Int32)) → wpL_low ((x2 >>> (((4 : Int32) * x8) &&& 31))) ((3 : Int32)) σ11 (fun r15 σ14 => (((¬ r15 = 0) → BL_text_198 x1 x2 (fun x4_ x5_ x6_ x7_ x8_ x10_ x11_ σ_ => BL_text_218 x1 x2 K42 post x4_ x5_ x6_ x7_ x8_ x10_ x11_ σ_) post x4 x5 x6 x8 r12 ((x2 >>> (((4 : Int32) * x8) &&& 31))) x7 σ14) ∧ ((r15 = 0) → wpL_low ((x2 >>> (((4 : Int32) * x8) &&& 31))) ((4 : Int32)) σ14 (fun r18 σ17 => wpX6_write (((48 : Int32) + r18)) σ17 (fun r20 σ19 => BL_text_198 x1 x2 (fun x4_ x5_ x6_ x7_ x8_ x10_ x11_ σ_ => BL_text_218 x1 x2 K42 post x4_ x5_ x6_ x7_ x8_ x10_ x11_ σ_) post x4 x5 x6 x8 r12 ((x2 >>> (((4 : Int32) * x8) &&& 31))) r20 σ19))))))))) ∧ ((¬ (8 : Int32) ≤ x10) → wpX6_member x9 x10 σ (fun r22 σ21 => (((r22 < 0) → BL_text_105 x1 x2 K42 post n x4 x5 x6 x7 x8 x9 ((x10 + 1)) σ21) ∧ ((¬ r22 < 0) → wpX6_member x9 x10 σ21 (fun r25 σ24 => wpX6_write r25 σ24 (fun r27 σ26 => BL_text_105 x1 x2 K42 post n x4 x5 x6 r27 x8 x9 ((x10 + 1)) σ26)))))))
def BL_text_42 (x1 : Int32) (x2 : Int32) (post : Int32 → Sg → Prop) : Nat → Int32 → Int32 → Int32 → Int32 → Int32 → Sg → Prop
  | 0, _, _, _, _, _, _ => False
  | n + 1, x4, x5, x6, x7, x8, σ => (((x6 ≤ x8) → post x7 σ) ∧ ((¬ x6 ≤ x8) → wpL_low ((x1 >>> (((3 : Int32) + ((3 : Int32) * x8)) &&& 31))) x4 σ (fun r30 σ29 => (((x8 ≤ 0) → ∃ nf, BL_text_105 x1 x2 (BL_text_42 x1 x2 post n) post nf x4 x5 x6 x7 x8 r30 ((5 : Int32)) σ29) ∧ ((¬ x8 ≤ 0) → (((x5 ≤ 0) → ∃ nf, BL_text_105 x1 x2 (BL_text_42 x1 x2 post n) post nf x4 x5 x6 x7 x8 r30 ((5 : Int32)) σ29) ∧ ((¬ x5 ≤ 0) → wpL_low ((x2 >>> (((20 : Int32) + x8) &&& 31))) ((9 : Int32)) σ29 (fun r34 σ33 => (((r34 ≤ 0) → ∃ nf, BL_text_105 x1 x2 (BL_text_42 x1 x2 post n) post nf x4 x5 x6 x7 x8 r30 ((5 : Int32)) σ33) ∧ ((¬ r34 ≤ 0) → wpX6_write x5 σ33 (fun r37 σ36 => ∃ nf, BL_text_105 x1 x2 (BL_text_42 x1 x2 post n) post nf x4 x5 x6 r37 x8 r30 ((5 : Int32)) σ36)))))))))))
def wpL_text (x1 : Int32) (x2 : Int32) (σ : Sg) (post : Int32 → Sg → Prop) : Prop := wpX6_wipe σ (fun r39 σ38 => wpX6_told ((0 : Int32)) σ38 (fun r41 σ40 => wpX6_told ((1 : Int32)) σ40 (fun r43 σ42 => (((¬ r41 = 0) → wpL_low x1 ((6 : Int32)) σ42 (fun r46 σ45 => ∃ nf, BL_text_42 x1 x2 post nf r41 r43 r46 ((0 : Int32)) ((0 : Int32)) σ45)) ∧ ((r41 = 0) → ∃ nf, BL_text_42 x1 x2 post nf r41 r43 ((0 : Int32)) ((0 : Int32)) ((0 : Int32)) σ42)))))
set_option maxHeartbeats 4000000 in
set_option maxRecDepth 100000 in
theorem TL_text_198 (C : s_C G p s args m c RL cL_text) (hml : c.maxLocals = 12) (hcs : cells ≤ (rm_L_text).cells ∧ slots ≤ (rm_L_text).slots) {x1 : Int32} {x2 : Int32} {K218 : Int32 → Int32 → Int32 → Int32 → Int32 → Int32 → Int32 → Sg → Prop} {post : Int32 → Sg → Prop} (hR : ∀ (r : Int32) (σ1 : Sg) (H : Heap) (locs : List Loc) (pc : Nat) (ls : Array Slot), decode cL_text pc = .ok (.ireturn, 1) → post r σ1 → s_St G σ1 H0 H locs → W p l e rm_L_text s m args below meth c H locs cells slots Q (F0 m pc ls [.int r])) (hK218 : ∀ (x4 : Int32) (x5 : Int32) (x6 : Int32) (x7 : Int32) (x8 : Int32) (x10 : Int32) (x11 : Int32), ∀ (σ : Sg) (H : Heap) (locs : List Loc) (ls : Array Slot), s_St G σ H0 H locs → lv_has ls 12 [(0, .ref (G.2.2 + 0)), (1, .int x1), (2, .int x2), (4, .int x4), (5, .int x5), (6, .int x6), (7, .int x7), (8, .int x8), (10, .int x10), (11, .int x11)] → K218 x4 x5 x6 x7 x8 x10 x11 σ → W p l e rm_L_text s m args below meth c H locs cells slots Q (F0 m 218 ls [])) : ∀ (x4 : Int32) (x5 : Int32) (x6 : Int32) (x8 : Int32) (x10 : Int32) (x11 : Int32) (y0 : Int32), ∀ {σ : Sg} {H : Heap} {locs : List Loc} {ls : Array Slot}, s_St G σ H0 H locs → lv_has ls 12 [(0, .ref (G.2.2 + 0)), (1, .int x1), (2, .int x2), (4, .int x4), (5, .int x5), (6, .int x6), (8, .int x8), (10, .int x10), (11, .int x11)] → BL_text_198 x1 x2 K218 post x4 x5 x6 x8 x10 x11 y0 σ → W p l e rm_L_text s m args below meth c H locs cells slots Q (F0 m 198 ls [.int y0]) := by
  intro x4 x5 x6 x8 x10 x11 y0  σ H locs ls S hl h
  unfold BL_text_198 at h
  refine lv_istore (lv' := [(7, .int y0), (0, .ref (G.2.2 + 0)), (1, .int x1), (2, .int x2), (4, .int x4), (5, .int x5), (6, .int x6), (8, .int x8), (10, .int x10), (11, .int x11)]) C.1 C.2.1 dL_text_198 hl (by decide) rfl (fun ls hl => ?_)
  refine lv_aload_n C.1 C.2.1 dL_text_200 rfl (lv_at hl 1 rfl) ?_
  refine lv_bipush (v := (48 : Int32)) C.1 C.2.1 dL_text_201 (by decide) ?_
  refine lv_iload C.1 C.2.1 dL_text_203 (lv_at hl 9 rfl) ?_
  refine lv_iconst (v := (2 : Int32)) C.1 C.2.1 dL_text_205 (by decide) ?_
  refine lv_ishr C.1 C.2.1 dL_text_206 ?_
  refine lv_bipush (v := (10 : Int32)) C.1 C.2.1 dL_text_207 (by decide) ?_
  refine k_i (r_S (As := [.int (x11 >>> ((2 : Int32) &&& 31)), .int (10 : Int32)]) (rest := [.int (48 : Int32), .ref (G.2.2 + 0)]) C hml (c_L_low l G ((x11 >>> ((2 : Int32) &&& 31))) ((10 : Int32)) σ _ h) kM_L_low st_L_low ml_L_15 ⟨rfl, rfl⟩ ⟨Nat.le_of_ble_eq_true rfl, Nat.le_of_ble_eq_true rfl⟩ hcs S.v rfl hl.1 rfl (Nat.le_of_ble_eq_true rfl) dL_text_209) S (fun r2 σ1 H locs h S => ?_)
  refine lv_iadd C.1 C.2.1 dL_text_212 ?_
  refine k_i (r_V (As := [.int ((48 : Int32) + r2)]) (rest := []) C hml (c_X6_write l G (((48 : Int32) + r2)) σ1 _ h) kM_X6_write im_X6_write se_X6_write ml_L_21 ⟨rfl, rfl⟩ ⟨Nat.le_of_ble_eq_true rfl, Nat.le_of_ble_eq_true rfl⟩ hcs S.v kd_0 (by decide) (T := TX6) (N := 8) rfl rfl hl.1 rfl (Nat.le_of_ble_eq_true rfl) dL_text_213) S (fun r4 σ3 H locs h S => ?_)
  refine lv_istore (lv' := [(7, .int r4), (0, .ref (G.2.2 + 0)), (1, .int x1), (2, .int x2), (4, .int x4), (5, .int x5), (6, .int x6), (8, .int x8), (10, .int x10), (11, .int x11)]) C.1 C.2.1 dL_text_216 hl (by decide) rfl (fun ls hl => ?_)
  exact hK218 x4 x5 x6 r4 x8 x10 x11 _ _ _ _ S (lv_sub hl [1, 2, 3, 4, 5, 6, 0, 7, 8, 9] rfl) h
set_option maxHeartbeats 4000000 in
set_option maxRecDepth 100000 in
theorem TL_text_218 (C : s_C G p s args m c RL cL_text) (hml : c.maxLocals = 12) (hcs : cells ≤ (rm_L_text).cells ∧ slots ≤ (rm_L_text).slots) {x1 : Int32} {x2 : Int32} {K42 : Int32 → Int32 → Int32 → Int32 → Int32 → Sg → Prop} {post : Int32 → Sg → Prop} (hR : ∀ (r : Int32) (σ1 : Sg) (H : Heap) (locs : List Loc) (pc : Nat) (ls : Array Slot), decode cL_text pc = .ok (.ireturn, 1) → post r σ1 → s_St G σ1 H0 H locs → W p l e rm_L_text s m args below meth c H locs cells slots Q (F0 m pc ls [.int r])) (hK42 : ∀ (x4 : Int32) (x5 : Int32) (x6 : Int32) (x7 : Int32) (x8 : Int32), ∀ (σ : Sg) (H : Heap) (locs : List Loc) (ls : Array Slot), s_St G σ H0 H locs → lv_has ls 12 [(0, .ref (G.2.2 + 0)), (1, .int x1), (2, .int x2), (4, .int x4), (5, .int x5), (6, .int x6), (7, .int x7), (8, .int x8)] → K42 x4 x5 x6 x7 x8 σ → W p l e rm_L_text s m args below meth c H locs cells slots Q (F0 m 42 ls [])) : ∀ (x4 : Int32) (x5 : Int32) (x6 : Int32) (x7 : Int32) (x8 : Int32) (x10 : Int32) (x11 : Int32), ∀ {σ : Sg} {H : Heap} {locs : List Loc} {ls : Array Slot}, s_St G σ H0 H locs → lv_has ls 12 [(0, .ref (G.2.2 + 0)), (1, .int x1), (2, .int x2), (4, .int x4), (5, .int x5), (6, .int x6), (7, .int x7), (8, .int x8), (10, .int x10), (11, .int x11)] → BL_text_218 x1 x2 K42 post x4 x5 x6 x7 x8 x10 x11 σ → W p l e rm_L_text s m args below meth c H locs cells slots Q (F0 m 218 ls []) := by
  intro x4 x5 x6 x7 x8 x10 x11  σ H locs ls S hl h
  unfold BL_text_218 at h
  refine lv_iload C.1 C.2.1 dL_text_218 (lv_at hl 8 rfl) ?_
  refine lv_iconst (v := (2 : Int32)) C.1 C.2.1 dL_text_220 (by decide) ?_
  refine lv_icmp_ne (tgt := 241) C.1 C.2.1 dL_text_221 (by decide) (fun c5 => ?_) (fun c5 => ?_)
  · replace h := h.1 c5
    refine lv_iload C.1 C.2.1 dL_text_241 (lv_at hl 6 rfl) ?_
    refine lv_istore (lv' := [(7, .int x7), (0, .ref (G.2.2 + 0)), (1, .int x1), (2, .int x2), (4, .int x4), (5, .int x5), (6, .int x6), (8, .int x8), (10, .int x10), (11, .int x11)]) C.1 C.2.1 dL_text_243 hl (by decide) rfl (fun ls hl => ?_)
    refine lv_iinc (v := (x8 + 1)) (lv' := [(8, .int (x8 + 1)), (7, .int x7), (0, .ref (G.2.2 + 0)), (1, .int x1), (2, .int x2), (4, .int x4), (5, .int x5), (6, .int x6), (10, .int x10), (11, .int x11)]) C.1 C.2.1 dL_text_245 hl (k := 7) rfl rfl (by decide) rfl (fun ls hl => ?_)
    refine lv_goto (tgt := 42) C.1 C.2.1 dL_text_248 (by decide) ?_
    exact hK42 x4 x5 x6 x7 ((x8 + 1)) _ _ _ _ S (lv_sub hl [2, 3, 4, 5, 6, 7, 1, 0] rfl) h
  · replace h := h.2 c5
    refine lv_aload_n C.1 C.2.1 dL_text_224 rfl (lv_at hl 0 rfl) ?_
    refine lv_bipush (v := (65 : Int32)) C.1 C.2.1 dL_text_225 (by decide) ?_
    refine lv_iload C.1 C.2.1 dL_text_227 (lv_at hl 9 rfl) ?_
    refine lv_bipush (v := (26 : Int32)) C.1 C.2.1 dL_text_229 (by decide) ?_
    refine k_i (r_S (As := [.int x11, .int (26 : Int32)]) (rest := [.int (65 : Int32), .ref (G.2.2 + 0)]) C hml (c_L_low l G x11 ((26 : Int32)) σ _ h) kM_L_low st_L_low ml_L_15 ⟨rfl, rfl⟩ ⟨Nat.le_of_ble_eq_true rfl, Nat.le_of_ble_eq_true rfl⟩ hcs S.v rfl hl.1 rfl (Nat.le_of_ble_eq_true rfl) dL_text_231) S (fun r7 σ6 H locs h S => ?_)
    refine lv_iadd C.1 C.2.1 dL_text_234 ?_
    refine k_i (r_V (As := [.int ((65 : Int32) + r7)]) (rest := []) C hml (c_X6_write l G (((65 : Int32) + r7)) σ6 _ h) kM_X6_write im_X6_write se_X6_write ml_L_21 ⟨rfl, rfl⟩ ⟨Nat.le_of_ble_eq_true rfl, Nat.le_of_ble_eq_true rfl⟩ hcs S.v kd_0 (by decide) (T := TX6) (N := 8) rfl rfl hl.1 rfl (Nat.le_of_ble_eq_true rfl) dL_text_235) S (fun r9 σ8 H locs h S => ?_)
    refine lv_goto (tgt := 243) C.1 C.2.1 dL_text_238 (by decide) ?_
    refine lv_istore (lv' := [(7, .int r9), (0, .ref (G.2.2 + 0)), (1, .int x1), (2, .int x2), (4, .int x4), (5, .int x5), (6, .int x6), (8, .int x8), (10, .int x10), (11, .int x11)]) C.1 C.2.1 dL_text_243 hl (by decide) rfl (fun ls hl => ?_)
    refine lv_iinc (v := (x8 + 1)) (lv' := [(8, .int (x8 + 1)), (7, .int r9), (0, .ref (G.2.2 + 0)), (1, .int x1), (2, .int x2), (4, .int x4), (5, .int x5), (6, .int x6), (10, .int x10), (11, .int x11)]) C.1 C.2.1 dL_text_245 hl (k := 7) rfl rfl (by decide) rfl (fun ls hl => ?_)
    refine lv_goto (tgt := 42) C.1 C.2.1 dL_text_248 (by decide) ?_
    exact hK42 x4 x5 x6 r9 ((x8 + 1)) _ _ _ _ S (lv_sub hl [2, 3, 4, 5, 6, 7, 1, 0] rfl) h
set_option maxHeartbeats 4000000 in
set_option maxRecDepth 100000 in
theorem TL_text_105 (C : s_C G p s args m c RL cL_text) (hml : c.maxLocals = 12) (hcs : cells ≤ (rm_L_text).cells ∧ slots ≤ (rm_L_text).slots) {x1 : Int32} {x2 : Int32} {K42 : Int32 → Int32 → Int32 → Int32 → Int32 → Sg → Prop} {post : Int32 → Sg → Prop} (hR : ∀ (r : Int32) (σ1 : Sg) (H : Heap) (locs : List Loc) (pc : Nat) (ls : Array Slot), decode cL_text pc = .ok (.ireturn, 1) → post r σ1 → s_St G σ1 H0 H locs → W p l e rm_L_text s m args below meth c H locs cells slots Q (F0 m pc ls [.int r])) (hK42 : ∀ (x4 : Int32) (x5 : Int32) (x6 : Int32) (x7 : Int32) (x8 : Int32), ∀ (σ : Sg) (H : Heap) (locs : List Loc) (ls : Array Slot), s_St G σ H0 H locs → lv_has ls 12 [(0, .ref (G.2.2 + 0)), (1, .int x1), (2, .int x2), (4, .int x4), (5, .int x5), (6, .int x6), (7, .int x7), (8, .int x8)] → K42 x4 x5 x6 x7 x8 σ → W p l e rm_L_text s m args below meth c H locs cells slots Q (F0 m 42 ls [])) : ∀ (n : Nat) (x4 : Int32) (x5 : Int32) (x6 : Int32) (x7 : Int32) (x8 : Int32) (x9 : Int32) (x10 : Int32), ∀ {σ : Sg} {H : Heap} {locs : List Loc} {ls : Array Slot}, s_St G σ H0 H locs → lv_has ls 12 [(0, .ref (G.2.2 + 0)), (1, .int x1), (2, .int x2), (4, .int x4), (5, .int x5), (6, .int x6), (7, .int x7), (8, .int x8), (9, .int x9), (10, .int x10)] → BL_text_105 x1 x2 K42 post n x4 x5 x6 x7 x8 x9 x10 σ → W p l e rm_L_text s m args below meth c H locs cells slots Q (F0 m 105 ls []) := by
  intro n
  induction n with
  | zero =>
    intro x4 x5 x6 x7 x8 x9 x10  σ H locs ls S hl h
    exact absurd h (fun h => h)
  | succ n ih0 =>
    have ih : ∀ (x4 : Int32) (x5 : Int32) (x6 : Int32) (x7 : Int32) (x8 : Int32) (x9 : Int32) (x10 : Int32), ∀ (σ : Sg) (H : Heap) (locs : List Loc) (ls : Array Slot), s_St G σ H0 H locs → lv_has ls 12 [(0, .ref (G.2.2 + 0)), (1, .int x1), (2, .int x2), (4, .int x4), (5, .int x5), (6, .int x6), (7, .int x7), (8, .int x8), (9, .int x9), (10, .int x10)] → BL_text_105 x1 x2 K42 post n x4 x5 x6 x7 x8 x9 x10 σ → W p l e rm_L_text s m args below meth c H locs cells slots Q (F0 m 105 ls []) := fun x4 x5 x6 x7 x8 x9 x10  _ _ _ _ => ih0 x4 x5 x6 x7 x8 x9 x10 
    intro x4 x5 x6 x7 x8 x9 x10  σ H locs ls S hl h
    refine lv_iload C.1 C.2.1 dL_text_105 (lv_at hl 9 rfl) ?_
    refine lv_bipush (v := (8 : Int32)) C.1 C.2.1 dL_text_107 (by decide) ?_
    refine lv_icmp_ge (tgt := 148) C.1 C.2.1 dL_text_109 (by decide) (fun c10 => ?_) (fun c10 => ?_)
    · replace h := h.1 c10
      refine lv_aload_n C.1 C.2.1 dL_text_148 rfl (lv_at hl 0 rfl) ?_
      refine lv_iload C.1 C.2.1 dL_text_149 (lv_at hl 8 rfl) ?_
      refine lv_iconst (v := (0 : Int32)) C.1 C.2.1 dL_text_151 (by decide) ?_
      refine k_i (r_V (As := [.int x9, .int (0 : Int32)]) (rest := []) C hml (c_X6_member l G x9 ((0 : Int32)) σ _ h) kM_X6_member im_X6_member se_X6_member ml_L_60 ⟨rfl, rfl⟩ ⟨Nat.le_of_ble_eq_true rfl, Nat.le_of_ble_eq_true rfl⟩ hcs S.v kd_0 (by decide) (T := TX6) (N := 8) rfl rfl hl.1 rfl (Nat.le_of_ble_eq_true rfl) dL_text_152) S (fun r12 σ11 H locs h S => ?_)
      refine lv_istore (lv' := [(10, .int r12), (0, .ref (G.2.2 + 0)), (1, .int x1), (2, .int x2), (4, .int x4), (5, .int x5), (6, .int x6), (7, .int x7), (8, .int x8), (9, .int x9)]) C.1 C.2.1 dL_text_155 hl (by decide) rfl (fun ls hl => ?_)
      refine lv_iload_n C.1 C.2.1 dL_text_157 rfl (lv_at hl 3 rfl) ?_
      refine lv_iconst (v := (4 : Int32)) C.1 C.2.1 dL_text_158 (by decide) ?_
      refine lv_iload C.1 C.2.1 dL_text_159 (lv_at hl 8 rfl) ?_
      refine lv_imul C.1 C.2.1 dL_text_161 ?_
      refine lv_ishr C.1 C.2.1 dL_text_162 ?_
      refine lv_istore (lv' := [(11, .int (x2 >>> (((4 : Int32) * x8) &&& 31))), (10, .int r12), (0, .ref (G.2.2 + 0)), (1, .int x1), (2, .int x2), (4, .int x4), (5, .int x5), (6, .int x6), (7, .int x7), (8, .int x8), (9, .int x9)]) C.1 C.2.1 dL_text_163 hl (by decide) rfl (fun ls hl => ?_)
      refine lv_iload C.1 C.2.1 dL_text_165 (lv_at hl 1 rfl) ?_
      refine lv_iconst (v := (1 : Int32)) C.1 C.2.1 dL_text_167 (by decide) ?_
      refine lv_icmp_ne (tgt := 218) C.1 C.2.1 dL_text_168 (by decide) (fun c13 => ?_) (fun c13 => ?_)
      · replace h := h.1 c13
        exact TL_text_218 C hml hcs hR hK42 x4 x5 x6 x7 x8 r12 ((x2 >>> (((4 : Int32) * x8) &&& 31))) S (lv_sub hl [2, 3, 4, 5, 6, 7, 8, 9, 1, 0] rfl) h
      · replace h := h.2 c13
        refine lv_iload C.1 C.2.1 dL_text_171 (lv_at hl 0 rfl) ?_
        refine lv_iconst (v := (3 : Int32)) C.1 C.2.1 dL_text_173 (by decide) ?_
        refine k_i (r_S (As := [.int (x2 >>> (((4 : Int32) * x8) &&& 31)), .int (3 : Int32)]) (rest := []) C hml (c_L_low l G ((x2 >>> (((4 : Int32) * x8) &&& 31))) ((3 : Int32)) σ11 _ h) kM_L_low st_L_low ml_L_15 ⟨rfl, rfl⟩ ⟨Nat.le_of_ble_eq_true rfl, Nat.le_of_ble_eq_true rfl⟩ hcs S.v rfl hl.1 rfl (Nat.le_of_ble_eq_true rfl) dL_text_174) S (fun r15 σ14 H locs h S => ?_)
        refine lv_if_ne (tgt := 196) C.1 C.2.1 dL_text_177 (by decide) (fun c16 => ?_) (fun c16 => ?_)
        · replace h := h.1 c16
          refine lv_iload C.1 C.2.1 dL_text_196 (lv_at hl 8 rfl) ?_
          exact TL_text_198 C hml hcs hR (fun x4 x5 x6 x7 x8 x10 x11  _ _ _ _ S hl h => TL_text_218 C hml hcs hR hK42 x4 x5 x6 x7 x8 x10 x11  S hl h) x4 x5 x6 x8 r12 ((x2 >>> (((4 : Int32) * x8) &&& 31))) x7 S (lv_sub hl [2, 3, 4, 5, 6, 7, 9, 1, 0] rfl) h
        · replace h := h.2 c16
          refine lv_aload_n C.1 C.2.1 dL_text_180 rfl (lv_at hl 2 rfl) ?_
          refine lv_bipush (v := (48 : Int32)) C.1 C.2.1 dL_text_181 (by decide) ?_
          refine lv_iload C.1 C.2.1 dL_text_183 (lv_at hl 0 rfl) ?_
          refine lv_iconst (v := (4 : Int32)) C.1 C.2.1 dL_text_185 (by decide) ?_
          refine k_i (r_S (As := [.int (x2 >>> (((4 : Int32) * x8) &&& 31)), .int (4 : Int32)]) (rest := [.int (48 : Int32), .ref (G.2.2 + 0)]) C hml (c_L_low l G ((x2 >>> (((4 : Int32) * x8) &&& 31))) ((4 : Int32)) σ14 _ h) kM_L_low st_L_low ml_L_15 ⟨rfl, rfl⟩ ⟨Nat.le_of_ble_eq_true rfl, Nat.le_of_ble_eq_true rfl⟩ hcs S.v rfl hl.1 rfl (Nat.le_of_ble_eq_true rfl) dL_text_186) S (fun r18 σ17 H locs h S => ?_)
          refine lv_iadd C.1 C.2.1 dL_text_189 ?_
          refine k_i (r_V (As := [.int ((48 : Int32) + r18)]) (rest := []) C hml (c_X6_write l G (((48 : Int32) + r18)) σ17 _ h) kM_X6_write im_X6_write se_X6_write ml_L_21 ⟨rfl, rfl⟩ ⟨Nat.le_of_ble_eq_true rfl, Nat.le_of_ble_eq_true rfl⟩ hcs S.v kd_0 (by decide) (T := TX6) (N := 8) rfl rfl hl.1 rfl (Nat.le_of_ble_eq_true rfl) dL_text_190) S (fun r20 σ19 H locs h S => ?_)
          refine lv_goto (tgt := 198) C.1 C.2.1 dL_text_193 (by decide) ?_
          exact TL_text_198 C hml hcs hR (fun x4 x5 x6 x7 x8 x10 x11  _ _ _ _ S hl h => TL_text_218 C hml hcs hR hK42 x4 x5 x6 x7 x8 x10 x11  S hl h) x4 x5 x6 x8 r12 ((x2 >>> (((4 : Int32) * x8) &&& 31))) r20 S (lv_sub hl [2, 3, 4, 5, 6, 7, 9, 1, 0] rfl) h
    · replace h := h.2 c10
      refine lv_aload_n C.1 C.2.1 dL_text_112 rfl (lv_at hl 0 rfl) ?_
      refine lv_iload C.1 C.2.1 dL_text_113 (lv_at hl 8 rfl) ?_
      refine lv_iload C.1 C.2.1 dL_text_115 (lv_at hl 9 rfl) ?_
      refine k_i (r_V (As := [.int x9, .int x10]) (rest := []) C hml (c_X6_member l G x9 x10 σ _ h) kM_X6_member im_X6_member se_X6_member ml_L_60 ⟨rfl, rfl⟩ ⟨Nat.le_of_ble_eq_true rfl, Nat.le_of_ble_eq_true rfl⟩ hcs S.v kd_0 (by decide) (T := TX6) (N := 8) rfl rfl hl.1 rfl (Nat.le_of_ble_eq_true rfl) dL_text_117) S (fun r22 σ21 H locs h S => ?_)
      refine lv_if_lt (tgt := 138) C.1 C.2.1 dL_text_120 (by decide) (fun c23 => ?_) (fun c23 => ?_)
      · replace h := h.1 c23
        refine lv_iload C.1 C.2.1 dL_text_138 (lv_at hl 6 rfl) ?_
        refine lv_istore (lv' := [(7, .int x7), (0, .ref (G.2.2 + 0)), (1, .int x1), (2, .int x2), (4, .int x4), (5, .int x5), (6, .int x6), (8, .int x8), (9, .int x9), (10, .int x10)]) C.1 C.2.1 dL_text_140 hl (by decide) rfl (fun ls hl => ?_)
        refine lv_iinc (v := (x10 + 1)) (lv' := [(10, .int (x10 + 1)), (7, .int x7), (0, .ref (G.2.2 + 0)), (1, .int x1), (2, .int x2), (4, .int x4), (5, .int x5), (6, .int x6), (8, .int x8), (9, .int x9)]) C.1 C.2.1 dL_text_142 hl (k := 9) rfl rfl (by decide) rfl (fun ls hl => ?_)
        refine lv_goto (tgt := 105) C.1 C.2.1 dL_text_145 (by decide) ?_
        exact ih x4 x5 x6 x7 x8 x9 ((x10 + 1)) _ _ _ _ S (lv_sub hl [2, 3, 4, 5, 6, 7, 1, 8, 9, 0] rfl) h
      · replace h := h.2 c23
        refine lv_aload_n C.1 C.2.1 dL_text_123 rfl (lv_at hl 0 rfl) ?_
        refine lv_aload_n C.1 C.2.1 dL_text_124 rfl (lv_at hl 0 rfl) ?_
        refine lv_iload C.1 C.2.1 dL_text_125 (lv_at hl 8 rfl) ?_
        refine lv_iload C.1 C.2.1 dL_text_127 (lv_at hl 9 rfl) ?_
        refine k_i (r_V (As := [.int x9, .int x10]) (rest := [.ref (G.2.2 + 0)]) C hml (c_X6_member l G x9 x10 σ21 _ h) kM_X6_member im_X6_member se_X6_member ml_L_60 ⟨rfl, rfl⟩ ⟨Nat.le_of_ble_eq_true rfl, Nat.le_of_ble_eq_true rfl⟩ hcs S.v kd_0 (by decide) (T := TX6) (N := 8) rfl rfl hl.1 rfl (Nat.le_of_ble_eq_true rfl) dL_text_129) S (fun r25 σ24 H locs h S => ?_)
        refine k_i (r_V (As := [.int r25]) (rest := []) C hml (c_X6_write l G r25 σ24 _ h) kM_X6_write im_X6_write se_X6_write ml_L_21 ⟨rfl, rfl⟩ ⟨Nat.le_of_ble_eq_true rfl, Nat.le_of_ble_eq_true rfl⟩ hcs S.v kd_0 (by decide) (T := TX6) (N := 8) rfl rfl hl.1 rfl (Nat.le_of_ble_eq_true rfl) dL_text_132) S (fun r27 σ26 H locs h S => ?_)
        refine lv_goto (tgt := 140) C.1 C.2.1 dL_text_135 (by decide) ?_
        refine lv_istore (lv' := [(7, .int r27), (0, .ref (G.2.2 + 0)), (1, .int x1), (2, .int x2), (4, .int x4), (5, .int x5), (6, .int x6), (8, .int x8), (9, .int x9), (10, .int x10)]) C.1 C.2.1 dL_text_140 hl (by decide) rfl (fun ls hl => ?_)
        refine lv_iinc (v := (x10 + 1)) (lv' := [(10, .int (x10 + 1)), (7, .int r27), (0, .ref (G.2.2 + 0)), (1, .int x1), (2, .int x2), (4, .int x4), (5, .int x5), (6, .int x6), (8, .int x8), (9, .int x9)]) C.1 C.2.1 dL_text_142 hl (k := 9) rfl rfl (by decide) rfl (fun ls hl => ?_)
        refine lv_goto (tgt := 105) C.1 C.2.1 dL_text_145 (by decide) ?_
        exact ih x4 x5 x6 r27 x8 x9 ((x10 + 1)) _ _ _ _ S (lv_sub hl [2, 3, 4, 5, 6, 7, 1, 8, 9, 0] rfl) h
set_option maxHeartbeats 4000000 in
set_option maxRecDepth 100000 in
theorem TL_text_42 (C : s_C G p s args m c RL cL_text) (hml : c.maxLocals = 12) (hcs : cells ≤ (rm_L_text).cells ∧ slots ≤ (rm_L_text).slots) {x1 : Int32} {x2 : Int32} {post : Int32 → Sg → Prop} (hR : ∀ (r : Int32) (σ1 : Sg) (H : Heap) (locs : List Loc) (pc : Nat) (ls : Array Slot), decode cL_text pc = .ok (.ireturn, 1) → post r σ1 → s_St G σ1 H0 H locs → W p l e rm_L_text s m args below meth c H locs cells slots Q (F0 m pc ls [.int r])) : ∀ (n : Nat) (x4 : Int32) (x5 : Int32) (x6 : Int32) (x7 : Int32) (x8 : Int32), ∀ {σ : Sg} {H : Heap} {locs : List Loc} {ls : Array Slot}, s_St G σ H0 H locs → lv_has ls 12 [(0, .ref (G.2.2 + 0)), (1, .int x1), (2, .int x2), (4, .int x4), (5, .int x5), (6, .int x6), (7, .int x7), (8, .int x8)] → BL_text_42 x1 x2 post n x4 x5 x6 x7 x8 σ → W p l e rm_L_text s m args below meth c H locs cells slots Q (F0 m 42 ls []) := by
  intro n
  induction n with
  | zero =>
    intro x4 x5 x6 x7 x8  σ H locs ls S hl h
    exact absurd h (fun h => h)
  | succ n ih0 =>
    have ih : ∀ (x4 : Int32) (x5 : Int32) (x6 : Int32) (x7 : Int32) (x8 : Int32), ∀ (σ : Sg) (H : Heap) (locs : List Loc) (ls : Array Slot), s_St G σ H0 H locs → lv_has ls 12 [(0, .ref (G.2.2 + 0)), (1, .int x1), (2, .int x2), (4, .int x4), (5, .int x5), (6, .int x6), (7, .int x7), (8, .int x8)] → BL_text_42 x1 x2 post n x4 x5 x6 x7 x8 σ → W p l e rm_L_text s m args below meth c H locs cells slots Q (F0 m 42 ls []) := fun x4 x5 x6 x7 x8  _ _ _ _ => ih0 x4 x5 x6 x7 x8 
    intro x4 x5 x6 x7 x8  σ H locs ls S hl h
    refine lv_iload C.1 C.2.1 dL_text_42 (lv_at hl 7 rfl) ?_
    refine lv_iload C.1 C.2.1 dL_text_44 (lv_at hl 5 rfl) ?_
    refine lv_icmp_ge (tgt := 251) C.1 C.2.1 dL_text_46 (by decide) (fun c28 => ?_) (fun c28 => ?_)
    · replace h := h.1 c28
      refine lv_iload C.1 C.2.1 dL_text_251 (lv_at hl 6 rfl) ?_
      exact hR _ _ _ _ _ _ dL_text_253 h S
    · replace h := h.2 c28
      refine lv_iload_n C.1 C.2.1 dL_text_49 rfl (lv_at hl 1 rfl) ?_
      refine lv_iconst (v := (3 : Int32)) C.1 C.2.1 dL_text_50 (by decide) ?_
      refine lv_iconst (v := (3 : Int32)) C.1 C.2.1 dL_text_51 (by decide) ?_
      refine lv_iload C.1 C.2.1 dL_text_52 (lv_at hl 7 rfl) ?_
      refine lv_imul C.1 C.2.1 dL_text_54 ?_
      refine lv_iadd C.1 C.2.1 dL_text_55 ?_
      refine lv_ishr C.1 C.2.1 dL_text_56 ?_
      refine lv_iload C.1 C.2.1 dL_text_57 (lv_at hl 3 rfl) ?_
      refine k_i (r_S (As := [.int (x1 >>> (((3 : Int32) + ((3 : Int32) * x8)) &&& 31)), .int x4]) (rest := []) C hml (c_L_low l G ((x1 >>> (((3 : Int32) + ((3 : Int32) * x8)) &&& 31))) x4 σ _ h) kM_L_low st_L_low ml_L_15 ⟨rfl, rfl⟩ ⟨Nat.le_of_ble_eq_true rfl, Nat.le_of_ble_eq_true rfl⟩ hcs S.v rfl hl.1 rfl (Nat.le_of_ble_eq_true rfl) dL_text_59) S (fun r30 σ29 H locs h S => ?_)
      refine lv_istore (lv' := [(9, .int r30), (0, .ref (G.2.2 + 0)), (1, .int x1), (2, .int x2), (4, .int x4), (5, .int x5), (6, .int x6), (7, .int x7), (8, .int x8)]) C.1 C.2.1 dL_text_62 hl (by decide) rfl (fun ls hl => ?_)
      refine lv_iload C.1 C.2.1 dL_text_64 (lv_at hl 8 rfl) ?_
      refine lv_if_le (tgt := 98) C.1 C.2.1 dL_text_66 (by decide) (fun c31 => ?_) (fun c31 => ?_)
      · replace h := h.1 c31
        refine lv_iload C.1 C.2.1 dL_text_98 (lv_at hl 7 rfl) ?_
        refine lv_istore (lv' := [(7, .int x7), (9, .int r30), (0, .ref (G.2.2 + 0)), (1, .int x1), (2, .int x2), (4, .int x4), (5, .int x5), (6, .int x6), (8, .int x8)]) C.1 C.2.1 dL_text_100 hl (by decide) rfl (fun ls hl => ?_)
        refine lv_iconst (v := (5 : Int32)) C.1 C.2.1 dL_text_102 (by decide) ?_
        refine lv_istore (lv' := [(10, .int (5 : Int32)), (7, .int x7), (9, .int r30), (0, .ref (G.2.2 + 0)), (1, .int x1), (2, .int x2), (4, .int x4), (5, .int x5), (6, .int x6), (8, .int x8)]) C.1 C.2.1 dL_text_103 hl (by decide) rfl (fun ls hl => ?_)
        obtain ⟨nf, h⟩ := h
        exact TL_text_105 C hml hcs hR ih nf x4 x5 x6 x7 x8 r30 ((5 : Int32)) S (lv_sub hl [3, 4, 5, 6, 7, 8, 1, 9, 2, 0] rfl) h
      · replace h := h.2 c31
        refine lv_iload C.1 C.2.1 dL_text_69 (lv_at hl 5 rfl) ?_
        refine lv_if_le (tgt := 98) C.1 C.2.1 dL_text_71 (by decide) (fun c32 => ?_) (fun c32 => ?_)
        · replace h := h.1 c32
          refine lv_iload C.1 C.2.1 dL_text_98 (lv_at hl 7 rfl) ?_
          refine lv_istore (lv' := [(7, .int x7), (9, .int r30), (0, .ref (G.2.2 + 0)), (1, .int x1), (2, .int x2), (4, .int x4), (5, .int x5), (6, .int x6), (8, .int x8)]) C.1 C.2.1 dL_text_100 hl (by decide) rfl (fun ls hl => ?_)
          refine lv_iconst (v := (5 : Int32)) C.1 C.2.1 dL_text_102 (by decide) ?_
          refine lv_istore (lv' := [(10, .int (5 : Int32)), (7, .int x7), (9, .int r30), (0, .ref (G.2.2 + 0)), (1, .int x1), (2, .int x2), (4, .int x4), (5, .int x5), (6, .int x6), (8, .int x8)]) C.1 C.2.1 dL_text_103 hl (by decide) rfl (fun ls hl => ?_)
          obtain ⟨nf, h⟩ := h
          exact TL_text_105 C hml hcs hR ih nf x4 x5 x6 x7 x8 r30 ((5 : Int32)) S (lv_sub hl [3, 4, 5, 6, 7, 8, 1, 9, 2, 0] rfl) h
        · replace h := h.2 c32
          refine lv_iload_n C.1 C.2.1 dL_text_74 rfl (lv_at hl 3 rfl) ?_
          refine lv_bipush (v := (20 : Int32)) C.1 C.2.1 dL_text_75 (by decide) ?_
          refine lv_iload C.1 C.2.1 dL_text_77 (lv_at hl 8 rfl) ?_
          refine lv_iadd C.1 C.2.1 dL_text_79 ?_
          refine lv_ishr C.1 C.2.1 dL_text_80 ?_
          refine lv_bipush (v := (9 : Int32)) C.1 C.2.1 dL_text_81 (by decide) ?_
          refine k_i (r_S (As := [.int (x2 >>> (((20 : Int32) + x8) &&& 31)), .int (9 : Int32)]) (rest := []) C hml (c_L_low l G ((x2 >>> (((20 : Int32) + x8) &&& 31))) ((9 : Int32)) σ29 _ h) kM_L_low st_L_low ml_L_15 ⟨rfl, rfl⟩ ⟨Nat.le_of_ble_eq_true rfl, Nat.le_of_ble_eq_true rfl⟩ hcs S.v rfl hl.1 rfl (Nat.le_of_ble_eq_true rfl) dL_text_83) S (fun r34 σ33 H locs h S => ?_)
          refine lv_if_le (tgt := 98) C.1 C.2.1 dL_text_86 (by decide) (fun c35 => ?_) (fun c35 => ?_)
          · replace h := h.1 c35
            refine lv_iload C.1 C.2.1 dL_text_98 (lv_at hl 7 rfl) ?_
            refine lv_istore (lv' := [(7, .int x7), (9, .int r30), (0, .ref (G.2.2 + 0)), (1, .int x1), (2, .int x2), (4, .int x4), (5, .int x5), (6, .int x6), (8, .int x8)]) C.1 C.2.1 dL_text_100 hl (by decide) rfl (fun ls hl => ?_)
            refine lv_iconst (v := (5 : Int32)) C.1 C.2.1 dL_text_102 (by decide) ?_
            refine lv_istore (lv' := [(10, .int (5 : Int32)), (7, .int x7), (9, .int r30), (0, .ref (G.2.2 + 0)), (1, .int x1), (2, .int x2), (4, .int x4), (5, .int x5), (6, .int x6), (8, .int x8)]) C.1 C.2.1 dL_text_103 hl (by decide) rfl (fun ls hl => ?_)
            obtain ⟨nf, h⟩ := h
            exact TL_text_105 C hml hcs hR ih nf x4 x5 x6 x7 x8 r30 ((5 : Int32)) S (lv_sub hl [3, 4, 5, 6, 7, 8, 1, 9, 2, 0] rfl) h
          · replace h := h.2 c35
            refine lv_aload_n C.1 C.2.1 dL_text_89 rfl (lv_at hl 1 rfl) ?_
            refine lv_iload C.1 C.2.1 dL_text_90 (lv_at hl 5 rfl) ?_
            refine k_i (r_V (As := [.int x5]) (rest := []) C hml (c_X6_write l G x5 σ33 _ h) kM_X6_write im_X6_write se_X6_write ml_L_21 ⟨rfl, rfl⟩ ⟨Nat.le_of_ble_eq_true rfl, Nat.le_of_ble_eq_true rfl⟩ hcs S.v kd_0 (by decide) (T := TX6) (N := 8) rfl rfl hl.1 rfl (Nat.le_of_ble_eq_true rfl) dL_text_92) S (fun r37 σ36 H locs h S => ?_)
            refine lv_goto (tgt := 100) C.1 C.2.1 dL_text_95 (by decide) ?_
            refine lv_istore (lv' := [(7, .int r37), (9, .int r30), (0, .ref (G.2.2 + 0)), (1, .int x1), (2, .int x2), (4, .int x4), (5, .int x5), (6, .int x6), (8, .int x8)]) C.1 C.2.1 dL_text_100 hl (by decide) rfl (fun ls hl => ?_)
            refine lv_iconst (v := (5 : Int32)) C.1 C.2.1 dL_text_102 (by decide) ?_
            refine lv_istore (lv' := [(10, .int (5 : Int32)), (7, .int r37), (9, .int r30), (0, .ref (G.2.2 + 0)), (1, .int x1), (2, .int x2), (4, .int x4), (5, .int x5), (6, .int x6), (8, .int x8)]) C.1 C.2.1 dL_text_103 hl (by decide) rfl (fun ls hl => ?_)
            obtain ⟨nf, h⟩ := h
            exact TL_text_105 C hml hcs hR ih nf x4 x5 x6 r37 x8 r30 ((5 : Int32)) S (lv_sub hl [3, 4, 5, 6, 7, 8, 1, 9, 2, 0] rfl) h
theorem kM_L_text : s_M yL_text cL_text 12 (some .int) 3 := ⟨co_L_text, in_L, by decide, by decide, by decide +kernel⟩
set_option maxHeartbeats 4000000 in
set_option maxRecDepth 100000 in
theorem c_L_text (l : Launch) (G : s_G) (x1 : Int32) (x2 : Int32) (σ : Sg) (post : Int32 → Sg → Prop) (h : wpL_text x1 x2 σ post) : Met l yL_text (wsU yL_text cL_text 12 (some .int)) rm_L_text (va_Pc [.ref (G.2.2 + 0), .int x1, .int x2] (s_Pre G σ)) (va_Qi post (s_B G) (s_A G.2.2)) 0 0 (s_A G.2.2) := by
  refine Met.ofW (cc := cL_text) (maxL := 12) (ret := (some .int)) (by decide) rfl ?_
  intro p e s m args below meth c s₁ B hml hv
  obtain ⟨rfl, hP, hrok, hK, hN⟩ := hv
  have C : s_C G p s (([.ref (G.2.2 + 0), .int x1, .int x2] : List Value).toArray) m c RL cL_text := ⟨B.exec, B.bytes, findClass_of_methodNamed B.named, fun w hw => atoms_spec (ws := wsU yL_text cL_text 12 (some .int)) B.pre w (List.mem_cons_of_mem _ hw), hK, hN⟩
  have hr := B.returns
  have hlocks := B.notSynchronized
  have S : s_St G σ s.heap s.heap [] := ⟨hP, va_S.rf, hrok⟩
  have hcs : 0 ≤ (rm_L_text).cells ∧ 0 ≤ (rm_L_text).slots := ⟨Nat.le_refl 0, Nat.le_refl 0⟩
  have hR : ∀ (r : Int32) (σ1 : Sg) (H : Heap) (locs : List Loc) (pc : Nat) (ls : Array Slot), decode cL_text pc = .ok (.ireturn, 1) → post r σ1 → s_St G σ1 s.heap H locs → W p l e rm_L_text s m ([.ref (G.2.2 + 0), .int x1, .int x2] : List Value).toArray below meth c H locs 0 0 (MQ below (va_Qi post (s_B G) (s_A G.2.2)) ([.ref (G.2.2 + 0), .int x1, .int x2] : List Value).toArray s 0 0 (s_A G.2.2)) (F0 m pc ls [.int r]) := fun _ _ _ _ _ _ hd hp S => ret_i C hr hlocks hd hp S
  have hl := lv_entry ([.ref (G.2.2 + 0), .int x1, .int x2]) (n := 12) (Nat.le_of_ble_eq_true rfl)
  rw [lg_entry_eq]
  generalize (lg_sl ([.ref (G.2.2 + 0), .int x1, .int x2]) ++ List.replicate (12 - (lg_sl ([.ref (G.2.2 + 0), .int x1, .int x2])).length) Slot.unset).toArray = ls at hl ⊢
  have hl : lv_has ls 12 [(0, .ref (G.2.2 + 0)), (1, .int x1), (2, .int x2)] := hl
  unfold wpL_text at h
  refine lv_aload_n C.1 C.2.1 dL_text_0 rfl (lv_at hl 0 rfl) ?_
  refine k_i (r_V (As := []) (rest := []) C hml (c_X6_wipe l G σ _ h) kM_X6_wipe im_X6_wipe se_X6_wipe ml_L_9 ⟨rfl, rfl⟩ ⟨Nat.le_of_ble_eq_true rfl, Nat.le_of_ble_eq_true rfl⟩ hcs S.v kd_0 (by decide) (T := TX6) (N := 8) rfl rfl hl.1 rfl (Nat.le_of_ble_eq_true rfl) dL_text_1) S (fun r39 σ38 H locs h S => ?_)
  refine lv_istore_n (lv' := [(3, .int r39), (0, .ref (G.2.2 + 0)), (1, .int x1), (2, .int x2)]) C.1 C.2.1 dL_text_4 rfl hl (by decide) rfl (fun ls hl => ?_)
  refine lv_aload_n C.1 C.2.1 dL_text_5 rfl (lv_at hl 1 rfl) ?_
  refine lv_iconst (v := (0 : Int32)) C.1 C.2.1 dL_text_6 (by decide) ?_
  refine k_i (r_V (As := [.int (0 : Int32)]) (rest := []) C hml (c_X6_told l G ((0 : Int32)) σ38 _ h) kM_X6_told im_X6_told se_X6_told ml_L_57 ⟨rfl, rfl⟩ ⟨Nat.le_of_ble_eq_true rfl, Nat.le_of_ble_eq_true rfl⟩ hcs S.v kd_0 (by decide) (T := TX6) (N := 8) rfl rfl hl.1 rfl (Nat.le_of_ble_eq_true rfl) dL_text_7) S (fun r41 σ40 H locs h S => ?_)
  refine lv_istore (lv' := [(4, .int r41), (3, .int r39), (0, .ref (G.2.2 + 0)), (1, .int x1), (2, .int x2)]) C.1 C.2.1 dL_text_10 hl (by decide) rfl (fun ls hl => ?_)
  refine lv_aload_n C.1 C.2.1 dL_text_12 rfl (lv_at hl 2 rfl) ?_
  refine lv_iconst (v := (1 : Int32)) C.1 C.2.1 dL_text_13 (by decide) ?_
  refine k_i (r_V (As := [.int (1 : Int32)]) (rest := []) C hml (c_X6_told l G ((1 : Int32)) σ40 _ h) kM_X6_told im_X6_told se_X6_told ml_L_57 ⟨rfl, rfl⟩ ⟨Nat.le_of_ble_eq_true rfl, Nat.le_of_ble_eq_true rfl⟩ hcs S.v kd_0 (by decide) (T := TX6) (N := 8) rfl rfl hl.1 rfl (Nat.le_of_ble_eq_true rfl) dL_text_14) S (fun r43 σ42 H locs h S => ?_)
  refine lv_istore (lv' := [(5, .int r43), (4, .int r41), (3, .int r39), (0, .ref (G.2.2 + 0)), (1, .int x1), (2, .int x2)]) C.1 C.2.1 dL_text_17 hl (by decide) rfl (fun ls hl => ?_)
  refine lv_iload C.1 C.2.1 dL_text_19 (lv_at hl 1 rfl) ?_
  refine lv_if_ne (tgt := 28) C.1 C.2.1 dL_text_21 (by decide) (fun c44 => ?_) (fun c44 => ?_)
  · replace h := h.1 c44
    refine lv_iload_n C.1 C.2.1 dL_text_28 rfl (lv_at hl 4 rfl) ?_
    refine lv_bipush (v := (6 : Int32)) C.1 C.2.1 dL_text_29 (by decide) ?_
    refine k_i (r_S (As := [.int x1, .int (6 : Int32)]) (rest := []) C hml (c_L_low l G x1 ((6 : Int32)) σ42 _ h) kM_L_low st_L_low ml_L_15 ⟨rfl, rfl⟩ ⟨Nat.le_of_ble_eq_true rfl, Nat.le_of_ble_eq_true rfl⟩ hcs S.v rfl hl.1 rfl (Nat.le_of_ble_eq_true rfl) dL_text_31) S (fun r46 σ45 H locs h S => ?_)
    refine lv_istore (lv' := [(6, .int r46), (5, .int r43), (4, .int r41), (3, .int r39), (0, .ref (G.2.2 + 0)), (1, .int x1), (2, .int x2)]) C.1 C.2.1 dL_text_34 hl (by decide) rfl (fun ls hl => ?_)
    refine lv_iconst (v := (0 : Int32)) C.1 C.2.1 dL_text_36 (by decide) ?_
    refine lv_istore (lv' := [(7, .int (0 : Int32)), (6, .int r46), (5, .int r43), (4, .int r41), (3, .int r39), (0, .ref (G.2.2 + 0)), (1, .int x1), (2, .int x2)]) C.1 C.2.1 dL_text_37 hl (by decide) rfl (fun ls hl => ?_)
    refine lv_iconst (v := (0 : Int32)) C.1 C.2.1 dL_text_39 (by decide) ?_
    refine lv_istore (lv' := [(8, .int (0 : Int32)), (7, .int (0 : Int32)), (6, .int r46), (5, .int r43), (4, .int r41), (3, .int r39), (0, .ref (G.2.2 + 0)), (1, .int x1), (2, .int x2)]) C.1 C.2.1 dL_text_40 hl (by decide) rfl (fun ls hl => ?_)
    obtain ⟨nf, h⟩ := h
    exact TL_text_42 C hml hcs hR nf r41 r43 r46 ((0 : Int32)) ((0 : Int32)) S (lv_sub hl [6, 7, 8, 4, 3, 2, 1, 0] rfl) h
  · replace h := h.2 c44
    refine lv_iconst (v := (0 : Int32)) C.1 C.2.1 dL_text_24 (by decide) ?_
    refine lv_goto (tgt := 34) C.1 C.2.1 dL_text_25 (by decide) ?_
    refine lv_istore (lv' := [(6, .int (0 : Int32)), (5, .int r43), (4, .int r41), (3, .int r39), (0, .ref (G.2.2 + 0)), (1, .int x1), (2, .int x2)]) C.1 C.2.1 dL_text_34 hl (by decide) rfl (fun ls hl => ?_)
    refine lv_iconst (v := (0 : Int32)) C.1 C.2.1 dL_text_36 (by decide) ?_
    refine lv_istore (lv' := [(7, .int (0 : Int32)), (6, .int (0 : Int32)), (5, .int r43), (4, .int r41), (3, .int r39), (0, .ref (G.2.2 + 0)), (1, .int x1), (2, .int x2)]) C.1 C.2.1 dL_text_37 hl (by decide) rfl (fun ls hl => ?_)
    refine lv_iconst (v := (0 : Int32)) C.1 C.2.1 dL_text_39 (by decide) ?_
    refine lv_istore (lv' := [(8, .int (0 : Int32)), (7, .int (0 : Int32)), (6, .int (0 : Int32)), (5, .int r43), (4, .int r41), (3, .int r39), (0, .ref (G.2.2 + 0)), (1, .int x1), (2, .int x2)]) C.1 C.2.1 dL_text_40 hl (by decide) rfl (fun ls hl => ?_)
    obtain ⟨nf, h⟩ := h
    exact TL_text_42 C hml hcs hR nf r41 r43 ((0 : Int32)) ((0 : Int32)) ((0 : Int32)) S (lv_sub hl [6, 7, 8, 4, 3, 2, 1, 0] rfl) h
end M7
