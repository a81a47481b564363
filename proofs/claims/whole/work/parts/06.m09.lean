section M9
variable {p : Program} {l : Launch} {e : Env} {R : Room} {s : State} {m : MethodId} {args : Array Value} {below : List Frame} {meth : Method} {c : Code} {H0 : Heap} {cells slots : Nat} {Q : State → Prop} {G : s_G}
/-! X7_isWhole -/
abbrev rm_X7_isWhole : Room := { frames := 1, cells := 0, slots := 0, locals := 21 }
def BX7_isWhole_2 (x1 : Int32) (post : Int32 → Sg → Prop) : Nat → Int32 → Sg → Prop
  | 0, _, _ => False
  | n + 1, x2, σ => (vp_in ((0 : Int32)) 50 ∧ ((((σ.1 118 ((0 : Int32)).toNatClampNeg) ≤ x2) → post (1 : Int32) σ) ∧ ((¬ (σ.1 118 ((0 : Int32)).toNatClampNeg) ≤ x2) → wpX7_countIn x1 x2 σ (fun r3 σ2 => (vp_in (((26 : Int32) + x2)) 50 ∧ ((((σ2.1 118 (((26 : Int32) + x2)).toNatClampNeg) ≤ r3) → BX7_isWhole_2 x1 post n ((x2 + 1)) σ2) ∧ ((¬ (σ2.1 118 (((26 : Int32) + x2)).toNatClampNeg) ≤ r3) → post (0 : Int32) σ2)))))))
def wpX7_isWhole (x1 : Int32) (σ : Sg) (post : Int32 → Sg → Prop) : Prop := ∃ nf, BX7_isWhole_2 x1 post nf ((0 : Int32)) σ
set_option maxHeartbeats 4000000 in
set_option maxRecDepth 100000 in
theorem TX7_isWhole_2 (C : s_C G p s args m c RX7 cX7_isWhole) (hml : c.maxLocals = 3) (hcs : cells ≤ (rm_X7_isWhole).cells ∧ slots ≤ (rm_X7_isWhole).slots) {x1 : Int32} {post : Int32 → Sg → Prop} (hR : ∀ (r : Int32) (σ1 : Sg) (H : Heap) (locs : List Loc) (pc : Nat) (ls : Array Slot), decode cX7_isWhole pc = .ok (.ireturn, 1) → narrow .boolean (.int r) = .int r → post r σ1 → s_St G σ1 H0 H locs → W p l e rm_X7_isWhole s m args below meth c H locs cells slots Q (F0 m pc ls [.int r])) : ∀ (n : Nat) (x2 : Int32), ∀ {σ : Sg} {H : Heap} {locs : List Loc} {ls : Array Slot}, s_St G σ H0 H locs → lv_has ls 3 [(0, .ref (G.2.2 + 117)), (1, .int x1), (2, .int x2)] → BX7_isWhole_2 x1 post n x2 σ → W p l e rm_X7_isWhole s m args below meth c H locs cells slots Q (F0 m 2 ls []) := by
  intro n
  induction n with
  | zero =>
    intro x2  σ H locs ls S hl h
    exact absurd h (fun h => h)
  | succ n ih0 =>
    have ih : ∀ (x2 : Int32), ∀ (σ : Sg) (H : Heap) (locs : List Loc) (ls : Array Slot), s_St G σ H0 H locs → lv_has ls 3 [(0, .ref (G.2.2 + 117)), (1, .int x1), (2, .int x2)] → BX7_isWhole_2 x1 post n x2 σ → W p l e rm_X7_isWhole s m args below meth c H locs cells slots Q (F0 m 2 ls []) := fun x2  _ _ _ _ => ih0 x2 
    intro x2  σ H locs ls S hl h
    refine lv_iload_n C.1 C.2.1 dX7_isWhole_2 rfl (lv_at hl 2 rfl) ?_
    refine lv_aload_n C.1 C.2.1 dX7_isWhole_3 rfl (lv_at hl 0 rfl) ?_
    refine g_X7_0 C fl_X7_7 kd_117 S fn_117_0 dX7_isWhole_4 ?_
    refine lv_iconst (v := (0 : Int32)) C.1 C.2.1 dX7_isWhole_7 (by decide) ?_
    refine a_ild C kd_118 S ln_118 h.1 dX7_isWhole_8 ?_
    replace h := h.2
    refine lv_icmp_ge (tgt := 37) C.1 C.2.1 dX7_isWhole_9 (by decide) (fun c1 => ?_) (fun c1 => ?_)
    · replace h := h.1 c1
      refine lv_iconst (v := (1 : Int32)) C.1 C.2.1 dX7_isWhole_37 (by decide) ?_
      exact hR _ _ _ _ _ _ dX7_isWhole_38 rfl h S
    · replace h := h.2 c1
      refine lv_iload_n C.1 C.2.1 dX7_isWhole_12 rfl (lv_at hl 1 rfl) ?_
      refine lv_iload_n C.1 C.2.1 dX7_isWhole_13 rfl (lv_at hl 2 rfl) ?_
      refine k_i (r_S (As := [.int x1, .int x2]) (rest := []) C hml (c_X7_countIn l G x1 x2 σ _ h) kM_X7_countIn st_X7_countIn ml_X7_125 ⟨rfl, rfl⟩ ⟨Nat.le_of_ble_eq_true rfl, Nat.le_of_ble_eq_true rfl⟩ hcs S rfl hl.1 rfl (Nat.le_of_ble_eq_true rfl) dX7_isWhole_14) S (fun r3 σ2 H locs h S => ?_)
      refine lv_aload_n C.1 C.2.1 dX7_isWhole_17 rfl (lv_at hl 0 rfl) ?_
      refine g_X7_0 C fl_X7_7 kd_117 S fn_117_0 dX7_isWhole_18 ?_
      refine lv_bipush (v := (26 : Int32)) C.1 C.2.1 dX7_isWhole_21 (by decide) ?_
      refine lv_iload_n C.1 C.2.1 dX7_isWhole_23 rfl (lv_at hl 2 rfl) ?_
      refine lv_iadd C.1 C.2.1 dX7_isWhole_24 ?_
      refine a_ild C kd_118 S ln_118 h.1 dX7_isWhole_25 ?_
      replace h := h.2
      refine lv_icmp_ge (tgt := 31) C.1 C.2.1 dX7_isWhole_26 (by decide) (fun c4 => ?_) (fun c4 => ?_)
      · replace h := h.1 c4
        refine lv_iinc (v := (x2 + 1)) (lv' := [(2, .int (x2 + 1)), (0, .ref (G.2.2 + 117)), (1, .int x1)]) C.1 C.2.1 dX7_isWhole_31 hl (k := 2) rfl rfl (by decide) rfl (fun ls hl => ?_)
        refine lv_goto (tgt := 2) C.1 C.2.1 dX7_isWhole_34 (by decide) ?_
        exact ih ((x2 + 1)) _ _ _ _ S (lv_sub hl [1, 2, 0] rfl) h
      · replace h := h.2 c4
        refine lv_iconst (v := (0 : Int32)) C.1 C.2.1 dX7_isWhole_29 (by decide) ?_
        exact hR _ _ _ _ _ _ dX7_isWhole_30 rfl h S
theorem kM_X7_isWhole : s_M yX7_isWhole cX7_isWhole 3 (some .boolean) 1 := ⟨co_X7_isWhole, in_X7, by decide, by decide, by decide +kernel⟩
set_option maxHeartbeats 4000000 in
set_option maxRecDepth 100000 in
theorem c_X7_isWhole (l : Launch) (G : s_G) (x1 : Int32) (σ : Sg) (post : Int32 → Sg → Prop) (h : wpX7_isWhole x1 σ post) : Met l yX7_isWhole (wsU yX7_isWhole cX7_isWhole 3 (some .boolean)) rm_X7_isWhole (va_Pc [.ref (G.2.2 + 117), .int x1] (s_Pre G σ)) (va_Qi post (s_B G) (s_A G.2.2)) 0 0 (s_A G.2.2) := by
  refine Met.ofW (cc := cX7_isWhole) (maxL := 3) (ret := (some .boolean)) (by decide) rfl ?_
  intro p e s m args below meth c s₁ B hml hv
  obtain ⟨rfl, hP, hrok, hK, hN⟩ := hv
  have C : s_C G p s (([.ref (G.2.2 + 117), .int x1] : List Value).toArray) m c RX7 cX7_isWhole := ⟨B.exec, B.bytes, findClass_of_methodNamed B.named, fun w hw => atoms_spec (ws := wsU yX7_isWhole cX7_isWhole 3 (some .boolean)) B.pre w (List.mem_cons_of_mem _ hw), hK, hN⟩
  have hr := B.returns
  have hlocks := B.notSynchronized
  have S : s_St G σ s.heap s.heap [] := ⟨hP, va_S.rf, hrok⟩
  have hcs : 0 ≤ (rm_X7_isWhole).cells ∧ 0 ≤ (rm_X7_isWhole).slots := ⟨Nat.le_refl 0, Nat.le_refl 0⟩
  have hR : ∀ (r : Int32) (σ1 : Sg) (H : Heap) (locs : List Loc) (pc : Nat) (ls : Array Slot), decode cX7_isWhole pc = .ok (.ireturn, 1) → narrow .boolean (.int r) = .int r → post r σ1 → s_St G σ1 s.heap H locs → W p l e rm_X7_isWhole s m ([.ref (G.2.2 + 117), .int x1] : List Value).toArray below meth c H locs 0 0 (MQ below (va_Qi post (s_B G) (s_A G.2.2)) ([.ref (G.2.2 + 117), .int x1] : List Value).toArray s 0 0 (s_A G.2.2)) (F0 m pc ls [.int r]) := fun _ _ _ _ _ _ hd hn hp S => ret_z C hr hlocks hd hn hp S
  have hl := lv_entry ([.ref (G.2.2 + 117), .int x1]) (n := 3) (Nat.le_of_ble_eq_true rfl)
  rw [lg_entry_eq]
  generalize (lg_sl ([.ref (G.2.2 + 117), .int x1]) ++ List.replicate (3 - (lg_sl ([.ref (G.2.2 + 117), .int x1])).length) Slot.unset).toArray = ls at hl ⊢
  have hl : lv_has ls 3 [(0, .ref (G.2.2 + 117)), (1, .int x1)] := hl
  unfold wpX7_isWhole at h
  refine lv_iconst (v := (0 : Int32)) C.1 C.2.1 dX7_isWhole_0 (by decide) ?_
  refine lv_istore_n (lv' := [(2, .int (0 : Int32)), (0, .ref (G.2.2 + 117)), (1, .int x1)]) C.1 C.2.1 dX7_isWhole_1 rfl hl (by decide) rfl (fun ls hl => ?_)
  obtain ⟨nf, h⟩ := h
  exact TX7_isWhole_2 C hml hcs hR nf ((0 : Int32)) S (lv_sub hl [1, 2, 0] rfl) h
/-! X7_waysFrom -/
abbrev rm_X7_waysFrom : Room := { frames := 4, cells := 0, slots := 0, locals := 91 }
def BX7_waysFrom_107 (x1 : Int32) (x2 : Int32) (K35 : Int32 → Int32 → Int32 → Sg → Prop) (post : Int32 → Sg → Prop) (x3 : Int32) (x5 : Int32) (y0 : Int32) (y1 : Int32) (σ : Sg) : Prop := ((((y0 + y1) ≤ (1000000 : Int32)) → K35 x3 ((y0 + y1)) ((x5 + 1)) σ) ∧ ((¬ (y0 + y1) ≤ (1000000 : Int32)) → K35 x3 ((1000000 : Int32)) ((x5 + 1)) σ))
def BX7_waysFrom_74 (x1 : Int32) (x2 : Int32) (K35 : Int32 → Int32 → Int32 → Sg → Prop) (post : Int32 → Sg → Prop) (x3 : Int32) (x4 : Int32) (x5 : Int32) (y0 : Int32) (σ : Sg) : Prop := (((¬ y0 = (-9 : Int32)) → wpX7_with x2 x5 σ (fun r4 σ3 => (vp_in ((((4096 : Int32) * y0) + r4)) 249856 ∧ BX7_waysFrom_107 x1 x2 K35 post x3 x5 x4 ((σ3.1 124 ((((4096 : Int32) * y0) + r4)).toNatClampNeg)) σ3))) ∧ ((y0 = (-9 : Int32)) → BX7_waysFrom_107 x1 x2 K35 post x3 x5 x4 ((0 : Int32)) σ))
def BX7_waysFrom_35 (x1 : Int32) (x2 : Int32) (post : Int32 → Sg → Prop) : Nat → Int32 → Int32 → Int32 → Sg → Prop
  | 0, _, _, _, _ => False
  | n + 1, x3, x4, x5, σ => (vp_in ((0 : Int32)) 50 ∧ ((((σ.1 118 ((0 : Int32)).toNatClampNeg) ≤ x5) → post x4 σ) ∧ ((¬ (σ.1 118 ((0 : Int32)).toNatClampNeg) ≤ x5) → (((x3 = (-9 : Int32)) → post x4 σ) ∧ ((¬ x3 = (-9 : Int32)) → wpX7_may x2 x5 σ (fun r8 σ7 => (((r8 = 0) → BX7_waysFrom_74 x1 x2 (BX7_waysFrom_35 x1 x2 post n) post x3 x4 x5 ((-9 : Int32)) σ7) ∧ ((¬ r8 = 0) → wpX7_endOf x5 x3 σ7 (fun r11 σ10 => BX7_waysFrom_74 x1 x2 (BX7_waysFrom_35 x1 x2 post n) post x3 x4 x5 r11 σ10)))))))))
def wpX7_waysFrom (x1 : Int32) (x2 : Int32) (σ : Sg) (post : Int32 → Sg → Prop) : Prop := (((¬ x1 = (σ.1 117 6)) → wpX7_startOf x1 x2 σ (fun r14 σ13 => ∃ nf, BX7_waysFrom_35 x1 x2 post nf r14 ((0 : Int32)) ((0 : Int32)) σ13)) ∧ ((x1 = (σ.1 117 6)) → wpX7_isWhole x2 σ (fun r16 σ15 => (((r16 = 0) → post ((0 : Int32)) σ15) ∧ ((¬ r16 = 0) → post ((1 : Int32)) σ15)))))
set_option maxHeartbeats 4000000 in
set_option maxRecDepth 100000 in
theorem TX7_waysFrom_107 (C : s_C G p s args m c RX7 cX7_waysFrom) (hml : c.maxLocals = 7) (hcs : cells ≤ (rm_X7_waysFrom).cells ∧ slots ≤ (rm_X7_waysFrom).slots) {x1 : Int32} {x2 : Int32} {K35 : Int32 → Int32 → Int32 → Sg → Prop} {post : Int32 → Sg → Prop} (hR : ∀ (r : Int32) (σ1 : Sg) (H : Heap) (locs : List Loc) (pc : Nat) (ls : Array Slot), decode cX7_waysFrom pc = .ok (.ireturn, 1) → post r σ1 → s_St G σ1 H0 H locs → W p l e rm_X7_waysFrom s m args below meth c H locs cells slots Q (F0 m pc ls [.int r])) (hK35 : ∀ (x3 : Int32) (x4 : Int32) (x5 : Int32), ∀ (σ : Sg) (H : Heap) (locs : List Loc) (ls : Array Slot), s_St G σ H0 H locs → lv_has ls 7 [(0, .ref (G.2.2 + 117)), (2, .int x2), (3, .int x3), (4, .int x4), (5, .int x5)] → K35 x3 x4 x5 σ → W p l e rm_X7_waysFrom s m args below meth c H locs cells slots Q (F0 m 35 ls [])) : ∀ (x3 : Int32) (x5 : Int32) (y0 : Int32) (y1 : Int32), ∀ {σ : Sg} {H : Heap} {locs : List Loc} {ls : Array Slot}, s_St G σ H0 H locs → lv_has ls 7 [(0, .ref (G.2.2 + 117)), (2, .int x2), (3, .int x3), (5, .int x5)] → BX7_waysFrom_107 x1 x2 K35 post x3 x5 y0 y1 σ → W p l e rm_X7_waysFrom s m args below meth c H locs cells slots Q (F0 m 107 ls [.int y1, .int y0]) := by
  intro x3 x5 y0 y1  σ H locs ls S hl h
  unfold BX7_waysFrom_107 at h
  refine lv_iadd C.1 C.2.1 dX7_waysFrom_107 ?_
  refine lv_istore (lv' := [(4, .int (y0 + y1)), (0, .ref (G.2.2 + 117)), (2, .int x2), (3, .int x3), (5, .int x5)]) C.1 C.2.1 dX7_waysFrom_108 hl (by decide) rfl (fun ls hl => ?_)
  refine lv_iload C.1 C.2.1 dX7_waysFrom_110 (lv_at hl 0 rfl) ?_
  refine lv_ldc (v := (1000000 : Int32)) C.1 C.2.1 C.2.2.1 (C.2.2.2.1 _ ct_X7_149) dX7_waysFrom_112 ?_
  refine lv_icmp_le (tgt := 122) C.1 C.2.1 dX7_waysFrom_114 (by decide) (fun c1 => ?_) (fun c1 => ?_)
  · replace h := h.1 c1
    refine lv_iload C.1 C.2.1 dX7_waysFrom_122 (lv_at hl 0 rfl) ?_
    refine lv_istore (lv' := [(4, .int (y0 + y1)), (0, .ref (G.2.2 + 117)), (2, .int x2), (3, .int x3), (5, .int x5)]) C.1 C.2.1 dX7_waysFrom_124 hl (by decide) rfl (fun ls hl => ?_)
    refine lv_iinc (v := (x5 + 1)) (lv' := [(5, .int (x5 + 1)), (4, .int (y0 + y1)), (0, .ref (G.2.2 + 117)), (2, .int x2), (3, .int x3)]) C.1 C.2.1 dX7_waysFrom_126 hl (k := 4) rfl rfl (by decide) rfl (fun ls hl => ?_)
    refine lv_goto (tgt := 35) C.1 C.2.1 dX7_waysFrom_129 (by decide) ?_
    exact hK35 x3 ((y0 + y1)) ((x5 + 1)) _ _ _ _ S (lv_sub hl [2, 3, 4, 1, 0] rfl) h
  · replace h := h.2 c1
    refine lv_ldc (v := (1000000 : Int32)) C.1 C.2.1 C.2.2.1 (C.2.2.2.1 _ ct_X7_149) dX7_waysFrom_117 ?_
    refine lv_goto (tgt := 124) C.1 C.2.1 dX7_waysFrom_119 (by decide) ?_
    refine lv_istore (lv' := [(4, .int (1000000 : Int32)), (0, .ref (G.2.2 + 117)), (2, .int x2), (3, .int x3), (5, .int x5)]) C.1 C.2.1 dX7_waysFrom_124 hl (by decide) rfl (fun ls hl => ?_)
    refine lv_iinc (v := (x5 + 1)) (lv' := [(5, .int (x5 + 1)), (4, .int (1000000 : Int32)), (0, .ref (G.2.2 + 117)), (2, .int x2), (3, .int x3)]) C.1 C.2.1 dX7_waysFrom_126 hl (k := 4) rfl rfl (by decide) rfl (fun ls hl => ?_)
    refine lv_goto (tgt := 35) C.1 C.2.1 dX7_waysFrom_129 (by decide) ?_
    exact hK35 x3 ((1000000 : Int32)) ((x5 + 1)) _ _ _ _ S (lv_sub hl [2, 3, 4, 1, 0] rfl) h
set_option maxHeartbeats 4000000 in
set_option maxRecDepth 100000 in
theorem TX7_waysFrom_74 (C : s_C G p s args m c RX7 cX7_waysFrom) (hml : c.maxLocals = 7) (hcs : cells ≤ (rm_X7_waysFrom).cells ∧ slots ≤ (rm_X7_waysFrom).slots) {x1 : Int32} {x2 : Int32} {K35 : Int32 → Int32 → Int32 → Sg → Prop} {post : Int32 → Sg → Prop} (hR : ∀ (r : Int32) (σ1 : Sg) (H : Heap) (locs : List Loc) (pc : Nat) (ls : Array Slot), decode cX7_waysFrom pc = .ok (.ireturn, 1) → post r σ1 → s_St G σ1 H0 H locs → W p l e rm_X7_waysFrom s m args below meth c H locs cells slots Q (F0 m pc ls [.int r])) (hK35 : ∀ (x3 : Int32) (x4 : Int32) (x5 : Int32), ∀ (σ : Sg) (H : Heap) (locs : List Loc) (ls : Array Slot), s_St G σ H0 H locs → lv_has ls 7 [(0, .ref (G.2.2 + 117)), (2, .int x2), (3, .int x3), (4, .int x4), (5, .int x5)] → K35 x3 x4 x5 σ → W p l e rm_X7_waysFrom s m args below meth c H locs cells slots Q (F0 m 35 ls [])) : ∀ (x3 : Int32) (x4 : Int32) (x5 : Int32) (y0 : Int32), ∀ {σ : Sg} {H : Heap} {locs : List Loc} {ls : Array Slot}, s_St G σ H0 H locs → lv_has ls 7 [(0, .ref (G.2.2 + 117)), (2, .int x2), (3, .int x3), (4, .int x4), (5, .int x5)] → BX7_waysFrom_74 x1 x2 K35 post x3 x4 x5 y0 σ → W p l e rm_X7_waysFrom s m args below meth c H locs cells slots Q (F0 m 74 ls [.int y0]) := by
  intro x3 x4 x5 y0  σ H locs ls S hl h
  unfold BX7_waysFrom_74 at h
  refine lv_istore (lv' := [(6, .int y0), (0, .ref (G.2.2 + 117)), (2, .int x2), (3, .int x3), (4, .int x4), (5, .int x5)]) C.1 C.2.1 dX7_waysFrom_74 hl (by decide) rfl (fun ls hl => ?_)
  refine lv_iload C.1 C.2.1 dX7_waysFrom_76 (lv_at hl 4 rfl) ?_
  refine lv_iload C.1 C.2.1 dX7_waysFrom_78 (lv_at hl 0 rfl) ?_
  refine lv_bipush (v := (-9 : Int32)) C.1 C.2.1 dX7_waysFrom_80 (by decide) ?_
  refine lv_icmp_ne (tgt := 89) C.1 C.2.1 dX7_waysFrom_82 (by decide) (fun c2 => ?_) (fun c2 => ?_)
  · replace h := h.1 c2
    refine lv_aload_n C.1 C.2.1 dX7_waysFrom_89 rfl (lv_at hl 1 rfl) ?_
    refine g_X7_9 C fl_X7_30 kd_117 S fn_117_9 dX7_waysFrom_90 ?_
    refine lv_sipush (v := (4096 : Int32)) C.1 C.2.1 dX7_waysFrom_93 (by decide) ?_
    refine lv_iload C.1 C.2.1 dX7_waysFrom_96 (lv_at hl 0 rfl) ?_
    refine lv_imul C.1 C.2.1 dX7_waysFrom_98 ?_
    refine lv_iload_n C.1 C.2.1 dX7_waysFrom_99 rfl (lv_at hl 2 rfl) ?_
    refine lv_iload C.1 C.2.1 dX7_waysFrom_100 (lv_at hl 5 rfl) ?_
    refine k_i (r_S (As := [.int x2, .int x5]) (rest := [.int ((4096 : Int32) * y0), .ref (G.2.2 + 124), .int x4]) C hml (c_X7_with l G x2 x5 σ _ h) kM_X7_with st_X7_with ml_X7_143 ⟨rfl, rfl⟩ ⟨Nat.le_of_ble_eq_true rfl, Nat.le_of_ble_eq_true rfl⟩ hcs S rfl hl.1 rfl (Nat.le_of_ble_eq_true rfl) dX7_waysFrom_102) S (fun r4 σ3 H locs h S => ?_)
    refine lv_iadd C.1 C.2.1 dX7_waysFrom_105 ?_
    refine a_ild C kd_124 S ln_124 h.1 dX7_waysFrom_106 ?_
    replace h := h.2
    exact TX7_waysFrom_107 C hml hcs hR hK35 x3 x5 x4 ((σ3.1 124 ((((4096 : Int32) * y0) + r4)).toNatClampNeg)) S (lv_sub hl [1, 2, 3, 5] rfl) h
  · replace h := h.2 c2
    refine lv_iconst (v := (0 : Int32)) C.1 C.2.1 dX7_waysFrom_85 (by decide) ?_
    refine lv_goto (tgt := 107) C.1 C.2.1 dX7_waysFrom_86 (by decide) ?_
    exact TX7_waysFrom_107 C hml hcs hR hK35 x3 x5 x4 ((0 : Int32)) S (lv_sub hl [1, 2, 3, 5] rfl) h
set_option maxHeartbeats 4000000 in
set_option maxRecDepth 100000 in
theorem TX7_waysFrom_35 (C : s_C G p s args m c RX7 cX7_waysFrom) (hml : c.maxLocals = 7) (hcs : cells ≤ (rm_X7_waysFrom).cells ∧ slots ≤ (rm_X7_waysFrom).slots) {x1 : Int32} {x2 : Int32} {post : Int32 → Sg → Prop} (hR : ∀ (r : Int32) (σ1 : Sg) (H : Heap) (locs : List Loc) (pc : Nat) (ls : Array Slot), decode cX7_waysFrom pc = .ok (.ireturn, 1) → post r σ1 → s_St G σ1 H0 H locs → W p l e rm_X7_waysFrom s m args below meth c H locs cells slots Q (F0 m pc ls [.int r])) : ∀ (n : Nat) (x3 : Int32) (x4 : Int32) (x5 : Int32), ∀ {σ : Sg} {H : Heap} {locs : List Loc} {ls : Array Slot}, s_St G σ H0 H locs → lv_has ls 7 [(0, .ref (G.2.2 + 117)), (2, .int x2), (3, .int x3), (4, .int x4), (5, .int x5)] → BX7_waysFrom_35 x1 x2 post n x3 x4 x5 σ → W p l e rm_X7_waysFrom s m args below meth c H locs cells slots Q (F0 m 35 ls []) := by
  intro n
  induction n with
  | zero =>
    intro x3 x4 x5  σ H locs ls S hl h
    exact absurd h (fun h => h)
  | succ n ih0 =>
    have ih : ∀ (x3 : Int32) (x4 : Int32) (x5 : Int32), ∀ (σ : Sg) (H : Heap) (locs : List Loc) (ls : Array Slot), s_St G σ H0 H locs → lv_has ls 7 [(0, .ref (G.2.2 + 117)), (2, .int x2), (3, .int x3), (4, .int x4), (5, .int x5)] → BX7_waysFrom_35 x1 x2 post n x3 x4 x5 σ → W p l e rm_X7_waysFrom s m args below meth c H locs cells slots Q (F0 m 35 ls []) := fun x3 x4 x5  _ _ _ _ => ih0 x3 x4 x5 
    intro x3 x4 x5  σ H locs ls S hl h
    refine lv_iload C.1 C.2.1 dX7_waysFrom_35 (lv_at hl 4 rfl) ?_
    refine lv_aload_n C.1 C.2.1 dX7_waysFrom_37 rfl (lv_at hl 0 rfl) ?_
    refine g_X7_0 C fl_X7_7 kd_117 S fn_117_0 dX7_waysFrom_38 ?_
    refine lv_iconst (v := (0 : Int32)) C.1 C.2.1 dX7_waysFrom_41 (by decide) ?_
    refine a_ild C kd_118 S ln_118 h.1 dX7_waysFrom_42 ?_
    replace h := h.2
    refine lv_icmp_ge (tgt := 132) C.1 C.2.1 dX7_waysFrom_43 (by decide) (fun c5 => ?_) (fun c5 => ?_)
    · replace h := h.1 c5
      refine lv_iload C.1 C.2.1 dX7_waysFrom_132 (lv_at hl 3 rfl) ?_
      exact hR _ _ _ _ _ _ dX7_waysFrom_134 h S
    · replace h := h.2 c5
      refine lv_iload_n C.1 C.2.1 dX7_waysFrom_46 rfl (lv_at hl 2 rfl) ?_
      refine lv_bipush (v := (-9 : Int32)) C.1 C.2.1 dX7_waysFrom_47 (by decide) ?_
      refine lv_icmp_eq (tgt := 132) C.1 C.2.1 dX7_waysFrom_49 (by decide) (fun c6 => ?_) (fun c6 => ?_)
      · replace h := h.1 c6
        refine lv_iload C.1 C.2.1 dX7_waysFrom_132 (lv_at hl 3 rfl) ?_
        exact hR _ _ _ _ _ _ dX7_waysFrom_134 h S
      · replace h := h.2 c6
        refine lv_aload_n C.1 C.2.1 dX7_waysFrom_52 rfl (lv_at hl 0 rfl) ?_
        refine lv_iload_n C.1 C.2.1 dX7_waysFrom_53 rfl (lv_at hl 1 rfl) ?_
        refine lv_iload C.1 C.2.1 dX7_waysFrom_54 (lv_at hl 4 rfl) ?_
        refine k_i (r_V (As := [.int x2, .int x5]) (rest := []) C hml (c_X7_may l G x2 x5 σ _ h) kM_X7_may im_X7_may se_X7_may ml_X7_128 ⟨rfl, rfl⟩ ⟨Nat.le_of_ble_eq_true rfl, Nat.le_of_ble_eq_true rfl⟩ hcs S kd_117 (by decide) (T := TX7) (N := 17) rfl rfl hl.1 rfl (Nat.le_of_ble_eq_true rfl) dX7_waysFrom_56) S (fun r8 σ7 H locs h S => ?_)
        refine lv_if_eq (tgt := 72) C.1 C.2.1 dX7_waysFrom_59 (by decide) (fun c9 => ?_) (fun c9 => ?_)
        · replace h := h.1 c9
          refine lv_bipush (v := (-9 : Int32)) C.1 C.2.1 dX7_waysFrom_72 (by decide) ?_
          exact TX7_waysFrom_74 C hml hcs hR ih x3 x4 x5 ((-9 : Int32)) S (lv_sub hl [0, 1, 2, 3, 4] rfl) h
        · replace h := h.2 c9
          refine lv_aload_n C.1 C.2.1 dX7_waysFrom_62 rfl (lv_at hl 0 rfl) ?_
          refine lv_iload C.1 C.2.1 dX7_waysFrom_63 (lv_at hl 4 rfl) ?_
          refine lv_iload_n C.1 C.2.1 dX7_waysFrom_65 rfl (lv_at hl 2 rfl) ?_
          refine k_i (r_V (As := [.int x5, .int x3]) (rest := []) C hml (c_X7_endOf l G x5 x3 σ7 _ h) kM_X7_endOf im_X7_endOf se_X7_endOf ml_X7_140 ⟨rfl, rfl⟩ ⟨Nat.le_of_ble_eq_true rfl, Nat.le_of_ble_eq_true rfl⟩ hcs S kd_117 (by decide) (T := TX7) (N := 17) rfl rfl hl.1 rfl (Nat.le_of_ble_eq_true rfl) dX7_waysFrom_66) S (fun r11 σ10 H locs h S => ?_)
          refine lv_goto (tgt := 74) C.1 C.2.1 dX7_waysFrom_69 (by decide) ?_
          exact TX7_waysFrom_74 C hml hcs hR ih x3 x4 x5 r11 S (lv_sub hl [0, 1, 2, 3, 4] rfl) h
theorem kM_X7_waysFrom : s_M yX7_waysFrom cX7_waysFrom 7 (some .int) 2 := ⟨co_X7_waysFrom, in_X7, by decide, by decide, by decide +kernel⟩
set_option maxHeartbeats 4000000 in
set_option maxRecDepth 100000 in
theorem c_X7_waysFrom (l : Launch) (G : s_G) (x1 : Int32) (x2 : Int32) (σ : Sg) (post : Int32 → Sg → Prop) (h : wpX7_waysFrom x1 x2 σ post) : Met l yX7_waysFrom (wsU yX7_waysFrom cX7_waysFrom 7 (some .int)) rm_X7_waysFrom (va_Pc [.ref (G.2.2 + 117), .int x1, .int x2] (s_Pre G σ)) (va_Qi post (s_B G) (s_A G.2.2)) 0 0 (s_A G.2.2) := by
  refine Met.ofW (cc := cX7_waysFrom) (maxL := 7) (ret := (some .int)) (by decide) rfl ?_
  intro p e s m args below meth c s₁ B hml hv
  obtain ⟨rfl, hP, hrok, hK, hN⟩ := hv
  have C : s_C G p s (([.ref (G.2.2 + 117), .int x1, .int x2] : List Value).toArray) m c RX7 cX7_waysFrom := ⟨B.exec, B.bytes, findClass_of_methodNamed B.named, fun w hw => atoms_spec (ws := wsU yX7_waysFrom cX7_waysFrom 7 (some .int)) B.pre w (List.mem_cons_of_mem _ hw), hK, hN⟩
  have hr := B.returns
  have hlocks := B.notSynchronized
  have S : s_St G σ s.heap s.heap [] := ⟨hP, va_S.rf, hrok⟩
  have hcs : 0 ≤ (rm_X7_waysFrom).cells ∧ 0 ≤ (rm_X7_waysFrom).slots := ⟨Nat.le_refl 0, Nat.le_refl 0⟩
  have hR : ∀ (r : Int32) (σ1 : Sg) (H : Heap) (locs : List Loc) (pc : Nat) (ls : Array Slot), decode cX7_waysFrom pc = .ok (.ireturn, 1) → post r σ1 → s_St G σ1 s.heap H locs → W p l e rm_X7_waysFrom s m ([.ref (G.2.2 + 117), .int x1, .int x2] : List Value).toArray below meth c H locs 0 0 (MQ below (va_Qi post (s_B G) (s_A G.2.2)) ([.ref (G.2.2 + 117), .int x1, .int x2] : List Value).toArray s 0 0 (s_A G.2.2)) (F0 m pc ls [.int r]) := fun _ _ _ _ _ _ hd hp S => ret_i C hr hlocks hd hp S
  have hl := lv_entry ([.ref (G.2.2 + 117), .int x1, .int x2]) (n := 7) (Nat.le_of_ble_eq_true rfl)
  rw [lg_entry_eq]
  generalize (lg_sl ([.ref (G.2.2 + 117), .int x1, .int x2]) ++ List.replicate (7 - (lg_sl ([.ref (G.2.2 + 117), .int x1, .int x2])).length) Slot.unset).toArray = ls at hl ⊢
  have hl : lv_has ls 7 [(0, .ref (G.2.2 + 117)), (1, .int x1), (2, .int x2)] := hl
  unfold wpX7_waysFrom at h
  refine lv_iload_n C.1 C.2.1 dX7_waysFrom_0 rfl (lv_at hl 1 rfl) ?_
  refine lv_aload_n C.1 C.2.1 dX7_waysFrom_1 rfl (lv_at hl 0 rfl) ?_
  refine g_X7_6 C fl_X7_64 kd_117 S dX7_waysFrom_2 ?_
  refine lv_icmp_ne (tgt := 22) C.1 C.2.1 dX7_waysFrom_5 (by decide) (fun c12 => ?_) (fun c12 => ?_)
  · replace h := h.1 c12
    refine lv_aload_n C.1 C.2.1 dX7_waysFrom_22 rfl (lv_at hl 0 rfl) ?_
    refine lv_iload_n C.1 C.2.1 dX7_waysFrom_23 rfl (lv_at hl 1 rfl) ?_
    refine lv_iload_n C.1 C.2.1 dX7_waysFrom_24 rfl (lv_at hl 2 rfl) ?_
    refine k_i (r_V (As := [.int x1, .int x2]) (rest := []) C hml (c_X7_startOf l G x1 x2 σ _ h) kM_X7_startOf im_X7_startOf se_X7_startOf ml_X7_137 ⟨rfl, rfl⟩ ⟨Nat.le_of_ble_eq_true rfl, Nat.le_of_ble_eq_true rfl⟩ hcs S kd_117 (by decide) (T := TX7) (N := 17) rfl rfl hl.1 rfl (Nat.le_of_ble_eq_true rfl) dX7_waysFrom_25) S (fun r14 σ13 H locs h S => ?_)
    refine lv_istore_n (lv' := [(3, .int r14), (0, .ref (G.2.2 + 117)), (1, .int x1), (2, .int x2)]) C.1 C.2.1 dX7_waysFrom_28 rfl hl (by decide) rfl (fun ls hl => ?_)
    refine lv_iconst (v := (0 : Int32)) C.1 C.2.1 dX7_waysFrom_29 (by decide) ?_
    refine lv_istore (lv' := [(4, .int (0 : Int32)), (3, .int r14), (0, .ref (G.2.2 + 117)), (1, .int x1), (2, .int x2)]) C.1 C.2.1 dX7_waysFrom_30 hl (by decide) rfl (fun ls hl => ?_)
    refine lv_iconst (v := (0 : Int32)) C.1 C.2.1 dX7_waysFrom_32 (by decide) ?_
    refine lv_istore (lv' := [(5, .int (0 : Int32)), (4, .int (0 : Int32)), (3, .int r14), (0, .ref (G.2.2 + 117)), (1, .int x1), (2, .int x2)]) C.1 C.2.1 dX7_waysFrom_33 hl (by decide) rfl (fun ls hl => ?_)
    obtain ⟨nf, h⟩ := h
    exact TX7_waysFrom_35 C hml hcs hR nf r14 ((0 : Int32)) ((0 : Int32)) S (lv_sub hl [3, 5, 2, 1, 0] rfl) h
  · replace h := h.2 c12
    refine lv_aload_n C.1 C.2.1 dX7_waysFrom_8 rfl (lv_at hl 0 rfl) ?_
    refine lv_iload_n C.1 C.2.1 dX7_waysFrom_9 rfl (lv_at hl 2 rfl) ?_
    refine k_i (r_V (As := [.int x2]) (rest := []) C hml (c_X7_isWhole l G x2 σ _ h) kM_X7_isWhole im_X7_isWhole se_X7_isWhole ml_X7_146 ⟨rfl, rfl⟩ ⟨Nat.le_of_ble_eq_true rfl, Nat.le_of_ble_eq_true rfl⟩ hcs S kd_117 (by decide) (T := TX7) (N := 17) rfl rfl hl.1 rfl (Nat.le_of_ble_eq_true rfl) dX7_waysFrom_10) S (fun r16 σ15 H locs h S => ?_)
    refine lv_if_eq (tgt := 20) C.1 C.2.1 dX7_waysFrom_13 (by decide) (fun c17 => ?_) (fun c17 => ?_)
    · replace h := h.1 c17
      refine lv_iconst (v := (0 : Int32)) C.1 C.2.1 dX7_waysFrom_20 (by decide) ?_
      exact hR _ _ _ _ _ _ dX7_waysFrom_21 h S
    · replace h := h.2 c17
      refine lv_iconst (v := (1 : Int32)) C.1 C.2.1 dX7_waysFrom_16 (by decide) ?_
      refine lv_goto (tgt := 21) C.1 C.2.1 dX7_waysFrom_17 (by decide) ?_
      exact hR _ _ _ _ _ _ dX7_waysFrom_21 h S
/-! X7_layWays -/
abbrev rm_X7_layWays : Room := { frames := 5, cells := 0, slots := 0, locals := 117 }
def BX7_layWays_28  (K22 : Int32 → Sg → Prop) (post : Sg → Prop) : Nat → Int32 → Int32 → Sg → Prop
  | 0, _, _, _ => False
  | n + 1, x1, x2, σ => ((((4096 : Int32) ≤ x2) → K22 ((x1 + (-1))) σ) ∧ ((¬ (4096 : Int32) ≤ x2) → (vp_in ((((4096 : Int32) * x1) + x2)) 249856 ∧ ((((σ.1 123 ((((4096 : Int32) * x1) + x2)).toNatClampNeg) = 0) → BX7_layWays_28 K22 post n x1 ((x2 + 1)) σ) ∧ ((¬ (σ.1 123 ((((4096 : Int32) * x1) + x2)).toNatClampNeg) = 0) → wpX7_waysFrom x1 x2 σ (fun r4 σ3 => (vp_in ((((4096 : Int32) * x1) + x2)) 249856 ∧ (∀ σ5 : Sg, σ5 = setI σ3 124 ((((4096 : Int32) * x1) + x2)).toNatClampNeg r4 → BX7_layWays_28 K22 post n x1 ((x2 + 1)) σ5))))))))
def BX7_layWays_22  (post : Sg → Prop) : Nat → Int32 → Sg → Prop
  | 0, _, _ => False
  | n + 1, x1, σ => (((x1 < 0) → post σ) ∧ ((¬ x1 < 0) → ∃ nf, BX7_layWays_28 (BX7_layWays_22 post n) post nf x1 ((0 : Int32)) σ))
def wpX7_layWays  (σ : Sg) (post : Sg → Prop) : Prop := ((((σ.1 117 10) = 0) → (∀ σ9 : Sg, σ9 = setI σ 117 10 ((1 : Int32)) → wpX7_layBeginnings σ9 (fun σ11 => ∃ nf, BX7_layWays_22 post nf ((σ11.1 117 6)) σ11))) ∧ ((¬ (σ.1 117 10) = 0) → post σ))
set_option maxHeartbeats 4000000 in
set_option maxRecDepth 100000 in
theorem TX7_layWays_28 (C : s_C G p s args m c RX7 cX7_layWays) (hml : c.maxLocals = 3) (hcs : cells ≤ (rm_X7_layWays).cells ∧ slots ≤ (rm_X7_layWays).slots)  {K22 : Int32 → Sg → Prop} {post : Sg → Prop} (hR : ∀ (σ1 : Sg) (H : Heap) (locs : List Loc) (pc : Nat) (ls : Array Slot), decode cX7_layWays pc = .ok (.return_, 1) → post σ1 → s_St G σ1 H0 H locs → W p l e rm_X7_layWays s m args below meth c H locs cells slots Q (F0 m pc ls [])) (hK22 : ∀ (x1 : Int32), ∀ (σ : Sg) (H : Heap) (locs : List Loc) (ls : Array Slot), s_St G σ H0 H locs → lv_has ls 3 [(0, .ref (G.2.2 + 117)), (1, .int x1)] → K22 x1 σ → W p l e rm_X7_layWays s m args below meth c H locs cells slots Q (F0 m 22 ls [])) : ∀ (n : Nat) (x1 : Int32) (x2 : Int32), ∀ {σ : Sg} {H : Heap} {locs : List Loc} {ls : Array Slot}, s_St G σ H0 H locs → lv_has ls 3 [(0, .ref (G.2.2 + 117)), (1, .int x1), (2, .int x2)] → BX7_layWays_28 K22 post n x1 x2 σ → W p l e rm_X7_layWays s m args below meth c H locs cells slots Q (F0 m 28 ls []) := by
  intro n
  induction n with
  | zero =>
    intro x1 x2  σ H locs ls S hl h
    exact absurd h (fun h => h)
  | succ n ih0 =>
    have ih : ∀ (x1 : Int32) (x2 : Int32), ∀ (σ : Sg) (H : Heap) (locs : List Loc) (ls : Array Slot), s_St G σ H0 H locs → lv_has ls 3 [(0, .ref (G.2.2 + 117)), (1, .int x1), (2, .int x2)] → BX7_layWays_28 K22 post n x1 x2 σ → W p l e rm_X7_layWays s m args below meth c H locs cells slots Q (F0 m 28 ls []) := fun x1 x2  _ _ _ _ => ih0 x1 x2 
    intro x1 x2  σ H locs ls S hl h
    refine lv_iload_n C.1 C.2.1 dX7_layWays_28 rfl (lv_at hl 2 rfl) ?_
    refine lv_sipush (v := (4096 : Int32)) C.1 C.2.1 dX7_layWays_29 (by decide) ?_
    refine lv_icmp_ge (tgt := 74) C.1 C.2.1 dX7_layWays_32 (by decide) (fun c1 => ?_) (fun c1 => ?_)
    · replace h := h.1 c1
      refine lv_iinc (v := (x1 + (-1))) (lv' := [(1, .int (x1 + (-1))), (0, .ref (G.2.2 + 117)), (2, .int x2)]) C.1 C.2.1 dX7_layWays_74 hl (k := 1) rfl rfl (by decide) rfl (fun ls hl => ?_)
      refine lv_goto (tgt := 22) C.1 C.2.1 dX7_layWays_77 (by decide) ?_
      exact hK22 ((x1 + (-1))) _ _ _ _ S (lv_sub hl [1, 0] rfl) h
    · replace h := h.2 c1
      refine lv_aload_n C.1 C.2.1 dX7_layWays_35 rfl (lv_at hl 0 rfl) ?_
      refine g_X7_8 C fl_X7_26 kd_117 S fn_117_8 dX7_layWays_36 ?_
      refine lv_sipush (v := (4096 : Int32)) C.1 C.2.1 dX7_layWays_39 (by decide) ?_
      refine lv_iload_n C.1 C.2.1 dX7_layWays_42 rfl (lv_at hl 1 rfl) ?_
      refine lv_imul C.1 C.2.1 dX7_layWays_43 ?_
      refine lv_iload_n C.1 C.2.1 dX7_layWays_44 rfl (lv_at hl 2 rfl) ?_
      refine lv_iadd C.1 C.2.1 dX7_layWays_45 ?_
      refine a_zld C kd_123 S ln_123 h.1 dX7_layWays_46 ?_
      replace h := h.2
      refine lv_if_eq (tgt := 68) C.1 C.2.1 dX7_layWays_47 (by decide) (fun c2 => ?_) (fun c2 => ?_)
      · replace h := h.1 c2
        refine lv_iinc (v := (x2 + 1)) (lv' := [(2, .int (x2 + 1)), (0, .ref (G.2.2 + 117)), (1, .int x1)]) C.1 C.2.1 dX7_layWays_68 hl (k := 2) rfl rfl (by decide) rfl (fun ls hl => ?_)
        refine lv_goto (tgt := 28) C.1 C.2.1 dX7_layWays_71 (by decide) ?_
        exact ih x1 ((x2 + 1)) _ _ _ _ S (lv_sub hl [1, 2, 0] rfl) h
      · replace h := h.2 c2
        refine lv_aload_n C.1 C.2.1 dX7_layWays_50 rfl (lv_at hl 0 rfl) ?_
        refine g_X7_9 C fl_X7_30 kd_117 S fn_117_9 dX7_layWays_51 ?_
        refine lv_sipush (v := (4096 : Int32)) C.1 C.2.1 dX7_layWays_54 (by decide) ?_
        refine lv_iload_n C.1 C.2.1 dX7_layWays_57 rfl (lv_at hl 1 rfl) ?_
        refine lv_imul C.1 C.2.1 dX7_layWays_58 ?_
        refine lv_iload_n C.1 C.2.1 dX7_layWays_59 rfl (lv_at hl 2 rfl) ?_
        refine lv_iadd C.1 C.2.1 dX7_layWays_60 ?_
        refine lv_aload_n C.1 C.2.1 dX7_layWays_61 rfl (lv_at hl 0 rfl) ?_
        refine lv_iload_n C.1 C.2.1 dX7_layWays_62 rfl (lv_at hl 1 rfl) ?_
        refine lv_iload_n C.1 C.2.1 dX7_layWays_63 rfl (lv_at hl 2 rfl) ?_
        refine k_i (r_V (As := [.int x1, .int x2]) (rest := [.int (((4096 : Int32) * x1) + x2), .ref (G.2.2 + 124)]) C hml (c_X7_waysFrom l G x1 x2 σ _ h) kM_X7_waysFrom im_X7_waysFrom se_X7_waysFrom ml_X7_153 ⟨rfl, rfl⟩ ⟨Nat.le_of_ble_eq_true rfl, Nat.le_of_ble_eq_true rfl⟩ hcs S kd_117 (by decide) (T := TX7) (N := 17) rfl rfl hl.1 rfl (Nat.le_of_ble_eq_true rfl) dX7_layWays_64) S (fun r4 σ3 H locs h S => ?_)
        refine a_ist C kd_124 S ln_124 h.1 dX7_layWays_67 (fun σ5 H locs e6 S => ?_)
        replace h := h.2 σ5 e6
        refine lv_iinc (v := (x2 + 1)) (lv' := [(2, .int (x2 + 1)), (0, .ref (G.2.2 + 117)), (1, .int x1)]) C.1 C.2.1 dX7_layWays_68 hl (k := 2) rfl rfl (by decide) rfl (fun ls hl => ?_)
        refine lv_goto (tgt := 28) C.1 C.2.1 dX7_layWays_71 (by decide) ?_
        exact ih x1 ((x2 + 1)) _ _ _ _ S (lv_sub hl [1, 2, 0] rfl) h
set_option maxHeartbeats 4000000 in
set_option maxRecDepth 100000 in
theorem TX7_layWays_22 (C : s_C G p s args m c RX7 cX7_layWays) (hml : c.maxLocals = 3) (hcs : cells ≤ (rm_X7_layWays).cells ∧ slots ≤ (rm_X7_layWays).slots)  {post : Sg → Prop} (hR : ∀ (σ1 : Sg) (H : Heap) (locs : List Loc) (pc : Nat) (ls : Array Slot), decode cX7_layWays pc = .ok (.return_, 1) → post σ1 → s_St G σ1 H0 H locs → W p l e rm_X7_layWays s m args below meth c H locs cells slots Q (F0 m pc ls [])) : ∀ (n : Nat) (x1 : Int32), ∀ {σ : Sg} {H : Heap} {locs : List Loc} {ls : Array Slot}, s_St G σ H0 H locs → lv_has ls 3 [(0, .ref (G.2.2 + 117)), (1, .int x1)] → BX7_layWays_22 post n x1 σ → W p l e rm_X7_layWays s m args below meth c H locs cells slots Q (F0 m 22 ls []) := by
  intro n
  induction n with
  | zero =>
    intro x1  σ H locs ls S hl h
    exact absurd h (fun h => h)
  | succ n ih0 =>
    have ih : ∀ (x1 : Int32), ∀ (σ : Sg) (H : Heap) (locs : List Loc) (ls : Array Slot), s_St G σ H0 H locs → lv_has ls 3 [(0, .ref (G.2.2 + 117)), (1, .int x1)] → BX7_layWays_22 post n x1 σ → W p l e rm_X7_layWays s m args below meth c H locs cells slots Q (F0 m 22 ls []) := fun x1  _ _ _ _ => ih0 x1 
    intro x1  σ H locs ls S hl h
    refine lv_iload_n C.1 C.2.1 dX7_layWays_22 rfl (lv_at hl 1 rfl) ?_
    refine lv_if_lt (tgt := 80) C.1 C.2.1 dX7_layWays_23 (by decide) (fun c7 => ?_) (fun c7 => ?_)
    · replace h := h.1 c7
      exact hR _ _ _ _ _ dX7_layWays_80 h S
    · replace h := h.2 c7
      refine lv_iconst (v := (0 : Int32)) C.1 C.2.1 dX7_layWays_26 (by decide) ?_
      refine lv_istore_n (lv' := [(2, .int (0 : Int32)), (0, .ref (G.2.2 + 117)), (1, .int x1)]) C.1 C.2.1 dX7_layWays_27 rfl hl (by decide) rfl (fun ls hl => ?_)
      obtain ⟨nf, h⟩ := h
      exact TX7_layWays_28 C hml hcs hR ih nf x1 ((0 : Int32)) S (lv_sub hl [1, 2, 0] rfl) h
theorem kM_X7_layWays : s_M yX7_layWays cX7_layWays 3 none 0 := ⟨co_X7_layWays, in_X7, by decide, by decide, by decide +kernel⟩
set_option maxHeartbeats 4000000 in
set_option maxRecDepth 100000 in
theorem c_X7_layWays (l : Launch) (G : s_G)  (σ : Sg) (post : Sg → Prop) (h : wpX7_layWays σ post) : Met l yX7_layWays (wsU yX7_layWays cX7_layWays 3 none) rm_X7_layWays (va_Pc [.ref (G.2.2 + 117)] (s_Pre G σ)) (va_Qv post (s_B G) (s_A G.2.2)) 0 0 (s_A G.2.2) := by
  refine Met.ofW (cc := cX7_layWays) (maxL := 3) (ret := none) (by decide) rfl ?_
  intro p e s m args below meth c s₁ B hml hv
  obtain ⟨rfl, hP, hrok, hK, hN⟩ := hv
  have C : s_C G p s (([.ref (G.2.2 + 117)] : List Value).toArray) m c RX7 cX7_layWays := ⟨B.exec, B.bytes, findClass_of_methodNamed B.named, fun w hw => atoms_spec (ws := wsU yX7_layWays cX7_layWays 3 none) B.pre w (List.mem_cons_of_mem _ hw), hK, hN⟩
  have hr := B.returns
  have hlocks := B.notSynchronized
  have S : s_St G σ s.heap s.heap [] := ⟨hP, va_S.rf, hrok⟩
  have hcs : 0 ≤ (rm_X7_layWays).cells ∧ 0 ≤ (rm_X7_layWays).slots := ⟨Nat.le_refl 0, Nat.le_refl 0⟩
  have hR : ∀ (σ1 : Sg) (H : Heap) (locs : List Loc) (pc : Nat) (ls : Array Slot), decode cX7_layWays pc = .ok (.return_, 1) → post σ1 → s_St G σ1 s.heap H locs → W p l e rm_X7_layWays s m ([.ref (G.2.2 + 117)] : List Value).toArray below meth c H locs 0 0 (MQ below (va_Qv post (s_B G) (s_A G.2.2)) ([.ref (G.2.2 + 117)] : List Value).toArray s 0 0 (s_A G.2.2)) (F0 m pc ls []) := fun _ _ _ _ _ hd hp S => ret_v C hr hlocks hd hp S
  have hl := lv_entry ([.ref (G.2.2 + 117)]) (n := 3) (Nat.le_of_ble_eq_true rfl)
  rw [lg_entry_eq]
  generalize (lg_sl ([.ref (G.2.2 + 117)]) ++ List.replicate (3 - (lg_sl ([.ref (G.2.2 + 117)])).length) Slot.unset).toArray = ls at hl ⊢
  have hl : lv_has ls 3 [(0, .ref (G.2.2 + 117))] := hl
  unfold wpX7_layWays at h
  refine lv_aload_n C.1 C.2.1 dX7_layWays_0 rfl (lv_at hl 0 rfl) ?_
  refine g_X7_10 C fl_X7_56 kd_117 S dX7_layWays_1 ?_
  refine lv_if_eq (tgt := 8) C.1 C.2.1 dX7_layWays_4 (by decide) (fun c8 => ?_) (fun c8 => ?_)
  · replace h := h.1 c8
    refine lv_aload_n C.1 C.2.1 dX7_layWays_8 rfl (lv_at hl 0 rfl) ?_
    refine lv_iconst (v := (1 : Int32)) C.1 C.2.1 dX7_layWays_9 (by decide) ?_
    refine p_X7_10 C fl_X7_56 kd_117 S rfl rfl dX7_layWays_10 (fun σ9 H locs e10 S => ?_)
    replace h := h σ9 e10
    refine lv_aload_n C.1 C.2.1 dX7_layWays_13 rfl (lv_at hl 0 rfl) ?_
    refine k_v (r_V (As := []) (rest := []) C hml (c_X7_layBeginnings l G σ9 _ h) kM_X7_layBeginnings im_X7_layBeginnings se_X7_layBeginnings ml_X7_150 ⟨rfl, rfl⟩ ⟨Nat.le_of_ble_eq_true rfl, Nat.le_of_ble_eq_true rfl⟩ hcs S kd_117 (by decide) (T := TX7) (N := 17) rfl rfl hl.1 rfl (Nat.le_of_ble_eq_true rfl) dX7_layWays_14) S (fun σ11 H locs h S => ?_)
    refine lv_aload_n C.1 C.2.1 dX7_layWays_17 rfl (lv_at hl 0 rfl) ?_
    refine g_X7_6 C fl_X7_64 kd_117 S dX7_layWays_18 ?_
    refine lv_istore_n (lv' := [(1, .int (σ11.1 117 6)), (0, .ref (G.2.2 + 117))]) C.1 C.2.1 dX7_layWays_21 rfl hl (by decide) rfl (fun ls hl => ?_)
    obtain ⟨nf, h⟩ := h
    exact TX7_layWays_22 C hml hcs hR nf ((σ11.1 117 6)) S (lv_sub hl [1, 0] rfl) h
  · replace h := h.2 c8
    exact hR _ _ _ _ _ dX7_layWays_7 h S
/-! X7_fault -/
abbrev rm_X7_fault : Room := { frames := 6, cells := 0, slots := 0, locals := 139 }
def BX7_fault_30  (K20 : Int32 → Int32 → Sg → Prop) (post : Int32 → Sg → Prop) : Nat → Int32 → Int32 → Int32 → Sg → Prop
  | 0, _, _, _, _ => False
  | n + 1, x1, x2, x3, σ => ((((4096 : Int32) ≤ x3) → K20 x1 ((x2 + 1)) σ) ∧ ((¬ (4096 : Int32) ≤ x3) → (vp_in ((((4096 : Int32) * x2) + x3)) 249856 ∧ ((((σ.1 123 ((((4096 : Int32) * x2) + x3)).toNatClampNeg) = 0) → BX7_fault_30 K20 post n x1 x2 ((x3 + 1)) σ) ∧ ((¬ (σ.1 123 ((((4096 : Int32) * x2) + x3)).toNatClampNeg) = 0) → wpX7_furthest x2 x3 σ (fun r4 σ3 => (((r4 ≤ x1) → BX7_fault_30 K20 post n x1 x2 ((x3 + 1)) σ3) ∧ ((¬ r4 ≤ x1) → BX7_fault_30 K20 post n r4 x2 ((x3 + 1)) σ3))))))))
def BX7_fault_20  (post : Int32 → Sg → Prop) : Nat → Int32 → Int32 → Sg → Prop
  | 0, _, _, _ => False
  | n + 1, x1, x2, σ => ((((σ.1 117 6) < x2) → post x1 σ) ∧ ((¬ (σ.1 117 6) < x2) → ∃ nf, BX7_fault_30 (BX7_fault_20 post n) post nf x1 x2 ((0 : Int32)) σ))
def wpX7_fault  (σ : Sg) (post : Int32 → Sg → Prop) : Prop := wpX7_layWays σ (fun σ7 => (vp_in ((0 : Int32)) 249856 ∧ ((((σ7.1 124 ((0 : Int32)).toNatClampNeg) ≤ 0) → ∃ nf, BX7_fault_20 post nf ((0 : Int32)) ((0 : Int32)) σ7) ∧ ((¬ (σ7.1 124 ((0 : Int32)).toNatClampNeg) ≤ 0) → post ((-9 : Int32)) σ7))))
set_option maxHeartbeats 4000000 in
set_option maxRecDepth 100000 in
theorem TX7_fault_30 (C : s_C G p s args m c RX7 cX7_fault) (hml : c.maxLocals = 5) (hcs : cells ≤ (rm_X7_fault).cells ∧ slots ≤ (rm_X7_fault).slots)  {K20 : Int32 → Int32 → Sg → Prop} {post : Int32 → Sg → Prop} (hR : ∀ (r : Int32) (σ1 : Sg) (H : Heap) (locs : List Loc) (pc : Nat) (ls : Array Slot), decode cX7_fault pc = .ok (.ireturn, 1) → post r σ1 → s_St G σ1 H0 H locs → W p l e rm_X7_fault s m args below meth c H locs cells slots Q (F0 m pc ls [.int r])) (hK20 : ∀ (x1 : Int32) (x2 : Int32), ∀ (σ : Sg) (H : Heap) (locs : List Loc) (ls : Array Slot), s_St G σ H0 H locs → lv_has ls 5 [(0, .ref (G.2.2 + 117)), (1, .int x1), (2, .int x2)] → K20 x1 x2 σ → W p l e rm_X7_fault s m args below meth c H locs cells slots Q (F0 m 20 ls [])) : ∀ (n : Nat) (x1 : Int32) (x2 : Int32) (x3 : Int32), ∀ {σ : Sg} {H : Heap} {locs : List Loc} {ls : Array Slot}, s_St G σ H0 H locs → lv_has ls 5 [(0, .ref (G.2.2 + 117)), (1, .int x1), (2, .int x2), (3, .int x3)] → BX7_fault_30 K20 post n x1 x2 x3 σ → W p l e rm_X7_fault s m args below meth c H locs cells slots Q (F0 m 30 ls []) := by
  intro n
  induction n with
  | zero =>
    intro x1 x2 x3  σ H locs ls S hl h
    exact absurd h (fun h => h)
  | succ n ih0 =>
    have ih : ∀ (x1 : Int32) (x2 : Int32) (x3 : Int32), ∀ (σ : Sg) (H : Heap) (locs : List Loc) (ls : Array Slot), s_St G σ H0 H locs → lv_has ls 5 [(0, .ref (G.2.2 + 117)), (1, .int x1), (2, .int x2), (3, .int x3)] → BX7_fault_30 K20 post n x1 x2 x3 σ → W p l e rm_X7_fault s m args below meth c H locs cells slots Q (F0 m 30 ls []) := fun x1 x2 x3  _ _ _ _ => ih0 x1 x2 x3 
    intro x1 x2 x3  σ H locs ls S hl h
    refine lv_iload_n C.1 C.2.1 dX7_fault_30 rfl (lv_at hl 3 rfl) ?_
    refine lv_sipush (v := (4096 : Int32)) C.1 C.2.1 dX7_fault_31 (by decide) ?_
    refine lv_icmp_ge (tgt := 79) C.1 C.2.1 dX7_fault_34 (by decide) (fun c1 => ?_) (fun c1 => ?_)
    · replace h := h.1 c1
      refine lv_iinc (v := (x2 + 1)) (lv' := [(2, .int (x2 + 1)), (0, .ref (G.2.2 + 117)), (1, .int x1), (3, .int x3)]) C.1 C.2.1 dX7_fault_79 hl (k := 2) rfl rfl (by decide) rfl (fun ls hl => ?_)
      refine lv_goto (tgt := 20) C.1 C.2.1 dX7_fault_82 (by decide) ?_
      exact hK20 x1 ((x2 + 1)) _ _ _ _ S (lv_sub hl [1, 2, 0] rfl) h
    · replace h := h.2 c1
      refine lv_aload_n C.1 C.2.1 dX7_fault_37 rfl (lv_at hl 0 rfl) ?_
      refine g_X7_8 C fl_X7_26 kd_117 S fn_117_8 dX7_fault_38 ?_
      refine lv_sipush (v := (4096 : Int32)) C.1 C.2.1 dX7_fault_41 (by decide) ?_
      refine lv_iload_n C.1 C.2.1 dX7_fault_44 rfl (lv_at hl 2 rfl) ?_
      refine lv_imul C.1 C.2.1 dX7_fault_45 ?_
      refine lv_iload_n C.1 C.2.1 dX7_fault_46 rfl (lv_at hl 3 rfl) ?_
      refine lv_iadd C.1 C.2.1 dX7_fault_47 ?_
      refine a_zld C kd_123 S ln_123 h.1 dX7_fault_48 ?_
      replace h := h.2
      refine lv_if_eq (tgt := 73) C.1 C.2.1 dX7_fault_49 (by decide) (fun c2 => ?_) (fun c2 => ?_)
      · replace h := h.1 c2
        refine lv_iinc (v := (x3 + 1)) (lv' := [(3, .int (x3 + 1)), (0, .ref (G.2.2 + 117)), (1, .int x1), (2, .int x2)]) C.1 C.2.1 dX7_fault_73 hl (k := 3) rfl rfl (by decide) rfl (fun ls hl => ?_)
        refine lv_goto (tgt := 30) C.1 C.2.1 dX7_fault_76 (by decide) ?_
        exact ih x1 x2 ((x3 + 1)) _ _ _ _ S (lv_sub hl [1, 2, 3, 0] rfl) h
      · replace h := h.2 c2
        refine lv_aload_n C.1 C.2.1 dX7_fault_52 rfl (lv_at hl 0 rfl) ?_
        refine lv_iload_n C.1 C.2.1 dX7_fault_53 rfl (lv_at hl 2 rfl) ?_
        refine lv_iload_n C.1 C.2.1 dX7_fault_54 rfl (lv_at hl 3 rfl) ?_
        refine k_i (r_V (As := [.int x2, .int x3]) (rest := []) C hml (c_X7_furthest l G x2 x3 σ _ h) kM_X7_furthest im_X7_furthest se_X7_furthest ml_X7_159 ⟨rfl, rfl⟩ ⟨Nat.le_of_ble_eq_true rfl, Nat.le_of_ble_eq_true rfl⟩ hcs S kd_117 (by decide) (T := TX7) (N := 17) rfl rfl hl.1 rfl (Nat.le_of_ble_eq_true rfl) dX7_fault_55) S (fun r4 σ3 H locs h S => ?_)
        refine lv_istore (lv' := [(4, .int r4), (0, .ref (G.2.2 + 117)), (1, .int x1), (2, .int x2), (3, .int x3)]) C.1 C.2.1 dX7_fault_58 hl (by decide) rfl (fun ls hl => ?_)
        refine lv_iload C.1 C.2.1 dX7_fault_60 (lv_at hl 0 rfl) ?_
        refine lv_iload_n C.1 C.2.1 dX7_fault_62 rfl (lv_at hl 2 rfl) ?_
        refine lv_icmp_le (tgt := 71) C.1 C.2.1 dX7_fault_63 (by decide) (fun c5 => ?_) (fun c5 => ?_)
        · replace h := h.1 c5
          refine lv_iload_n C.1 C.2.1 dX7_fault_71 rfl (lv_at hl 2 rfl) ?_
          refine lv_istore_n (lv' := [(1, .int x1), (4, .int r4), (0, .ref (G.2.2 + 117)), (2, .int x2), (3, .int x3)]) C.1 C.2.1 dX7_fault_72 rfl hl (by decide) rfl (fun ls hl => ?_)
          refine lv_iinc (v := (x3 + 1)) (lv' := [(3, .int (x3 + 1)), (1, .int x1), (4, .int r4), (0, .ref (G.2.2 + 117)), (2, .int x2)]) C.1 C.2.1 dX7_fault_73 hl (k := 4) rfl rfl (by decide) rfl (fun ls hl => ?_)
          refine lv_goto (tgt := 30) C.1 C.2.1 dX7_fault_76 (by decide) ?_
          exact ih x1 x2 ((x3 + 1)) _ _ _ _ S (lv_sub hl [3, 1, 4, 0] rfl) h
        · replace h := h.2 c5
          refine lv_iload C.1 C.2.1 dX7_fault_66 (lv_at hl 0 rfl) ?_
          refine lv_goto (tgt := 72) C.1 C.2.1 dX7_fault_68 (by decide) ?_
          refine lv_istore_n (lv' := [(1, .int r4), (4, .int r4), (0, .ref (G.2.2 + 117)), (2, .int x2), (3, .int x3)]) C.1 C.2.1 dX7_fault_72 rfl hl (by decide) rfl (fun ls hl => ?_)
          refine lv_iinc (v := (x3 + 1)) (lv' := [(3, .int (x3 + 1)), (1, .int r4), (4, .int r4), (0, .ref (G.2.2 + 117)), (2, .int x2)]) C.1 C.2.1 dX7_fault_73 hl (k := 4) rfl rfl (by decide) rfl (fun ls hl => ?_)
          refine lv_goto (tgt := 30) C.1 C.2.1 dX7_fault_76 (by decide) ?_
          exact ih r4 x2 ((x3 + 1)) _ _ _ _ S (lv_sub hl [3, 1, 4, 0] rfl) h
set_option maxHeartbeats 4000000 in
set_option maxRecDepth 100000 in
theorem TX7_fault_20 (C : s_C G p s args m c RX7 cX7_fault) (hml : c.maxLocals = 5) (hcs : cells ≤ (rm_X7_fault).cells ∧ slots ≤ (rm_X7_fault).slots)  {post : Int32 → Sg → Prop} (hR : ∀ (r : Int32) (σ1 : Sg) (H : Heap) (locs : List Loc) (pc : Nat) (ls : Array Slot), decode cX7_fault pc = .ok (.ireturn, 1) → post r σ1 → s_St G σ1 H0 H locs → W p l e rm_X7_fault s m args below meth c H locs cells slots Q (F0 m pc ls [.int r])) : ∀ (n : Nat) (x1 : Int32) (x2 : Int32), ∀ {σ : Sg} {H : Heap} {locs : List Loc} {ls : Array Slot}, s_St G σ H0 H locs → lv_has ls 5 [(0, .ref (G.2.2 + 117)), (1, .int x1), (2, .int x2)] → BX7_fault_20 post n x1 x2 σ → W p l e rm_X7_fault s m args below meth c H locs cells slots Q (F0 m 20 ls []) := by
  intro n
  induction n with
  | zero =>
    intro x1 x2  σ H locs ls S hl h
    exact absurd h (fun h => h)
  | succ n ih0 =>
    have ih : ∀ (x1 : Int32) (x2 : Int32), ∀ (σ : Sg) (H : Heap) (locs : List Loc) (ls : Array Slot), s_St G σ H0 H locs → lv_has ls 5 [(0, .ref (G.2.2 + 117)), (1, .int x1), (2, .int x2)] → BX7_fault_20 post n x1 x2 σ → W p l e rm_X7_fault s m args below meth c H locs cells slots Q (F0 m 20 ls []) := fun x1 x2  _ _ _ _ => ih0 x1 x2 
    intro x1 x2  σ H locs ls S hl h
    refine lv_iload_n C.1 C.2.1 dX7_fault_20 rfl (lv_at hl 2 rfl) ?_
    refine lv_aload_n C.1 C.2.1 dX7_fault_21 rfl (lv_at hl 0 rfl) ?_
    refine g_X7_6 C fl_X7_64 kd_117 S dX7_fault_22 ?_
    refine lv_icmp_gt (tgt := 85) C.1 C.2.1 dX7_fault_25 (by decide) (fun c6 => ?_) (fun c6 => ?_)
    · replace h := h.1 c6
      refine lv_iload_n C.1 C.2.1 dX7_fault_85 rfl (lv_at hl 1 rfl) ?_
      exact hR _ _ _ _ _ _ dX7_fault_86 h S
    · replace h := h.2 c6
      refine lv_iconst (v := (0 : Int32)) C.1 C.2.1 dX7_fault_28 (by decide) ?_
      refine lv_istore_n (lv' := [(3, .int (0 : Int32)), (0, .ref (G.2.2 + 117)), (1, .int x1), (2, .int x2)]) C.1 C.2.1 dX7_fault_29 rfl hl (by decide) rfl (fun ls hl => ?_)
      obtain ⟨nf, h⟩ := h
      exact TX7_fault_30 C hml hcs hR ih nf x1 x2 ((0 : Int32)) S (lv_sub hl [1, 2, 3, 0] rfl) h
theorem kM_X7_fault : s_M yX7_fault cX7_fault 5 (some .int) 0 := ⟨co_X7_fault, in_X7, by decide, by decide, by decide +kernel⟩
set_option maxHeartbeats 4000000 in
set_option maxRecDepth 100000 in
theorem c_X7_fault (l : Launch) (G : s_G)  (σ : Sg) (post : Int32 → Sg → Prop) (h : wpX7_fault σ post) : Met l yX7_fault (wsU yX7_fault cX7_fault 5 (some .int)) rm_X7_fault (va_Pc [.ref (G.2.2 + 117)] (s_Pre G σ)) (va_Qi post (s_B G) (s_A G.2.2)) 0 0 (s_A G.2.2) := by
  refine Met.ofW (cc := cX7_fault) (maxL := 5) (ret := (some .int)) (by decide) rfl ?_
  intro p e s m args below meth c s₁ B hml hv
  obtain ⟨rfl, hP, hrok, hK, hN⟩ := hv
  have C : s_C G p s (([.ref (G.2.2 + 117)] : List Value).toArray) m c RX7 cX7_fault := ⟨B.exec, B.bytes, findClass_of_methodNamed B.named, fun w hw => atoms_spec (ws := wsU yX7_fault cX7_fault 5 (some .int)) B.pre w (List.mem_cons_of_mem _ hw), hK, hN⟩
  have hr := B.returns
  have hlocks := B.notSynchronized
  have S : s_St G σ s.heap s.heap [] := ⟨hP, va_S.rf, hrok⟩
  have hcs : 0 ≤ (rm_X7_fault).cells ∧ 0 ≤ (rm_X7_fault).slots := ⟨Nat.le_refl 0, Nat.le_refl 0⟩
  have hR : ∀ (r : Int32) (σ1 : Sg) (H : Heap) (locs : List Loc) (pc : Nat) (ls : Array Slot), decode cX7_fault pc = .ok (.ireturn, 1) → post r σ1 → s_St G σ1 s.heap H locs → W p l e rm_X7_fault s m ([.ref (G.2.2 + 117)] : List Value).toArray below meth c H locs 0 0 (MQ below (va_Qi post (s_B G) (s_A G.2.2)) ([.ref (G.2.2 + 117)] : List Value).toArray s 0 0 (s_A G.2.2)) (F0 m pc ls [.int r]) := fun _ _ _ _ _ _ hd hp S => ret_i C hr hlocks hd hp S
  have hl := lv_entry ([.ref (G.2.2 + 117)]) (n := 5) (Nat.le_of_ble_eq_true rfl)
  rw [lg_entry_eq]
  generalize (lg_sl ([.ref (G.2.2 + 117)]) ++ List.replicate (5 - (lg_sl ([.ref (G.2.2 + 117)])).length) Slot.unset).toArray = ls at hl ⊢
  have hl : lv_has ls 5 [(0, .ref (G.2.2 + 117))] := hl
  unfold wpX7_fault at h
  refine lv_aload_n C.1 C.2.1 dX7_fault_0 rfl (lv_at hl 0 rfl) ?_
  refine k_v (r_V (As := []) (rest := []) C hml (c_X7_layWays l G σ _ h) kM_X7_layWays im_X7_layWays se_X7_layWays ml_X7_156 ⟨rfl, rfl⟩ ⟨Nat.le_of_ble_eq_true rfl, Nat.le_of_ble_eq_true rfl⟩ hcs S kd_117 (by decide) (T := TX7) (N := 17) rfl rfl hl.1 rfl (Nat.le_of_ble_eq_true rfl) dX7_fault_1) S (fun σ7 H locs h S => ?_)
  refine lv_aload_n C.1 C.2.1 dX7_fault_4 rfl (lv_at hl 0 rfl) ?_
  refine g_X7_9 C fl_X7_30 kd_117 S fn_117_9 dX7_fault_5 ?_
  refine lv_iconst (v := (0 : Int32)) C.1 C.2.1 dX7_fault_8 (by decide) ?_
  refine a_ild C kd_124 S ln_124 h.1 dX7_fault_9 ?_
  replace h := h.2
  refine lv_if_le (tgt := 16) C.1 C.2.1 dX7_fault_10 (by decide) (fun c8 => ?_) (fun c8 => ?_)
  · replace h := h.1 c8
    refine lv_iconst (v := (0 : Int32)) C.1 C.2.1 dX7_fault_16 (by decide) ?_
    refine lv_istore_n (lv' := [(1, .int (0 : Int32)), (0, .ref (G.2.2 + 117))]) C.1 C.2.1 dX7_fault_17 rfl hl (by decide) rfl (fun ls hl => ?_)
    refine lv_iconst (v := (0 : Int32)) C.1 C.2.1 dX7_fault_18 (by decide) ?_
    refine lv_istore_n (lv' := [(2, .int (0 : Int32)), (1, .int (0 : Int32)), (0, .ref (G.2.2 + 117))]) C.1 C.2.1 dX7_fault_19 rfl hl (by decide) rfl (fun ls hl => ?_)
    obtain ⟨nf, h⟩ := h
    exact TX7_fault_20 C hml hcs hR nf ((0 : Int32)) ((0 : Int32)) S (lv_sub hl [2, 1, 0] rfl) h
  · replace h := h.2 c8
    refine lv_bipush (v := (-9 : Int32)) C.1 C.2.1 dX7_fault_13 (by decide) ?_
    exact hR _ _ _ _ _ _ dX7_fault_15 h S
/-! X7_isMember -/
abbrev rm_X7_isMember : Room := { frames := 1, cells := 0, slots := 0, locals := 22 }
def wpX7_isMember (x1 : Int32) (σ : Sg) (post : Int32 → Sg → Prop) : Prop := (vp_in ((0 : Int32)) 50 ∧ wpX7_isIn x1 ((0 : Int32)) (((σ.1 118 ((0 : Int32)).toNatClampNeg) - (1 : Int32))) σ (fun r2 σ1 => (narrow .boolean (.int r2) = .int r2 ∧ post r2 σ1)))
theorem kM_X7_isMember : s_M yX7_isMember cX7_isMember 2 (some .boolean) 1 := ⟨co_X7_isMember, in_X7, by decide, by decide, by decide +kernel⟩
set_option maxHeartbeats 4000000 in
set_option maxRecDepth 100000 in
theorem c_X7_isMember (l : Launch) (G : s_G) (x1 : Int32) (σ : Sg) (post : Int32 → Sg → Prop) (h : wpX7_isMember x1 σ post) : Met l yX7_isMember (wsU yX7_isMember cX7_isMember 2 (some .boolean)) rm_X7_isMember (va_Pc [.ref (G.2.2 + 117), .int x1] (s_Pre G σ)) (va_Qi post (s_B G) (s_A G.2.2)) 0 0 (s_A G.2.2) := by
  refine Met.ofW (cc := cX7_isMember) (maxL := 2) (ret := (some .boolean)) (by decide) rfl ?_
  intro p e s m args below meth c s₁ B hml hv
  obtain ⟨rfl, hP, hrok, hK, hN⟩ := hv
  have C : s_C G p s (([.ref (G.2.2 + 117), .int x1] : List Value).toArray) m c RX7 cX7_isMember := ⟨B.exec, B.bytes, findClass_of_methodNamed B.named, fun w hw => atoms_spec (ws := wsU yX7_isMember cX7_isMember 2 (some .boolean)) B.pre w (List.mem_cons_of_mem _ hw), hK, hN⟩
  have hr := B.returns
  have hlocks := B.notSynchronized
  have S : s_St G σ s.heap s.heap [] := ⟨hP, va_S.rf, hrok⟩
  have hcs : 0 ≤ (rm_X7_isMember).cells ∧ 0 ≤ (rm_X7_isMember).slots := ⟨Nat.le_refl 0, Nat.le_refl 0⟩
  have hR : ∀ (r : Int32) (σ1 : Sg) (H : Heap) (locs : List Loc) (pc : Nat) (ls : Array Slot), decode cX7_isMember pc = .ok (.ireturn, 1) → narrow .boolean (.int r) = .int r → post r σ1 → s_St G σ1 s.heap H locs → W p l e rm_X7_isMember s m ([.ref (G.2.2 + 117), .int x1] : List Value).toArray below meth c H locs 0 0 (MQ below (va_Qi post (s_B G) (s_A G.2.2)) ([.ref (G.2.2 + 117), .int x1] : List Value).toArray s 0 0 (s_A G.2.2)) (F0 m pc ls [.int r]) := fun _ _ _ _ _ _ hd hn hp S => ret_z C hr hlocks hd hn hp S
  have hl := lv_entry ([.ref (G.2.2 + 117), .int x1]) (n := 2) (Nat.le_of_ble_eq_true rfl)
  rw [lg_entry_eq]
  generalize (lg_sl ([.ref (G.2.2 + 117), .int x1]) ++ List.replicate (2 - (lg_sl ([.ref (G.2.2 + 117), .int x1])).length) Slot.unset).toArray = ls at hl ⊢
  have hl : lv_has ls 2 [(0, .ref (G.2.2 + 117)), (1, .int x1)] := hl
  unfold wpX7_isMember at h
  refine lv_iload_n C.1 C.2.1 dX7_isMember_0 rfl (lv_at hl 1 rfl) ?_
  refine lv_iconst (v := (0 : Int32)) C.1 C.2.1 dX7_isMember_1 (by decide) ?_
  refine lv_aload_n C.1 C.2.1 dX7_isMember_2 rfl (lv_at hl 0 rfl) ?_
  refine g_X7_0 C fl_X7_7 kd_117 S fn_117_0 dX7_isMember_3 ?_
  refine lv_iconst (v := (0 : Int32)) C.1 C.2.1 dX7_isMember_6 (by decide) ?_
  refine a_ild C kd_118 S ln_118 h.1 dX7_isMember_7 ?_
  replace h := h.2
  refine lv_iconst (v := (1 : Int32)) C.1 C.2.1 dX7_isMember_8 (by decide) ?_
  refine lv_isub C.1 C.2.1 dX7_isMember_9 ?_
  refine k_i (r_S (As := [.int x1, .int (0 : Int32), .int ((σ.1 118 ((0 : Int32)).toNatClampNeg) - (1 : Int32))]) (rest := []) C hml (c_X7_isIn l G x1 ((0 : Int32)) (((σ.1 118 ((0 : Int32)).toNatClampNeg) - (1 : Int32))) σ _ h) kM_X7_isIn st_X7_isIn ml_X7_60 ⟨rfl, rfl⟩ ⟨Nat.le_of_ble_eq_true rfl, Nat.le_of_ble_eq_true rfl⟩ hcs S rfl hl.1 rfl (Nat.le_of_ble_eq_true rfl) dX7_isMember_10) S (fun r2 σ1 H locs h S => ?_)
  exact hR _ _ _ _ _ _ dX7_isMember_13 h.1 h.2 S
/-! X7_isState -/
abbrev rm_X7_isState : Room := { frames := 1, cells := 0, slots := 0, locals := 21 }
def BX7_isState_2 (x1 : Int32) (post : Int32 → Sg → Prop) : Nat → Int32 → Sg → Prop
  | 0, _, _ => False
  | n + 1, x2, σ => ((((6 : Int32) ≤ x2) → post (1 : Int32) σ) ∧ ((¬ (6 : Int32) ≤ x2) → wpX7_countIn x1 x2 σ (fun r3 σ2 => (vp_in ((0 : Int32)) 50 ∧ ((((σ2.1 118 ((0 : Int32)).toNatClampNeg) ≤ x2) → (((r3 ≤ (0 : Int32)) → BX7_isState_2 x1 post n ((x2 + 1)) σ2) ∧ ((¬ r3 ≤ (0 : Int32)) → post (0 : Int32) σ2))) ∧ ((¬ (σ2.1 118 ((0 : Int32)).toNatClampNeg) ≤ x2) → (vp_in (((32 : Int32) + x2)) 50 ∧ (((r3 ≤ (σ2.1 118 (((32 : Int32) + x2)).toNatClampNeg)) → BX7_isState_2 x1 post n ((x2 + 1)) σ2) ∧ ((¬ r3 ≤ (σ2.1 118 (((32 : Int32) + x2)).toNatClampNeg)) → post (0 : Int32) σ2)))))))))
def wpX7_isState (x1 : Int32) (σ : Sg) (post : Int32 → Sg → Prop) : Prop := ∃ nf, BX7_isState_2 x1 post nf ((0 : Int32)) σ
set_option maxHeartbeats 4000000 in
set_option maxRecDepth 100000 in
theorem TX7_isState_2 (C : s_C G p s args m c RX7 cX7_isState) (hml : c.maxLocals = 3) (hcs : cells ≤ (rm_X7_isState).cells ∧ slots ≤ (rm_X7_isState).slots) {x1 : Int32} {post : Int32 → Sg → Prop} (hR : ∀ (r : Int32) (σ1 : Sg) (H : Heap) (locs : List Loc) (pc : Nat) (ls : Array Slot), decode cX7_isState pc = .ok (.ireturn, 1) → narrow .boolean (.int r) = .int r → post r σ1 → s_St G σ1 H0 H locs → W p l e rm_X7_isState s m args below meth c H locs cells slots Q (F0 m pc ls [.int r])) : ∀ (n : Nat) (x2 : Int32), ∀ {σ : Sg} {H : Heap} {locs : List Loc} {ls : Array Slot}, s_St G σ H0 H locs → lv_has ls 3 [(0, .ref (G.2.2 + 117)), (1, .int x1), (2, .int x2)] → BX7_isState_2 x1 post n x2 σ → W p l e rm_X7_isState s m args below meth c H locs cells slots Q (F0 m 2 ls []) := by
  intro n
  induction n with
  | zero =>
    intro x2  σ H locs ls S hl h
    exact absurd h (fun h => h)
  | succ n ih0 =>
    have ih : ∀ (x2 : Int32), ∀ (σ : Sg) (H : Heap) (locs : List Loc) (ls : Array Slot), s_St G σ H0 H locs → lv_has ls 3 [(0, .ref (G.2.2 + 117)), (1, .int x1), (2, .int x2)] → BX7_isState_2 x1 post n x2 σ → W p l e rm_X7_isState s m args below meth c H locs cells slots Q (F0 m 2 ls []) := fun x2  _ _ _ _ => ih0 x2 
    intro x2  σ H locs ls S hl h
    refine lv_iload_n C.1 C.2.1 dX7_isState_2 rfl (lv_at hl 2 rfl) ?_
    refine lv_bipush (v := (6 : Int32)) C.1 C.2.1 dX7_isState_3 (by decide) ?_
    refine lv_icmp_ge (tgt := 47) C.1 C.2.1 dX7_isState_5 (by decide) (fun c1 => ?_) (fun c1 => ?_)
    · replace h := h.1 c1
      refine lv_iconst (v := (1 : Int32)) C.1 C.2.1 dX7_isState_47 (by decide) ?_
      exact hR _ _ _ _ _ _ dX7_isState_48 rfl h S
    · replace h := h.2 c1
      refine lv_iload_n C.1 C.2.1 dX7_isState_8 rfl (lv_at hl 1 rfl) ?_
      refine lv_iload_n C.1 C.2.1 dX7_isState_9 rfl (lv_at hl 2 rfl) ?_
      refine k_i (r_S (As := [.int x1, .int x2]) (rest := []) C hml (c_X7_countIn l G x1 x2 σ _ h) kM_X7_countIn st_X7_countIn ml_X7_125 ⟨rfl, rfl⟩ ⟨Nat.le_of_ble_eq_true rfl, Nat.le_of_ble_eq_true rfl⟩ hcs S rfl hl.1 rfl (Nat.le_of_ble_eq_true rfl) dX7_isState_10) S (fun r3 σ2 H locs h S => ?_)
      refine lv_iload_n C.1 C.2.1 dX7_isState_13 rfl (lv_at hl 2 rfl) ?_
      refine lv_aload_n C.1 C.2.1 dX7_isState_14 rfl (lv_at hl 0 rfl) ?_
      refine g_X7_0 C fl_X7_7 kd_117 S fn_117_0 dX7_isState_15 ?_
      refine lv_iconst (v := (0 : Int32)) C.1 C.2.1 dX7_isState_18 (by decide) ?_
      refine a_ild C kd_118 S ln_118 h.1 dX7_isState_19 ?_
      replace h := h.2
      refine lv_icmp_ge (tgt := 35) C.1 C.2.1 dX7_isState_20 (by decide) (fun c4 => ?_) (fun c4 => ?_)
      · replace h := h.1 c4
        refine lv_iconst (v := (0 : Int32)) C.1 C.2.1 dX7_isState_35 (by decide) ?_
        refine lv_icmp_le (tgt := 41) C.1 C.2.1 dX7_isState_36 (by decide) (fun c5 => ?_) (fun c5 => ?_)
        · replace h := h.1 c5
          refine lv_iinc (v := (x2 + 1)) (lv' := [(2, .int (x2 + 1)), (0, .ref (G.2.2 + 117)), (1, .int x1)]) C.1 C.2.1 dX7_isState_41 hl (k := 2) rfl rfl (by decide) rfl (fun ls hl => ?_)
          refine lv_goto (tgt := 2) C.1 C.2.1 dX7_isState_44 (by decide) ?_
          exact ih ((x2 + 1)) _ _ _ _ S (lv_sub hl [1, 2, 0] rfl) h
        · replace h := h.2 c5
          refine lv_iconst (v := (0 : Int32)) C.1 C.2.1 dX7_isState_39 (by decide) ?_
          exact hR _ _ _ _ _ _ dX7_isState_40 rfl h S
      · replace h := h.2 c4
        refine lv_aload_n C.1 C.2.1 dX7_isState_23 rfl (lv_at hl 0 rfl) ?_
        refine g_X7_0 C fl_X7_7 kd_117 S fn_117_0 dX7_isState_24 ?_
        refine lv_bipush (v := (32 : Int32)) C.1 C.2.1 dX7_isState_27 (by decide) ?_
        refine lv_iload_n C.1 C.2.1 dX7_isState_29 rfl (lv_at hl 2 rfl) ?_
        refine lv_iadd C.1 C.2.1 dX7_isState_30 ?_
        refine a_ild C kd_118 S ln_118 h.1 dX7_isState_31 ?_
        replace h := h.2
        refine lv_goto (tgt := 36) C.1 C.2.1 dX7_isState_32 (by decide) ?_
        refine lv_icmp_le (tgt := 41) C.1 C.2.1 dX7_isState_36 (by decide) (fun c6 => ?_) (fun c6 => ?_)
        · replace h := h.1 c6
          refine lv_iinc (v := (x2 + 1)) (lv' := [(2, .int (x2 + 1)), (0, .ref (G.2.2 + 117)), (1, .int x1)]) C.1 C.2.1 dX7_isState_41 hl (k := 2) rfl rfl (by decide) rfl (fun ls hl => ?_)
          refine lv_goto (tgt := 2) C.1 C.2.1 dX7_isState_44 (by decide) ?_
          exact ih ((x2 + 1)) _ _ _ _ S (lv_sub hl [1, 2, 0] rfl) h
        · replace h := h.2 c6
          refine lv_iconst (v := (0 : Int32)) C.1 C.2.1 dX7_isState_39 (by decide) ?_
          exact hR _ _ _ _ _ _ dX7_isState_40 rfl h S
theorem kM_X7_isState : s_M yX7_isState cX7_isState 3 (some .boolean) 1 := ⟨co_X7_isState, in_X7, by decide, by decide, by decide +kernel⟩
set_option maxHeartbeats 4000000 in
set_option maxRecDepth 100000 in
theorem c_X7_isState (l : Launch) (G : s_G) (x1 : Int32) (σ : Sg) (post : Int32 → Sg → Prop) (h : wpX7_isState x1 σ post) : Met l yX7_isState (wsU yX7_isState cX7_isState 3 (some .boolean)) rm_X7_isState (va_Pc [.ref (G.2.2 + 117), .int x1] (s_Pre G σ)) (va_Qi post (s_B G) (s_A G.2.2)) 0 0 (s_A G.2.2) := by
  refine Met.ofW (cc := cX7_isState) (maxL := 3) (ret := (some .boolean)) (by decide) rfl ?_
  intro p e s m args below meth c s₁ B hml hv
  obtain ⟨rfl, hP, hrok, hK, hN⟩ := hv
  have C : s_C G p s (([.ref (G.2.2 + 117), .int x1] : List Value).toArray) m c RX7 cX7_isState := ⟨B.exec, B.bytes, findClass_of_methodNamed B.named, fun w hw => atoms_spec (ws := wsU yX7_isState cX7_isState 3 (some .boolean)) B.pre w (List.mem_cons_of_mem _ hw), hK, hN⟩
  have hr := B.returns
  have hlocks := B.notSynchronized
  have S : s_St G σ s.heap s.heap [] := ⟨hP, va_S.rf, hrok⟩
  have hcs : 0 ≤ (rm_X7_isState).cells ∧ 0 ≤ (rm_X7_isState).slots := ⟨Nat.le_refl 0, Nat.le_refl 0⟩
  have hR : ∀ (r : Int32) (σ1 : Sg) (H : Heap) (locs : List Loc) (pc : Nat) (ls : Array Slot), decode cX7_isState pc = .ok (.ireturn, 1) → narrow .boolean (.int r) = .int r → post r σ1 → s_St G σ1 s.heap H locs → W p l e rm_X7_isState s m ([.ref (G.2.2 + 117), .int x1] : List Value).toArray below meth c H locs 0 0 (MQ below (va_Qi post (s_B G) (s_A G.2.2)) ([.ref (G.2.2 + 117), .int x1] : List Value).toArray s 0 0 (s_A G.2.2)) (F0 m pc ls [.int r]) := fun _ _ _ _ _ _ hd hn hp S => ret_z C hr hlocks hd hn hp S
  have hl := lv_entry ([.ref (G.2.2 + 117), .int x1]) (n := 3) (Nat.le_of_ble_eq_true rfl)
  rw [lg_entry_eq]
  generalize (lg_sl ([.ref (G.2.2 + 117), .int x1]) ++ List.replicate (3 - (lg_sl ([.ref (G.2.2 + 117), .int x1])).length) Slot.unset).toArray = ls at hl ⊢
  have hl : lv_has ls 3 [(0, .ref (G.2.2 + 117)), (1, .int x1)] := hl
  unfold wpX7_isState at h
  refine lv_iconst (v := (0 : Int32)) C.1 C.2.1 dX7_isState_0 (by decide) ?_
  refine lv_istore_n (lv' := [(2, .int (0 : Int32)), (0, .ref (G.2.2 + 117)), (1, .int x1)]) C.1 C.2.1 dX7_isState_1 rfl hl (by decide) rfl (fun ls hl => ?_)
  obtain ⟨nf, h⟩ := h
  exact TX7_isState_2 C hml hcs hR nf ((0 : Int32)) S (lv_sub hl [1, 2, 0] rfl) h
/-! X7_keep -/
abbrev rm_X7_keep : Room := { frames := 1, cells := 0, slots := 0, locals := 22 }
def BX7_keep_13 (x1 : Int32) (post : Int32 → Sg → Prop) : Nat → Int32 → Sg → Prop
  | 0, _, _ => False
  | n + 1, x2, σ => ((((50 : Int32) ≤ x2) → (∀ σ2 : Sg, σ2 = setI σ 117 4 (((σ.1 117 4) ||| ((1 : Int32) <<< (x1 &&& 31)))) → (vp_in ((0 : Int32)) 50 ∧ post ((σ2.1 118 ((0 : Int32)).toNatClampNeg)) σ2))) ∧ ((¬ (50 : Int32) ≤ x2) → (vp_in x2 50 ∧ (vp_in ((((50 : Int32) * x1) + x2)) 100 ∧ (∀ σ4 : Sg, σ4 = setI σ 120 ((((50 : Int32) * x1) + x2)).toNatClampNeg ((σ.1 118 (x2).toNatClampNeg)) → BX7_keep_13 x1 post n ((x2 + 1)) σ4)))))
def wpX7_keep (x1 : Int32) (σ : Sg) (post : Int32 → Sg → Prop) : Prop := wpX7_isIn x1 ((0 : Int32)) ((1 : Int32)) σ (fun r7 σ6 => (((¬ r7 = 0) → ∃ nf, BX7_keep_13 x1 post nf ((0 : Int32)) σ6) ∧ ((r7 = 0) → post ((-1 : Int32)) σ6)))
set_option maxHeartbeats 4000000 in
set_option maxRecDepth 100000 in
theorem TX7_keep_13 (C : s_C G p s args m c RX7 cX7_keep) (hml : c.maxLocals = 3) (hcs : cells ≤ (rm_X7_keep).cells ∧ slots ≤ (rm_X7_keep).slots) {x1 : Int32} {post : Int32 → Sg → Prop} (hR : ∀ (r : Int32) (σ1 : Sg) (H : Heap) (locs : List Loc) (pc : Nat) (ls : Array Slot), decode cX7_keep pc = .ok (.ireturn, 1) → post r σ1 → s_St G σ1 H0 H locs → W p l e rm_X7_keep s m args below meth c H locs cells slots Q (F0 m pc ls [.int r])) : ∀ (n : Nat) (x2 : Int32), ∀ {σ : Sg} {H : Heap} {locs : List Loc} {ls : Array Slot}, s_St G σ H0 H locs → lv_has ls 3 [(0, .ref (G.2.2 + 117)), (1, .int x1), (2, .int x2)] → BX7_keep_13 x1 post n x2 σ → W p l e rm_X7_keep s m args below meth c H locs cells slots Q (F0 m 13 ls []) := by
  intro n
  induction n with
  | zero =>
    intro x2  σ H locs ls S hl h
    exact absurd h (fun h => h)
  | succ n ih0 =>
    have ih : ∀ (x2 : Int32), ∀ (σ : Sg) (H : Heap) (locs : List Loc) (ls : Array Slot), s_St G σ H0 H locs → lv_has ls 3 [(0, .ref (G.2.2 + 117)), (1, .int x1), (2, .int x2)] → BX7_keep_13 x1 post n x2 σ → W p l e rm_X7_keep s m args below meth c H locs cells slots Q (F0 m 13 ls []) := fun x2  _ _ _ _ => ih0 x2 
    intro x2  σ H locs ls S hl h
    refine lv_iload_n C.1 C.2.1 dX7_keep_13 rfl (lv_at hl 2 rfl) ?_
    refine lv_bipush (v := (50 : Int32)) C.1 C.2.1 dX7_keep_14 (by decide) ?_
    refine lv_icmp_ge (tgt := 42) C.1 C.2.1 dX7_keep_16 (by decide) (fun c1 => ?_) (fun c1 => ?_)
    · replace h := h.1 c1
      refine lv_aload_n C.1 C.2.1 dX7_keep_42 rfl (lv_at hl 0 rfl) ?_
      refine lv_dup C.1 C.2.1 dX7_keep_43 rfl ?_
      refine g_X7_4 C fl_X7_191 kd_117 S dX7_keep_44 ?_
      refine lv_iconst (v := (1 : Int32)) C.1 C.2.1 dX7_keep_47 (by decide) ?_
      refine lv_iload_n C.1 C.2.1 dX7_keep_48 rfl (lv_at hl 1 rfl) ?_
      refine lv_ishl C.1 C.2.1 dX7_keep_49 ?_
      refine lv_ior C.1 C.2.1 dX7_keep_50 ?_
      refine p_X7_4 C fl_X7_191 kd_117 S dX7_keep_51 (fun σ2 H locs e3 S => ?_)
      replace h := h σ2 e3
      refine lv_aload_n C.1 C.2.1 dX7_keep_54 rfl (lv_at hl 0 rfl) ?_
      refine g_X7_0 C fl_X7_7 kd_117 S fn_117_0 dX7_keep_55 ?_
      refine lv_iconst (v := (0 : Int32)) C.1 C.2.1 dX7_keep_58 (by decide) ?_
      refine a_ild C kd_118 S ln_118 h.1 dX7_keep_59 ?_
      replace h := h.2
      exact hR _ _ _ _ _ _ dX7_keep_60 h S
    · replace h := h.2 c1
      refine lv_aload_n C.1 C.2.1 dX7_keep_19 rfl (lv_at hl 0 rfl) ?_
      refine g_X7_3 C fl_X7_16 kd_117 S fn_117_3 dX7_keep_20 ?_
      refine lv_bipush (v := (50 : Int32)) C.1 C.2.1 dX7_keep_23 (by decide) ?_
      refine lv_iload_n C.1 C.2.1 dX7_keep_25 rfl (lv_at hl 1 rfl) ?_
      refine lv_imul C.1 C.2.1 dX7_keep_26 ?_
      refine lv_iload_n C.1 C.2.1 dX7_keep_27 rfl (lv_at hl 2 rfl) ?_
      refine lv_iadd C.1 C.2.1 dX7_keep_28 ?_
      refine lv_aload_n C.1 C.2.1 dX7_keep_29 rfl (lv_at hl 0 rfl) ?_
      refine g_X7_0 C fl_X7_7 kd_117 S fn_117_0 dX7_keep_30 ?_
      refine lv_iload_n C.1 C.2.1 dX7_keep_33 rfl (lv_at hl 2 rfl) ?_
      refine a_ild C kd_118 S ln_118 h.1 dX7_keep_34 ?_
      replace h := h.2
      refine a_ist C kd_120 S ln_120 h.1 dX7_keep_35 (fun σ4 H locs e5 S => ?_)
      replace h := h.2 σ4 e5
      refine lv_iinc (v := (x2 + 1)) (lv' := [(2, .int (x2 + 1)), (0, .ref (G.2.2 + 117)), (1, .int x1)]) C.1 C.2.1 dX7_keep_36 hl (k := 2) rfl rfl (by decide) rfl (fun ls hl => ?_)
      refine lv_goto (tgt := 13) C.1 C.2.1 dX7_keep_39 (by decide) ?_
      exact ih ((x2 + 1)) _ _ _ _ S (lv_sub hl [1, 2, 0] rfl) h
theorem kM_X7_keep : s_M yX7_keep cX7_keep 3 (some .int) 1 := ⟨co_X7_keep, in_X7, by decide, by decide, by decide +kernel⟩
set_option maxHeartbeats 4000000 in
set_option maxRecDepth 100000 in
theorem c_X7_keep (l : Launch) (G : s_G) (x1 : Int32) (σ : Sg) (post : Int32 → Sg → Prop) (h : wpX7_keep x1 σ post) : Met l yX7_keep (wsU yX7_keep cX7_keep 3 (some .int)) rm_X7_keep (va_Pc [.ref (G.2.2 + 117), .int x1] (s_Pre G σ)) (va_Qi post (s_B G) (s_A G.2.2)) 0 0 (s_A G.2.2) := by
  refine Met.ofW (cc := cX7_keep) (maxL := 3) (ret := (some .int)) (by decide) rfl ?_
  intro p e s m args below meth c s₁ B hml hv
  obtain ⟨rfl, hP, hrok, hK, hN⟩ := hv
  have C : s_C G p s (([.ref (G.2.2 + 117), .int x1] : List Value).toArray) m c RX7 cX7_keep := ⟨B.exec, B.bytes, findClass_of_methodNamed B.named, fun w hw => atoms_spec (ws := wsU yX7_keep cX7_keep 3 (some .int)) B.pre w (List.mem_cons_of_mem _ hw), hK, hN⟩
  have hr := B.returns
  have hlocks := B.notSynchronized
  have S : s_St G σ s.heap s.heap [] := ⟨hP, va_S.rf, hrok⟩
  have hcs : 0 ≤ (rm_X7_keep).cells ∧ 0 ≤ (rm_X7_keep).slots := ⟨Nat.le_refl 0, Nat.le_refl 0⟩
  have hR : ∀ (r : Int32) (σ1 : Sg) (H : Heap) (locs : List Loc) (pc : Nat) (ls : Array Slot), decode cX7_keep pc = .ok (.ireturn, 1) → post r σ1 → s_St G σ1 s.heap H locs → W p l e rm_X7_keep s m ([.ref (G.2.2 + 117), .int x1] : List Value).toArray below meth c H locs 0 0 (MQ below (va_Qi post (s_B G) (s_A G.2.2)) ([.ref (G.2.2 + 117), .int x1] : List Value).toArray s 0 0 (s_A G.2.2)) (F0 m pc ls [.int r]) := fun _ _ _ _ _ _ hd hp S => ret_i C hr hlocks hd hp S
  have hl := lv_entry ([.ref (G.2.2 + 117), .int x1]) (n := 3) (Nat.le_of_ble_eq_true rfl)
  rw [lg_entry_eq]
  generalize (lg_sl ([.ref (G.2.2 + 117), .int x1]) ++ List.replicate (3 - (lg_sl ([.ref (G.2.2 + 117), .int x1])).length) Slot.unset).toArray = ls at hl ⊢
  have hl : lv_has ls 3 [(0, .ref (G.2.2 + 117)), (1, .int x1)] := hl
  unfold wpX7_keep at h
  refine lv_iload_n C.1 C.2.1 dX7_keep_0 rfl (lv_at hl 1 rfl) ?_
  refine lv_iconst (v := (0 : Int32)) C.1 C.2.1 dX7_keep_1 (by decide) ?_
  refine lv_iconst (v := (1 : Int32)) C.1 C.2.1 dX7_keep_2 (by decide) ?_
  refine k_i (r_S (As := [.int x1, .int (0 : Int32), .int (1 : Int32)]) (rest := []) C hml (c_X7_isIn l G x1 ((0 : Int32)) ((1 : Int32)) σ _ h) kM_X7_isIn st_X7_isIn ml_X7_60 ⟨rfl, rfl⟩ ⟨Nat.le_of_ble_eq_true rfl, Nat.le_of_ble_eq_true rfl⟩ hcs S rfl hl.1 rfl (Nat.le_of_ble_eq_true rfl) dX7_keep_3) S (fun r7 σ6 H locs h S => ?_)
  refine lv_if_ne (tgt := 11) C.1 C.2.1 dX7_keep_6 (by decide) (fun c8 => ?_) (fun c8 => ?_)
  · replace h := h.1 c8
    refine lv_iconst (v := (0 : Int32)) C.1 C.2.1 dX7_keep_11 (by decide) ?_
    refine lv_istore_n (lv' := [(2, .int (0 : Int32)), (0, .ref (G.2.2 + 117)), (1, .int x1)]) C.1 C.2.1 dX7_keep_12 rfl hl (by decide) rfl (fun ls hl => ?_)
    obtain ⟨nf, h⟩ := h
    exact TX7_keep_13 C hml hcs hR nf ((0 : Int32)) S (lv_sub hl [1, 2, 0] rfl) h
  · replace h := h.2 c8
    refine lv_iconst (v := (-1 : Int32)) C.1 C.2.1 dX7_keep_9 (by decide) ?_
    exact hR _ _ _ _ _ _ dX7_keep_10 h S
/-! X7_layValue -/
abbrev rm_X7_layValue : Room := { frames := 0, cells := 0, slots := 0, locals := 0 }
def BX7_layValue_92 (x1 : Int32) (x2 : Int32) (x3 : Int32) (post : Int32 → Sg → Prop) (x4 : Int32) (σ : Sg) : Prop := (vp_in x4 200 ∧ (∀ σ1 : Sg, σ1 = setI σ 128 (x4).toNatClampNeg (((48 : Int32) + (x3 - x3 / (10 : Int32) * (10 : Int32)))) → post ((x4 + 1)) σ1))
def BX7_layValue_66 (x1 : Int32) (x2 : Int32) (x3 : Int32) (post : Int32 → Sg → Prop) (x4 : Int32) (σ : Sg) : Prop := (((x3 ≤ (9 : Int32)) → BX7_layValue_92 x1 x2 x3 post x4 σ) ∧ ((¬ x3 ≤ (9 : Int32)) → (vp_in x4 200 ∧ (∀ σ4 : Sg, σ4 = setI σ 128 (x4).toNatClampNeg (((48 : Int32) + ((x3 / (10 : Int32)) - (x3 / (10 : Int32)) / (10 : Int32) * (10 : Int32)))) → BX7_layValue_92 x1 x2 x3 post ((x4 + 1)) σ4))))
def BX7_layValue_30 (x1 : Int32) (x2 : Int32) (x3 : Int32) (post : Int32 → Sg → Prop) (x4 : Int32) (σ : Sg) : Prop := (vp_in (((20 : Int32) + x2)) 50 ∧ (((¬ (σ.1 118 (((20 : Int32) + x2)).toNatClampNeg) = (1 : Int32)) → post x4 σ) ∧ (((σ.1 118 (((20 : Int32) + x2)).toNatClampNeg) = (1 : Int32)) → (((x3 ≤ (99 : Int32)) → BX7_layValue_66 x1 x2 x3 post x4 σ) ∧ ((¬ x3 ≤ (99 : Int32)) → (vp_in x4 200 ∧ (∀ σ8 : Sg, σ8 = setI σ 128 (x4).toNatClampNeg (((48 : Int32) + (x3 / (100 : Int32)))) → BX7_layValue_66 x1 x2 x3 post ((x4 + 1)) σ8)))))))
def wpX7_layValue (x1 : Int32) (x2 : Int32) (x3 : Int32) (σ : Sg) (post : Int32 → Sg → Prop) : Prop := (vp_in (((20 : Int32) + x2)) 50 ∧ (((¬ (σ.1 118 (((20 : Int32) + x2)).toNatClampNeg) = (2 : Int32)) → BX7_layValue_30 x1 x2 x3 post x1 σ) ∧ (((σ.1 118 (((20 : Int32) + x2)).toNatClampNeg) = (2 : Int32)) → (vp_in x1 200 ∧ (∀ σ11 : Sg, σ11 = setI σ 128 (x1).toNatClampNeg (((65 : Int32) + x3)) → BX7_layValue_30 x1 x2 x3 post ((x1 + 1)) σ11)))))
set_option maxHeartbeats 4000000 in
set_option maxRecDepth 100000 in
theorem TX7_layValue_92 (C : s_C G p s args m c RX7 cX7_layValue) (hml : c.maxLocals = 5) (hcs : cells ≤ (rm_X7_layValue).cells ∧ slots ≤ (rm_X7_layValue).slots) {x1 : Int32} {x2 : Int32} {x3 : Int32} {post : Int32 → Sg → Prop} (hR : ∀ (r : Int32) (σ1 : Sg) (H : Heap) (locs : List Loc) (pc : Nat) (ls : Array Slot), decode cX7_layValue pc = .ok (.ireturn, 1) → post r σ1 → s_St G σ1 H0 H locs → W p l e rm_X7_layValue s m args below meth c H locs cells slots Q (F0 m pc ls [.int r])) : ∀ (x4 : Int32), ∀ {σ : Sg} {H : Heap} {locs : List Loc} {ls : Array Slot}, s_St G σ H0 H locs → lv_has ls 5 [(0, .ref (G.2.2 + 117)), (3, .int x3), (4, .int x4)] → BX7_layValue_92 x1 x2 x3 post x4 σ → W p l e rm_X7_layValue s m args below meth c H locs cells slots Q (F0 m 92 ls []) := by
  intro x4  σ H locs ls S hl h
  unfold BX7_layValue_92 at h
  refine lv_aload_n C.1 C.2.1 dX7_layValue_92 rfl (lv_at hl 0 rfl) ?_
  refine g_X7_14 C fl_X7_42 kd_117 S fn_117_14 dX7_layValue_93 ?_
  refine lv_iload C.1 C.2.1 dX7_layValue_96 (lv_at hl 2 rfl) ?_
  refine lv_bipush (v := (48 : Int32)) C.1 C.2.1 dX7_layValue_98 (by decide) ?_
  refine lv_iload_n C.1 C.2.1 dX7_layValue_100 rfl (lv_at hl 1 rfl) ?_
  refine lv_bipush (v := (10 : Int32)) C.1 C.2.1 dX7_layValue_101 (by decide) ?_
  refine lv_irem C.1 C.2.1 dX7_layValue_103 (by decide) ?_
  refine lv_iadd C.1 C.2.1 dX7_layValue_104 ?_
  refine a_ist C kd_128 S ln_128 h.1 dX7_layValue_105 (fun σ1 H locs e2 S => ?_)
  replace h := h.2 σ1 e2
  refine lv_iinc (v := (x4 + 1)) (lv' := [(4, .int (x4 + 1)), (0, .ref (G.2.2 + 117)), (3, .int x3)]) C.1 C.2.1 dX7_layValue_106 hl (k := 2) rfl rfl (by decide) rfl (fun ls hl => ?_)
  refine lv_iload C.1 C.2.1 dX7_layValue_109 (lv_at hl 0 rfl) ?_
  exact hR _ _ _ _ _ _ dX7_layValue_111 h S
set_option maxHeartbeats 4000000 in
set_option maxRecDepth 100000 in
theorem TX7_layValue_66 (C : s_C G p s args m c RX7 cX7_layValue) (hml : c.maxLocals = 5) (hcs : cells ≤ (rm_X7_layValue).cells ∧ slots ≤ (rm_X7_layValue).slots) {x1 : Int32} {x2 : Int32} {x3 : Int32} {post : Int32 → Sg → Prop} (hR : ∀ (r : Int32) (σ1 : Sg) (H : Heap) (locs : List Loc) (pc : Nat) (ls : Array Slot), decode cX7_layValue pc = .ok (.ireturn, 1) → post r σ1 → s_St G σ1 H0 H locs → W p l e rm_X7_layValue s m args below meth c H locs cells slots Q (F0 m pc ls [.int r])) : ∀ (x4 : Int32), ∀ {σ : Sg} {H : Heap} {locs : List Loc} {ls : Array Slot}, s_St G σ H0 H locs → lv_has ls 5 [(0, .ref (G.2.2 + 117)), (3, .int x3), (4, .int x4)] → BX7_layValue_66 x1 x2 x3 post x4 σ → W p l e rm_X7_layValue s m args below meth c H locs cells slots Q (F0 m 66 ls []) := by
  intro x4  σ H locs ls S hl h
  unfold BX7_layValue_66 at h
  refine lv_iload_n C.1 C.2.1 dX7_layValue_66 rfl (lv_at hl 1 rfl) ?_
  refine lv_bipush (v := (9 : Int32)) C.1 C.2.1 dX7_layValue_67 (by decide) ?_
  refine lv_icmp_le (tgt := 92) C.1 C.2.1 dX7_layValue_69 (by decide) (fun c3 => ?_) (fun c3 => ?_)
  · replace h := h.1 c3
    exact TX7_layValue_92 C hml hcs hR x4 S (lv_sub hl [0, 1, 2] rfl) h
  · replace h := h.2 c3
    refine lv_aload_n C.1 C.2.1 dX7_layValue_72 rfl (lv_at hl 0 rfl) ?_
    refine g_X7_14 C fl_X7_42 kd_117 S fn_117_14 dX7_layValue_73 ?_
    refine lv_iload C.1 C.2.1 dX7_layValue_76 (lv_at hl 2 rfl) ?_
    refine lv_bipush (v := (48 : Int32)) C.1 C.2.1 dX7_layValue_78 (by decide) ?_
    refine lv_iload_n C.1 C.2.1 dX7_layValue_80 rfl (lv_at hl 1 rfl) ?_
    refine lv_bipush (v := (10 : Int32)) C.1 C.2.1 dX7_layValue_81 (by decide) ?_
    refine lv_idiv C.1 C.2.1 dX7_layValue_83 (by decide) ?_
    refine lv_bipush (v := (10 : Int32)) C.1 C.2.1 dX7_layValue_84 (by decide) ?_
    refine lv_irem C.1 C.2.1 dX7_layValue_86 (by decide) ?_
    refine lv_iadd C.1 C.2.1 dX7_layValue_87 ?_
    refine a_ist C kd_128 S ln_128 h.1 dX7_layValue_88 (fun σ4 H locs e5 S => ?_)
    replace h := h.2 σ4 e5
    refine lv_iinc (v := (x4 + 1)) (lv' := [(4, .int (x4 + 1)), (0, .ref (G.2.2 + 117)), (3, .int x3)]) C.1 C.2.1 dX7_layValue_89 hl (k := 2) rfl rfl (by decide) rfl (fun ls hl => ?_)
    exact TX7_layValue_92 C hml hcs hR ((x4 + 1)) S (lv_sub hl [1, 2, 0] rfl) h
set_option maxHeartbeats 4000000 in
set_option maxRecDepth 100000 in
theorem TX7_layValue_30 (C : s_C G p s args m c RX7 cX7_layValue) (hml : c.maxLocals = 5) (hcs : cells ≤ (rm_X7_layValue).cells ∧ slots ≤ (rm_X7_layValue).slots) {x1 : Int32} {x2 : Int32} {x3 : Int32} {post : Int32 → Sg → Prop} (hR : ∀ (r : Int32) (σ1 : Sg) (H : Heap) (locs : List Loc) (pc : Nat) (ls : Array Slot), decode cX7_layValue pc = .ok (.ireturn, 1) → post r σ1 → s_St G σ1 H0 H locs → W p l e rm_X7_layValue s m args below meth c H locs cells slots Q (F0 m pc ls [.int r])) : ∀ (x4 : Int32), ∀ {σ : Sg} {H : Heap} {locs : List Loc} {ls : Array Slot}, s_St G σ H0 H locs → lv_has ls 5 [(0, .ref (G.2.2 + 117)), (2, .int x2), (3, .int x3), (4, .int x4)] → BX7_layValue_30 x1 x2 x3 post x4 σ → W p l e rm_X7_layValue s m args below meth c H locs cells slots Q (F0 m 30 ls []) := by
  intro x4  σ H locs ls S hl h
  unfold BX7_layValue_30 at h
  refine lv_aload_n C.1 C.2.1 dX7_layValue_30 rfl (lv_at hl 0 rfl) ?_
  refine g_X7_0 C fl_X7_7 kd_117 S fn_117_0 dX7_layValue_31 ?_
  refine lv_bipush (v := (20 : Int32)) C.1 C.2.1 dX7_layValue_34 (by decide) ?_
  refine lv_iload_n C.1 C.2.1 dX7_layValue_36 rfl (lv_at hl 1 rfl) ?_
  refine lv_iadd C.1 C.2.1 dX7_layValue_37 ?_
  refine a_ild C kd_118 S ln_118 h.1 dX7_layValue_38 ?_
  replace h := h.2
  refine lv_iconst (v := (1 : Int32)) C.1 C.2.1 dX7_layValue_39 (by decide) ?_
  refine lv_icmp_ne (tgt := 109) C.1 C.2.1 dX7_layValue_40 (by decide) (fun c6 => ?_) (fun c6 => ?_)
  · replace h := h.1 c6
    refine lv_iload C.1 C.2.1 dX7_layValue_109 (lv_at hl 3 rfl) ?_
    exact hR _ _ _ _ _ _ dX7_layValue_111 h S
  · replace h := h.2 c6
    refine lv_iload_n C.1 C.2.1 dX7_layValue_43 rfl (lv_at hl 2 rfl) ?_
    refine lv_bipush (v := (99 : Int32)) C.1 C.2.1 dX7_layValue_44 (by decide) ?_
    refine lv_icmp_le (tgt := 66) C.1 C.2.1 dX7_layValue_46 (by decide) (fun c7 => ?_) (fun c7 => ?_)
    · replace h := h.1 c7
      exact TX7_layValue_66 C hml hcs hR x4 S (lv_sub hl [0, 2, 3] rfl) h
    · replace h := h.2 c7
      refine lv_aload_n C.1 C.2.1 dX7_layValue_49 rfl (lv_at hl 0 rfl) ?_
      refine g_X7_14 C fl_X7_42 kd_117 S fn_117_14 dX7_layValue_50 ?_
      refine lv_iload C.1 C.2.1 dX7_layValue_53 (lv_at hl 3 rfl) ?_
      refine lv_bipush (v := (48 : Int32)) C.1 C.2.1 dX7_layValue_55 (by decide) ?_
      refine lv_iload_n C.1 C.2.1 dX7_layValue_57 rfl (lv_at hl 2 rfl) ?_
      refine lv_bipush (v := (100 : Int32)) C.1 C.2.1 dX7_layValue_58 (by decide) ?_
      refine lv_idiv C.1 C.2.1 dX7_layValue_60 (by decide) ?_
      refine lv_iadd C.1 C.2.1 dX7_layValue_61 ?_
      refine a_ist C kd_128 S ln_128 h.1 dX7_layValue_62 (fun σ8 H locs e9 S => ?_)
      replace h := h.2 σ8 e9
      refine lv_iinc (v := (x4 + 1)) (lv' := [(4, .int (x4 + 1)), (0, .ref (G.2.2 + 117)), (2, .int x2), (3, .int x3)]) C.1 C.2.1 dX7_layValue_63 hl (k := 3) rfl rfl (by decide) rfl (fun ls hl => ?_)
      exact TX7_layValue_66 C hml hcs hR ((x4 + 1)) S (lv_sub hl [1, 3, 0] rfl) h
theorem kM_X7_layValue : s_M yX7_layValue cX7_layValue 5 (some .int) 3 := ⟨co_X7_layValue, in_X7, by decide, by decide, by decide +kernel⟩
set_option maxHeartbeats 4000000 in
set_option maxRecDepth 100000 in
theorem c_X7_layValue (l : Launch) (G : s_G) (x1 : Int32) (x2 : Int32) (x3 : Int32) (σ : Sg) (post : Int32 → Sg → Prop) (h : wpX7_layValue x1 x2 x3 σ post) : Met l yX7_layValue (wsU yX7_layValue cX7_layValue 5 (some .int)) rm_X7_layValue (va_Pc [.ref (G.2.2 + 117), .int x1, .int x2, .int x3] (s_Pre G σ)) (va_Qi post (s_B G) (s_A G.2.2)) 0 0 (s_A G.2.2) := by
  refine Met.ofW (cc := cX7_layValue) (maxL := 5) (ret := (some .int)) (by decide) rfl ?_
  intro p e s m args below meth c s₁ B hml hv
  obtain ⟨rfl, hP, hrok, hK, hN⟩ := hv
  have C : s_C G p s (([.ref (G.2.2 + 117), .int x1, .int x2, .int x3] : List Value).toArray) m c RX7 cX7_layValue := ⟨B.exec, B.bytes, findClass_of_methodNamed B.named, fun w hw => atoms_spec (ws := wsU yX7_layValue cX7_layValue 5 (some .int)) B.pre w (List.mem_cons_of_mem _ hw), hK, hN⟩
  have hr := B.returns
  have hlocks := B.notSynchronized
  have S : s_St G σ s.heap s.heap [] := ⟨hP, va_S.rf, hrok⟩
  have hcs : 0 ≤ (rm_X7_layValue).cells ∧ 0 ≤ (rm_X7_layValue).slots := ⟨Nat.le_refl 0, Nat.le_refl 0⟩
  have hR : ∀ (r : Int32) (σ1 : Sg) (H : Heap) (locs : List Loc) (pc : Nat) (ls : Array Slot), decode cX7_layValue pc = .ok (.ireturn, 1) → post r σ1 → s_St G σ1 s.heap H locs → W p l e rm_X7_layValue s m ([.ref (G.2.2 + 117), .int x1, .int x2, .int x3] : List Value).toArray below meth c H locs 0 0 (MQ below (va_Qi post (s_B G) (s_A G.2.2)) ([.ref (G.2.2 + 117), .int x1, .int x2, .int x3] : List Value).toArray s 0 0 (s_A G.2.2)) (F0 m pc ls [.int r]) := fun _ _ _ _ _ _ hd hp S => ret_i C hr hlocks hd hp S
  have hl := lv_entry ([.ref (G.2.2 + 117), .int x1, .int x2, .int x3]) (n := 5) (Nat.le_of_ble_eq_true rfl)
  rw [lg_entry_eq]
  generalize (lg_sl ([.ref (G.2.2 + 117), .int x1, .int x2, .int x3]) ++ List.replicate (5 - (lg_sl ([.ref (G.2.2 + 117), .int x1, .int x2, .int x3])).length) Slot.unset).toArray = ls at hl ⊢
  have hl : lv_has ls 5 [(0, .ref (G.2.2 + 117)), (1, .int x1), (2, .int x2), (3, .int x3)] := hl
  unfold wpX7_layValue at h
  refine lv_iload_n C.1 C.2.1 dX7_layValue_0 rfl (lv_at hl 1 rfl) ?_
  refine lv_istore (lv' := [(4, .int x1), (0, .ref (G.2.2 + 117)), (1, .int x1), (2, .int x2), (3, .int x3)]) C.1 C.2.1 dX7_layValue_1 hl (by decide) rfl (fun ls hl => ?_)
  refine lv_aload_n C.1 C.2.1 dX7_layValue_3 rfl (lv_at hl 1 rfl) ?_
  refine g_X7_0 C fl_X7_7 kd_117 S fn_117_0 dX7_layValue_4 ?_
  refine lv_bipush (v := (20 : Int32)) C.1 C.2.1 dX7_layValue_7 (by decide) ?_
  refine lv_iload_n C.1 C.2.1 dX7_layValue_9 rfl (lv_at hl 3 rfl) ?_
  refine lv_iadd C.1 C.2.1 dX7_layValue_10 ?_
  refine a_ild C kd_118 S ln_118 h.1 dX7_layValue_11 ?_
  replace h := h.2
  refine lv_iconst (v := (2 : Int32)) C.1 C.2.1 dX7_layValue_12 (by decide) ?_
  refine lv_icmp_ne (tgt := 30) C.1 C.2.1 dX7_layValue_13 (by decide) (fun c10 => ?_) (fun c10 => ?_)
  · replace h := h.1 c10
    exact TX7_layValue_30 C hml hcs hR x1 S (lv_sub hl [1, 3, 4, 0] rfl) h
  · replace h := h.2 c10
    refine lv_aload_n C.1 C.2.1 dX7_layValue_16 rfl (lv_at hl 1 rfl) ?_
    refine g_X7_14 C fl_X7_42 kd_117 S fn_117_14 dX7_layValue_17 ?_
    refine lv_iload C.1 C.2.1 dX7_layValue_20 (lv_at hl 0 rfl) ?_
    refine lv_bipush (v := (65 : Int32)) C.1 C.2.1 dX7_layValue_22 (by decide) ?_
    refine lv_iload_n C.1 C.2.1 dX7_layValue_24 rfl (lv_at hl 4 rfl) ?_
    refine lv_iadd C.1 C.2.1 dX7_layValue_25 ?_
    refine a_ist C kd_128 S ln_128 h.1 dX7_layValue_26 (fun σ11 H locs e12 S => ?_)
    replace h := h.2 σ11 e12
    refine lv_iinc (v := (x1 + 1)) (lv' := [(4, .int (x1 + 1)), (0, .ref (G.2.2 + 117)), (1, .int x1), (2, .int x2), (3, .int x3)]) C.1 C.2.1 dX7_layValue_27 hl (k := 0) rfl rfl (by decide) rfl (fun ls hl => ?_)
    exact TX7_layValue_30 C hml hcs hR ((x1 + 1)) S (lv_sub hl [1, 3, 4, 0] rfl) h
/-! X7_layForm -/
abbrev rm_X7_layForm : Room := { frames := 2, cells := 0, slots := 0, locals := 44 }
def BX7_layForm_65 (x1 : Int32) (K17 : Int32 → Int32 → Int32 → Sg → Prop) (post : Int32 → Sg → Prop) : Nat → Int32 → Int32 → Int32 → Int32 → Sg → Prop
  | 0, _, _, _, _, _ => False
  | n + 1, x2, x3, x4, x5, σ => wpX7_wordLength x3 σ (fun r2 σ1 => (((r2 ≤ x5) → (vp_in x4 20 ∧ wpX7_layValue x2 x3 ((σ1.1 127 (x4).toNatClampNeg)) σ1 (fun r5 σ4 => K17 r5 x3 ((x4 + 1)) σ4))) ∧ ((¬ r2 ≤ x5) → wpX7_letter x3 x5 σ1 (fun r7 σ6 => (vp_in x2 200 ∧ (∀ σ8 : Sg, σ8 = setI σ6 128 (x2).toNatClampNeg r7 → BX7_layForm_65 x1 K17 post n ((x2 + 1)) x3 x4 ((x5 + 1)) σ8))))))
def BX7_layForm_17 (x1 : Int32) (K4 : Int32 → Int32 → Sg → Prop) (post : Int32 → Sg → Prop) : Nat → Int32 → Int32 → Int32 → Sg → Prop
  | 0, _, _, _, _ => False
  | n + 1, x2, x3, x4, σ => (((x1 ≤ x4) → K4 x2 ((x3 + 1)) σ) ∧ ((¬ x1 ≤ x4) → (vp_in x4 20 ∧ (((¬ (σ.1 125 (x4).toNatClampNeg) = x3) → BX7_layForm_17 x1 K4 post n x2 x3 ((x4 + 1)) σ) ∧ (((σ.1 125 (x4).toNatClampNeg) = x3) → (((x2 ≤ 0) → ∃ nf, BX7_layForm_65 x1 (BX7_layForm_17 x1 K4 post n) post nf x2 x3 x4 ((0 : Int32)) σ) ∧ ((¬ x2 ≤ 0) → (vp_in ((1 : Int32)) 50 ∧ ((((σ.1 118 ((1 : Int32)).toNatClampNeg) = 0) → ∃ nf, BX7_layForm_65 x1 (BX7_layForm_17 x1 K4 post n) post nf x2 x3 x4 ((0 : Int32)) σ) ∧ ((¬ (σ.1 118 ((1 : Int32)).toNatClampNeg) = 0) → (vp_in ((1 : Int32)) 50 ∧ (vp_in x2 200 ∧ (∀ σ14 : Sg, σ14 = setI σ 128 (x2).toNatClampNeg ((σ.1 118 ((1 : Int32)).toNatClampNeg)) → ∃ nf, BX7_layForm_65 x1 (BX7_layForm_17 x1 K4 post n) post nf ((x2 + 1)) x3 x4 ((0 : Int32)) σ14)))))))))))))
def BX7_layForm_4 (x1 : Int32) (post : Int32 → Sg → Prop) : Nat → Int32 → Int32 → Sg → Prop
  | 0, _, _, _ => False
  | n + 1, x2, x3, σ => (vp_in ((0 : Int32)) 50 ∧ ((((σ.1 118 ((0 : Int32)).toNatClampNeg) ≤ x3) → post x2 σ) ∧ ((¬ (σ.1 118 ((0 : Int32)).toNatClampNeg) ≤ x3) → ∃ nf, BX7_layForm_17 x1 (BX7_layForm_4 x1 post n) post nf x2 x3 ((0 : Int32)) σ)))
def wpX7_layForm (x1 : Int32) (σ : Sg) (post : Int32 → Sg → Prop) : Prop := ∃ nf, BX7_layForm_4 x1 post nf ((0 : Int32)) ((0 : Int32)) σ
set_option maxHeartbeats 4000000 in
set_option maxRecDepth 100000 in
theorem TX7_layForm_65 (C : s_C G p s args m c RX7 cX7_layForm) (hml : c.maxLocals = 6) (hcs : cells ≤ (rm_X7_layForm).cells ∧ slots ≤ (rm_X7_layForm).slots) {x1 : Int32} {K17 : Int32 → Int32 → Int32 → Sg → Prop} {post : Int32 → Sg → Prop} (hR : ∀ (r : Int32) (σ1 : Sg) (H : Heap) (locs : List Loc) (pc : Nat) (ls : Array Slot), decode cX7_layForm pc = .ok (.ireturn, 1) → post r σ1 → s_St G σ1 H0 H locs → W p l e rm_X7_layForm s m args below meth c H locs cells slots Q (F0 m pc ls [.int r])) (hK17 : ∀ (x2 : Int32) (x3 : Int32) (x4 : Int32), ∀ (σ : Sg) (H : Heap) (locs : List Loc) (ls : Array Slot), s_St G σ H0 H locs → lv_has ls 6 [(0, .ref (G.2.2 + 117)), (1, .int x1), (2, .int x2), (3, .int x3), (4, .int x4)] → K17 x2 x3 x4 σ → W p l e rm_X7_layForm s m args below meth c H locs cells slots Q (F0 m 17 ls [])) : ∀ (n : Nat) (x2 : Int32) (x3 : Int32) (x4 : Int32) (x5 : Int32), ∀ {σ : Sg} {H : Heap} {locs : List Loc} {ls : Array Slot}, s_St G σ H0 H locs → lv_has ls 6 [(0, .ref (G.2.2 + 117)), (1, .int x1), (2, .int x2), (3, .int x3), (4, .int x4), (5, .int x5)] → BX7_layForm_65 x1 K17 post n x2 x3 x4 x5 σ → W p l e rm_X7_layForm s m args below meth c H locs cells slots Q (F0 m 65 ls []) := by
  intro n
  induction n with
  | zero =>
    intro x2 x3 x4 x5  σ H locs ls S hl h
    exact absurd h (fun h => h)
  | succ n ih0 =>
    have ih : ∀ (x2 : Int32) (x3 : Int32) (x4 : Int32) (x5 : Int32), ∀ (σ : Sg) (H : Heap) (locs : List Loc) (ls : Array Slot), s_St G σ H0 H locs → lv_has ls 6 [(0, .ref (G.2.2 + 117)), (1, .int x1), (2, .int x2), (3, .int x3), (4, .int x4), (5, .int x5)] → BX7_layForm_65 x1 K17 post n x2 x3 x4 x5 σ → W p l e rm_X7_layForm s m args below meth c H locs cells slots Q (F0 m 65 ls []) := fun x2 x3 x4 x5  _ _ _ _ => ih0 x2 x3 x4 x5 
    intro x2 x3 x4 x5  σ H locs ls S hl h
    refine lv_iload C.1 C.2.1 dX7_layForm_65 (lv_at hl 5 rfl) ?_
    refine lv_aload_n C.1 C.2.1 dX7_layForm_67 rfl (lv_at hl 0 rfl) ?_
    refine lv_iload_n C.1 C.2.1 dX7_layForm_68 rfl (lv_at hl 3 rfl) ?_
    refine k_i (r_V (As := [.int x3]) (rest := [.int x5]) C hml (c_X7_wordLength l G x3 σ _ h) kM_X7_wordLength im_X7_wordLength se_X7_wordLength ml_X7_71 ⟨rfl, rfl⟩ ⟨Nat.le_of_ble_eq_true rfl, Nat.le_of_ble_eq_true rfl⟩ hcs S kd_117 (by decide) (T := TX7) (N := 17) rfl rfl hl.1 rfl (Nat.le_of_ble_eq_true rfl) dX7_layForm_69) S (fun r2 σ1 H locs h S => ?_)
    refine lv_icmp_ge (tgt := 97) C.1 C.2.1 dX7_layForm_72 (by decide) (fun c3 => ?_) (fun c3 => ?_)
    · replace h := h.1 c3
      refine lv_aload_n C.1 C.2.1 dX7_layForm_97 rfl (lv_at hl 0 rfl) ?_
      refine lv_iload_n C.1 C.2.1 dX7_layForm_98 rfl (lv_at hl 2 rfl) ?_
      refine lv_iload_n C.1 C.2.1 dX7_layForm_99 rfl (lv_at hl 3 rfl) ?_
      refine lv_aload_n C.1 C.2.1 dX7_layForm_100 rfl (lv_at hl 0 rfl) ?_
      refine g_X7_13 C fl_X7_39 kd_117 S fn_117_13 dX7_layForm_101 ?_
      refine lv_iload C.1 C.2.1 dX7_layForm_104 (lv_at hl 4 rfl) ?_
      refine a_ild C kd_127 S ln_127 h.1 dX7_layForm_106 ?_
      replace h := h.2
      refine k_i (r_V (As := [.int x2, .int x3, .int (σ1.1 127 (x4).toNatClampNeg)]) (rest := []) C hml (c_X7_layValue l G x2 x3 ((σ1.1 127 (x4).toNatClampNeg)) σ1 _ h) kM_X7_layValue im_X7_layValue se_X7_layValue ml_X7_171 ⟨rfl, rfl⟩ ⟨Nat.le_of_ble_eq_true rfl, Nat.le_of_ble_eq_true rfl⟩ hcs S kd_117 (by decide) (T := TX7) (N := 17) rfl rfl hl.1 rfl (Nat.le_of_ble_eq_true rfl) dX7_layForm_107) S (fun r5 σ4 H locs h S => ?_)
      refine lv_istore_n (lv' := [(2, .int r5), (0, .ref (G.2.2 + 117)), (1, .int x1), (3, .int x3), (4, .int x4), (5, .int x5)]) C.1 C.2.1 dX7_layForm_110 rfl hl (by decide) rfl (fun ls hl => ?_)
      refine lv_iinc (v := (x4 + 1)) (lv' := [(4, .int (x4 + 1)), (2, .int r5), (0, .ref (G.2.2 + 117)), (1, .int x1), (3, .int x3), (5, .int x5)]) C.1 C.2.1 dX7_layForm_111 hl (k := 4) rfl rfl (by decide) rfl (fun ls hl => ?_)
      refine lv_goto (tgt := 17) C.1 C.2.1 dX7_layForm_114 (by decide) ?_
      exact hK17 r5 x3 ((x4 + 1)) _ _ _ _ S (lv_sub hl [2, 3, 1, 4, 0] rfl) h
    · replace h := h.2 c3
      refine lv_aload_n C.1 C.2.1 dX7_layForm_75 rfl (lv_at hl 0 rfl) ?_
      refine g_X7_14 C fl_X7_42 kd_117 S fn_117_14 dX7_layForm_76 ?_
      refine lv_iload_n C.1 C.2.1 dX7_layForm_79 rfl (lv_at hl 2 rfl) ?_
      refine lv_aload_n C.1 C.2.1 dX7_layForm_80 rfl (lv_at hl 0 rfl) ?_
      refine lv_iload_n C.1 C.2.1 dX7_layForm_81 rfl (lv_at hl 3 rfl) ?_
      refine lv_iload C.1 C.2.1 dX7_layForm_82 (lv_at hl 5 rfl) ?_
      refine k_i (r_V (As := [.int x3, .int x5]) (rest := [.int x2, .ref (G.2.2 + 128)]) C hml (c_X7_letter l G x3 x5 σ1 _ h) kM_X7_letter im_X7_letter se_X7_letter ml_X7_67 ⟨rfl, rfl⟩ ⟨Nat.le_of_ble_eq_true rfl, Nat.le_of_ble_eq_true rfl⟩ hcs S kd_117 (by decide) (T := TX7) (N := 17) rfl rfl hl.1 rfl (Nat.le_of_ble_eq_true rfl) dX7_layForm_84) S (fun r7 σ6 H locs h S => ?_)
      refine a_ist C kd_128 S ln_128 h.1 dX7_layForm_87 (fun σ8 H locs e9 S => ?_)
      replace h := h.2 σ8 e9
      refine lv_iinc (v := (x2 + 1)) (lv' := [(2, .int (x2 + 1)), (0, .ref (G.2.2 + 117)), (1, .int x1), (3, .int x3), (4, .int x4), (5, .int x5)]) C.1 C.2.1 dX7_layForm_88 hl (k := 2) rfl rfl (by decide) rfl (fun ls hl => ?_)
      refine lv_iinc (v := (x5 + 1)) (lv' := [(5, .int (x5 + 1)), (2, .int (x2 + 1)), (0, .ref (G.2.2 + 117)), (1, .int x1), (3, .int x3), (4, .int x4)]) C.1 C.2.1 dX7_layForm_91 hl (k := 5) rfl rfl (by decide) rfl (fun ls hl => ?_)
      refine lv_goto (tgt := 65) C.1 C.2.1 dX7_layForm_94 (by decide) ?_
      exact ih ((x2 + 1)) x3 x4 ((x5 + 1)) _ _ _ _ S (lv_sub hl [2, 3, 1, 4, 5, 0] rfl) h
set_option maxHeartbeats 4000000 in
set_option maxRecDepth 100000 in
theorem TX7_layForm_17 (C : s_C G p s args m c RX7 cX7_layForm) (hml : c.maxLocals = 6) (hcs : cells ≤ (rm_X7_layForm).cells ∧ slots ≤ (rm_X7_layForm).slots) {x1 : Int32} {K4 : Int32 → Int32 → Sg → Prop} {post : Int32 → Sg → Prop} (hR : ∀ (r : Int32) (σ1 : Sg) (H : Heap) (locs : List Loc) (pc : Nat) (ls : Array Slot), decode cX7_layForm pc = .ok (.ireturn, 1) → post r σ1 → s_St G σ1 H0 H locs → W p l e rm_X7_layForm s m args below meth c H locs cells slots Q (F0 m pc ls [.int r])) (hK4 : ∀ (x2 : Int32) (x3 : Int32), ∀ (σ : Sg) (H : Heap) (locs : List Loc) (ls : Array Slot), s_St G σ H0 H locs → lv_has ls 6 [(0, .ref (G.2.2 + 117)), (1, .int x1), (2, .int x2), (3, .int x3)] → K4 x2 x3 σ → W p l e rm_X7_layForm s m args below meth c H locs cells slots Q (F0 m 4 ls [])) : ∀ (n : Nat) (x2 : Int32) (x3 : Int32) (x4 : Int32), ∀ {σ : Sg} {H : Heap} {locs : List Loc} {ls : Array Slot}, s_St G σ H0 H locs → lv_has ls 6 [(0, .ref (G.2.2 + 117)), (1, .int x1), (2, .int x2), (3, .int x3), (4, .int x4)] → BX7_layForm_17 x1 K4 post n x2 x3 x4 σ → W p l e rm_X7_layForm s m args below meth c H locs cells slots Q (F0 m 17 ls []) := by
  intro n
  induction n with
  | zero =>
    intro x2 x3 x4  σ H locs ls S hl h
    exact absurd h (fun h => h)
  | succ n ih0 =>
    have ih : ∀ (x2 : Int32) (x3 : Int32) (x4 : Int32), ∀ (σ : Sg) (H : Heap) (locs : List Loc) (ls : Array Slot), s_St G σ H0 H locs → lv_has ls 6 [(0, .ref (G.2.2 + 117)), (1, .int x1), (2, .int x2), (3, .int x3), (4, .int x4)] → BX7_layForm_17 x1 K4 post n x2 x3 x4 σ → W p l e rm_X7_layForm s m args below meth c H locs cells slots Q (F0 m 17 ls []) := fun x2 x3 x4  _ _ _ _ => ih0 x2 x3 x4 
    intro x2 x3 x4  σ H locs ls S hl h
    refine lv_iload C.1 C.2.1 dX7_layForm_17 (lv_at hl 4 rfl) ?_
    refine lv_iload_n C.1 C.2.1 dX7_layForm_19 rfl (lv_at hl 1 rfl) ?_
    refine lv_icmp_ge (tgt := 117) C.1 C.2.1 dX7_layForm_20 (by decide) (fun c10 => ?_) (fun c10 => ?_)
    · replace h := h.1 c10
      refine lv_iinc (v := (x3 + 1)) (lv' := [(3, .int (x3 + 1)), (0, .ref (G.2.2 + 117)), (1, .int x1), (2, .int x2), (4, .int x4)]) C.1 C.2.1 dX7_layForm_117 hl (k := 3) rfl rfl (by decide) rfl (fun ls hl => ?_)
      refine lv_goto (tgt := 4) C.1 C.2.1 dX7_layForm_120 (by decide) ?_
      exact hK4 x2 ((x3 + 1)) _ _ _ _ S (lv_sub hl [1, 2, 3, 0] rfl) h
    · replace h := h.2 c10
      refine lv_aload_n C.1 C.2.1 dX7_layForm_23 rfl (lv_at hl 0 rfl) ?_
      refine g_X7_11 C fl_X7_33 kd_117 S fn_117_11 dX7_layForm_24 ?_
      refine lv_iload C.1 C.2.1 dX7_layForm_27 (lv_at hl 4 rfl) ?_
      refine a_ild C kd_125 S ln_125 h.1 dX7_layForm_29 ?_
      replace h := h.2
      refine lv_iload_n C.1 C.2.1 dX7_layForm_30 rfl (lv_at hl 3 rfl) ?_
      refine lv_icmp_ne (tgt := 111) C.1 C.2.1 dX7_layForm_31 (by decide) (fun c11 => ?_) (fun c11 => ?_)
      · replace h := h.1 c11
        refine lv_iinc (v := (x4 + 1)) (lv' := [(4, .int (x4 + 1)), (0, .ref (G.2.2 + 117)), (1, .int x1), (2, .int x2), (3, .int x3)]) C.1 C.2.1 dX7_layForm_111 hl (k := 4) rfl rfl (by decide) rfl (fun ls hl => ?_)
        refine lv_goto (tgt := 17) C.1 C.2.1 dX7_layForm_114 (by decide) ?_
        exact ih x2 x3 ((x4 + 1)) _ _ _ _ S (lv_sub hl [1, 2, 3, 4, 0] rfl) h
      · replace h := h.2 c11
        refine lv_iload_n C.1 C.2.1 dX7_layForm_34 rfl (lv_at hl 2 rfl) ?_
        refine lv_if_le (tgt := 62) C.1 C.2.1 dX7_layForm_35 (by decide) (fun c12 => ?_) (fun c12 => ?_)
        · replace h := h.1 c12
          refine lv_iconst (v := (0 : Int32)) C.1 C.2.1 dX7_layForm_62 (by decide) ?_
          refine lv_istore (lv' := [(5, .int (0 : Int32)), (0, .ref (G.2.2 + 117)), (1, .int x1), (2, .int x2), (3, .int x3), (4, .int x4)]) C.1 C.2.1 dX7_layForm_63 hl (by decide) rfl (fun ls hl => ?_)
          obtain ⟨nf, h⟩ := h
          exact TX7_layForm_65 C hml hcs hR ih nf x2 x3 x4 ((0 : Int32)) S (lv_sub hl [1, 2, 3, 4, 5, 0] rfl) h
        · replace h := h.2 c12
          refine lv_aload_n C.1 C.2.1 dX7_layForm_38 rfl (lv_at hl 0 rfl) ?_
          refine g_X7_0 C fl_X7_7 kd_117 S fn_117_0 dX7_layForm_39 ?_
          refine lv_iconst (v := (1 : Int32)) C.1 C.2.1 dX7_layForm_42 (by decide) ?_
          refine a_ild C kd_118 S ln_118 h.1 dX7_layForm_43 ?_
          replace h := h.2
          refine lv_if_eq (tgt := 62) C.1 C.2.1 dX7_layForm_44 (by decide) (fun c13 => ?_) (fun c13 => ?_)
          · replace h := h.1 c13
            refine lv_iconst (v := (0 : Int32)) C.1 C.2.1 dX7_layForm_62 (by decide) ?_
            refine lv_istore (lv' := [(5, .int (0 : Int32)), (0, .ref (G.2.2 + 117)), (1, .int x1), (2, .int x2), (3, .int x3), (4, .int x4)]) C.1 C.2.1 dX7_layForm_63 hl (by decide) rfl (fun ls hl => ?_)
            obtain ⟨nf, h⟩ := h
            exact TX7_layForm_65 C hml hcs hR ih nf x2 x3 x4 ((0 : Int32)) S (lv_sub hl [1, 2, 3, 4, 5, 0] rfl) h
          · replace h := h.2 c13
            refine lv_aload_n C.1 C.2.1 dX7_layForm_47 rfl (lv_at hl 0 rfl) ?_
            refine g_X7_14 C fl_X7_42 kd_117 S fn_117_14 dX7_layForm_48 ?_
            refine lv_iload_n C.1 C.2.1 dX7_layForm_51 rfl (lv_at hl 2 rfl) ?_
            refine lv_aload_n C.1 C.2.1 dX7_layForm_52 rfl (lv_at hl 0 rfl) ?_
            refine g_X7_0 C fl_X7_7 kd_117 S fn_117_0 dX7_layForm_53 ?_
            refine lv_iconst (v := (1 : Int32)) C.1 C.2.1 dX7_layForm_56 (by decide) ?_
            refine a_ild C kd_118 S ln_118 h.1 dX7_layForm_57 ?_
            replace h := h.2
            refine a_ist C kd_128 S ln_128 h.1 dX7_layForm_58 (fun σ14 H locs e15 S => ?_)
            replace h := h.2 σ14 e15
            refine lv_iinc (v := (x2 + 1)) (lv' := [(2, .int (x2 + 1)), (0, .ref (G.2.2 + 117)), (1, .int x1), (3, .int x3), (4, .int x4)]) C.1 C.2.1 dX7_layForm_59 hl (k := 2) rfl rfl (by decide) rfl (fun ls hl => ?_)
            refine lv_iconst (v := (0 : Int32)) C.1 C.2.1 dX7_layForm_62 (by decide) ?_
            refine lv_istore (lv' := [(5, .int (0 : Int32)), (2, .int (x2 + 1)), (0, .ref (G.2.2 + 117)), (1, .int x1), (3, .int x3), (4, .int x4)]) C.1 C.2.1 dX7_layForm_63 hl (by decide) rfl (fun ls hl => ?_)
            obtain ⟨nf, h⟩ := h
            exact TX7_layForm_65 C hml hcs hR ih nf ((x2 + 1)) x3 x4 ((0 : Int32)) S (lv_sub hl [2, 3, 1, 4, 5, 0] rfl) h
set_option maxHeartbeats 4000000 in
set_option maxRecDepth 100000 in
theorem TX7_layForm_4 (C : s_C G p s args m c RX7 cX7_layForm) (hml : c.maxLocals = 6) (hcs : cells ≤ (rm_X7_layForm).cells ∧ slots ≤ (rm_X7_layForm).slots) {x1 : Int32} {post : Int32 → Sg → Prop} (hR : ∀ (r : Int32) (σ1 : Sg) (H : Heap) (locs : List Loc) (pc : Nat) (ls : Array Slot), decode cX7_layForm pc = .ok (.ireturn, 1) → post r σ1 → s_St G σ1 H0 H locs → W p l e rm_X7_layForm s m args below meth c H locs cells slots Q (F0 m pc ls [.int r])) : ∀ (n : Nat) (x2 : Int32) (x3 : Int32), ∀ {σ : Sg} {H : Heap} {locs : List Loc} {ls : Array Slot}, s_St G σ H0 H locs → lv_has ls 6 [(0, .ref (G.2.2 + 117)), (1, .int x1), (2, .int x2), (3, .int x3)] → BX7_layForm_4 x1 post n x2 x3 σ → W p l e rm_X7_layForm s m args below meth c H locs cells slots Q (F0 m 4 ls []) := by
  intro n
  induction n with
  | zero =>
    intro x2 x3  σ H locs ls S hl h
    exact absurd h (fun h => h)
  | succ n ih0 =>
    have ih : ∀ (x2 : Int32) (x3 : Int32), ∀ (σ : Sg) (H : Heap) (locs : List Loc) (ls : Array Slot), s_St G σ H0 H locs → lv_has ls 6 [(0, .ref (G.2.2 + 117)), (1, .int x1), (2, .int x2), (3, .int x3)] → BX7_layForm_4 x1 post n x2 x3 σ → W p l e rm_X7_layForm s m args below meth c H locs cells slots Q (F0 m 4 ls []) := fun x2 x3  _ _ _ _ => ih0 x2 x3 
    intro x2 x3  σ H locs ls S hl h
    refine lv_iload_n C.1 C.2.1 dX7_layForm_4 rfl (lv_at hl 3 rfl) ?_
    refine lv_aload_n C.1 C.2.1 dX7_layForm_5 rfl (lv_at hl 0 rfl) ?_
    refine g_X7_0 C fl_X7_7 kd_117 S fn_117_0 dX7_layForm_6 ?_
    refine lv_iconst (v := (0 : Int32)) C.1 C.2.1 dX7_layForm_9 (by decide) ?_
    refine a_ild C kd_118 S ln_118 h.1 dX7_layForm_10 ?_
    replace h := h.2
    refine lv_icmp_ge (tgt := 123) C.1 C.2.1 dX7_layForm_11 (by decide) (fun c16 => ?_) (fun c16 => ?_)
    · replace h := h.1 c16
      refine lv_iload_n C.1 C.2.1 dX7_layForm_123 rfl (lv_at hl 2 rfl) ?_
      exact hR _ _ _ _ _ _ dX7_layForm_124 h S
    · replace h := h.2 c16
      refine lv_iconst (v := (0 : Int32)) C.1 C.2.1 dX7_layForm_14 (by decide) ?_
      refine lv_istore (lv' := [(4, .int (0 : Int32)), (0, .ref (G.2.2 + 117)), (1, .int x1), (2, .int x2), (3, .int x3)]) C.1 C.2.1 dX7_layForm_15 hl (by decide) rfl (fun ls hl => ?_)
      obtain ⟨nf, h⟩ := h
      exact TX7_layForm_17 C hml hcs hR ih nf x2 x3 ((0 : Int32)) S (lv_sub hl [1, 2, 3, 4, 0] rfl) h
theorem kM_X7_layForm : s_M yX7_layForm cX7_layForm 6 (some .int) 1 := ⟨co_X7_layForm, in_X7, by decide, by decide, by decide +kernel⟩
set_option maxHeartbeats 4000000 in
set_option maxRecDepth 100000 in
theorem c_X7_layForm (l : Launch) (G : s_G) (x1 : Int32) (σ : Sg) (post : Int32 → Sg → Prop) (h : wpX7_layForm x1 σ post) : Met l yX7_layForm (wsU yX7_layForm cX7_layForm 6 (some .int)) rm_X7_layForm (va_Pc [.ref (G.2.2 + 117), .int x1] (s_Pre G σ)) (va_Qi post (s_B G) (s_A G.2.2)) 0 0 (s_A G.2.2) := by
  refine Met.ofW (cc := cX7_layForm) (maxL := 6) (ret := (some .int)) (by decide) rfl ?_
  intro p e s m args below meth c s₁ B hml hv
  obtain ⟨rfl, hP, hrok, hK, hN⟩ := hv
  have C : s_C G p s (([.ref (G.2.2 + 117), .int x1] : List Value).toArray) m c RX7 cX7_layForm := ⟨B.exec, B.bytes, findClass_of_methodNamed B.named, fun w hw => atoms_spec (ws := wsU yX7_layForm cX7_layForm 6 (some .int)) B.pre w (List.mem_cons_of_mem _ hw), hK, hN⟩
  have hr := B.returns
  have hlocks := B.notSynchronized
  have S : s_St G σ s.heap s.heap [] := ⟨hP, va_S.rf, hrok⟩
  have hcs : 0 ≤ (rm_X7_layForm).cells ∧ 0 ≤ (rm_X7_layForm).slots := ⟨Nat.le_refl 0, Nat.le_refl 0⟩
  have hR : ∀ (r : Int32) (σ1 : Sg) (H : Heap) (locs : List Loc) (pc : Nat) (ls : Array Slot), decode cX7_layForm pc = .ok (.ireturn, 1) → post r σ1 → s_St G σ1 s.heap H locs → W p l e rm_X7_layForm s m ([.ref (G.2.2 + 117), .int x1] : List Value).toArray below meth c H locs 0 0 (MQ below (va_Qi post (s_B G) (s_A G.2.2)) ([.ref (G.2.2 + 117), .int x1] : List Value).toArray s 0 0 (s_A G.2.2)) (F0 m pc ls [.int r]) := fun _ _ _ _ _ _ hd hp S => ret_i C hr hlocks hd hp S
  have hl := lv_entry ([.ref (G.2.2 + 117), .int x1]) (n := 6) (Nat.le_of_ble_eq_true rfl)
  rw [lg_entry_eq]
  generalize (lg_sl ([.ref (G.2.2 + 117), .int x1]) ++ List.replicate (6 - (lg_sl ([.ref (G.2.2 + 117), .int x1])).length) Slot.unset).toArray = ls at hl ⊢
  have hl : lv_has ls 6 [(0, .ref (G.2.2 + 117)), (1, .int x1)] := hl
  unfold wpX7_layForm at h
  refine lv_iconst (v := (0 : Int32)) C.1 C.2.1 dX7_layForm_0 (by decide) ?_
  refine lv_istore_n (lv' := [(2, .int (0 : Int32)), (0, .ref (G.2.2 + 117)), (1, .int x1)]) C.1 C.2.1 dX7_layForm_1 rfl hl (by decide) rfl (fun ls hl => ?_)
  refine lv_iconst (v := (0 : Int32)) C.1 C.2.1 dX7_layForm_2 (by decide) ?_
  refine lv_istore_n (lv' := [(3, .int (0 : Int32)), (2, .int (0 : Int32)), (0, .ref (G.2.2 + 117)), (1, .int x1)]) C.1 C.2.1 dX7_layForm_3 rfl hl (by decide) rfl (fun ls hl => ?_)
  obtain ⟨nf, h⟩ := h
  exact TX7_layForm_4 C hml hcs hR nf ((0 : Int32)) ((0 : Int32)) S (lv_sub hl [2, 3, 1, 0] rfl) h
end M9
