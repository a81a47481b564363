/-! the constructors -/
abbrev zI (G : s_G) (n : Nat) : va_E := .inl (G.2.1 8, n, .inl (fun _ => 0))
abbrev zJ (G : s_G) (n : Nat) : va_E := .inl (G.2.1 9, n, .inr (.inl (fun _ => 0)))
abbrev zZ (G : s_G) (n : Nat) : va_E := .inl (G.2.1 10, n, .inl (fun _ => 0))
abbrev rM (G : s_G) (n : Nat) (f : Nat → Option Nat) : va_E := .inl (G.2.1 11, n, .inr (.inr (.inr (.inr f))))
abbrev rD (G : s_G) (n : Nat) (f : Nat → Option Nat) : va_E := .inl (G.2.1 12, n, .inr (.inr (.inr (.inr f))))
abbrev zM : va_E := .inr (3, [.int 0, .int 0, .int 0, .int 0, .int 0, .int 0])
abbrev aM (G : s_G) (n : Nat) : va_E := rM G 6 (fun j => some (G.2.2 + (n + 2 + j)))
abbrev oD (G : s_G) (n : Nat) : va_E := .inr (1, [.ref (G.2.2 + n), .ref (G.2.2 + (n + 1)), .int 0, .int 0])
abbrev zD : va_E := .inr (1, [.null, .null, .int 0, .int 0])
def E_decl (G : s_G) (n : Nat) : List va_E := [aM G n, zM, zM, zM, zM, zM, zM, zM]
def E_decls (G : s_G) (n : Nat) : Nat → List va_E
  | 0 => []
  | k + 1 => E_decls G n k ++ (oD G (n + 9 * k + 1) :: E_decl G (n + 9 * k + 1))
theorem d_conv {Wd0 : List va_E} {k0 j : Nat} {e y : va_E} {E E1 X : List va_E} (h : E.set j y ++ X = E1) : (c_w Wd0 k0 e E).set (Wd0.length + j) y ++ X = c_w Wd0 k0 e E1 := by
  rw [c_s2 rfl, c_w, List.append_assoc, h]
theorem arrV_same {cA : ClassId} {n : Nat} {V V' : Nat → Value} (h : ∀ i, i < n → V i = V' i) : arrV cA n V = arrV cA n V' := by
  unfold arrV
  congr 1
  apply Array.ext_getElem?
  intro i
  by_cases hi : i < n
  · simp [hi, h i hi]
  · simp [hi]
theorem d_same {G : s_G} {Wd0 : List va_E} {k0 j n : Nat} {e : va_E} {E E1 : List va_E} {H0 H : Heap} {locs : List Loc} {cA : ClassId} {f f1 : Nat → Option Nat} (S : c_St G (c_w Wd0 k0 e E) H0 H locs) (he : E[j]? = some (.inl (cA, n, .inr (.inr (.inr (.inr f)))))) (hf : ∀ i, i < n → f i = f1 i) (hE : E.set j (.inl (cA, n, .inr (.inr (.inr (.inr f1))))) = E1) : c_St G (c_w Wd0 k0 e E1) H0 H locs := by
  obtain ⟨hP, hS, hz⟩ := S
  have hat := c_at (s0 := G.2.2) (c_l2 (Wd0 := Wd0) (k0 := k0) (e := e) he)
  have h1 : H[G.2.2 + (Wd0.length + j)]? = some (vp_cell cA (n, .inr (.inr (.inr (.inr f))))) := hP _ _ hat
  have hP1 := hP.set (c_D G.2.2 _) hat (e := .inl (cA, n, .inr (.inr (.inr (.inr f1))))) (H1 := H) (by
    show H[_]? = some (vp_cell _ _)
    rw [h1, vp_cell_q, vp_cell_q, arrV_same (V := fun j => va_rf (f j)) (V' := fun j => va_rf (f1 j)) (fun i hi => by rw [hf i hi])]) (fun _ _ => rfl)
  rw [c_set, c_s2 hE] at hP1
  exact ⟨hP1, hS, by rw [hz, c_ln rfl, c_ln rfl, ← hE, List.length_set]⟩

theorem dfs_2 (P : Nat → Prop) (h0 : P 0) (h1 : P 1) : ∀ i, i < 2 → P i := by
  intro i hi
  rcases (show i = 0 ∨ i = 1 by omega) with rfl | rfl
  · exact h0
  · exact h1
theorem dfs_6 (P : Nat → Prop) (h0 : P 0) (h1 : P 1) (h2 : P 2) (h3 : P 3) (h4 : P 4) (h5 : P 5) : ∀ i, i < 6 → P i := by
  intro i hi
  rcases (show i = 0 ∨ i = 1 ∨ i = 2 ∨ i = 3 ∨ i = 4 ∨ i = 5 by omega) with rfl | rfl | rfl | rfl | rfl | rfl
  · exact h0
  · exact h1
  · exact h2
  · exact h3
  · exact h4
  · exact h5
theorem dfs_8 (P : Nat → Prop) (h0 : P 0) (h1 : P 1) (h2 : P 2) (h3 : P 3) (h4 : P 4) (h5 : P 5) (h6 : P 6) (h7 : P 7) : ∀ i, i < 8 → P i := by
  intro i hi
  rcases (show i = 0 ∨ i = 1 ∨ i = 2 ∨ i = 3 ∨ i = 4 ∨ i = 5 ∨ i = 6 ∨ i = 7 by omega) with rfl | rfl | rfl | rfl | rfl | rfl | rfl | rfl
  · exact h0
  · exact h1
  · exact h2
  · exact h3
  · exact h4
  · exact h5
  · exact h6
  · exact h7
abbrev rm_X3_init : Room := { frames := 1, cells := 0, slots := 0, locals := 12 }
theorem kM_X3_init : s_M yX3_init cX3_init 1 none 0 := ⟨co_X3_init, in_X3, by decide, by decide, by decide +kernel⟩
set_option maxHeartbeats 4000000 in
set_option maxRecDepth 100000 in
theorem c_X3_init (l : Launch) (G : s_G) (Wd0 : List va_E) (k0 n : Nat) (hn : Wd0.length = n) (hb0 : Wd0[k0]? = some (.inr (3, [.int 0, .int 0, .int 0, .int 0, .int 0, .int 0]))) : Met l yX3_init (wsU yX3_init cX3_init 1 none) rm_X3_init (va_Pc [.ref (G.2.2 + k0)] (c_Pre G Wd0)) (c_Q G (Wd0)) 0 0 (c_A G.2.2) := by
  refine Met.ofW (cc := cX3_init) (maxL := 1) (ret := none) (by decide) rfl ?_
  intro p e s m args below meth c s₁ B hml hv
  obtain ⟨rfl, hP, hz, hK, hN, hao⟩ := hv
  have C : s_C G p s (([.ref (G.2.2 + k0)] : List Value).toArray) m c RX3 cX3_init := ⟨B.exec, B.bytes, findClass_of_methodNamed B.named, fun w hw => atoms_spec (ws := wsU yX3_init cX3_init 1 none) B.pre w (List.mem_cons_of_mem _ hw), hK, hN⟩
  have hr := B.returns
  have hlocks := B.notSynchronized
  have hin : meth.name = "<init>" := (name_of_methodNamed B.named B.method).1
  have hk0 : k0 < Wd0.length := (List.getElem?_eq_some_iff.mp hb0).1
  have S : c_St G (c_w Wd0 k0 (.inr (3, [.int 0, .int 0, .int 0, .int 0, .int 0, .int 0])) []) s.heap s.heap [] := by
    rw [← c_0 hb0]
    exact ⟨hP, va_S.rf, hz⟩
  have hl := lv_entry ([.ref (G.2.2 + k0)]) (n := 1) (Nat.le_of_ble_eq_true rfl)
  rw [lg_entry_eq]
  generalize (lg_sl ([.ref (G.2.2 + k0)]) ++ List.replicate (1 - (lg_sl ([.ref (G.2.2 + k0)])).length) Slot.unset).toArray = ls at hl ⊢
  have hl : lv_has ls 1 [(0, .ref (G.2.2 + k0))] := hl
  refine lv_aload_n C.1 C.2.1 dX3_init_0 rfl (lv_at hl 0 rfl) ?_
  refine W.objInit C.1 C.2.1 C.2.2.1 (C.2.2.2.1 _ ml_X3_3) (C.2.2.2.1 _ im_obj) (C.2.2.2.1 _ co_obj) rfl (by rw [hml]; exact hl.1) rfl dX3_init_1 (Nat.le_of_ble_eq_true rfl) (Nat.le_of_ble_eq_true rfl) ?_
  refine W.eq (g2 := F0 m 4 ls []) rfl ?_
  subst hn
  have S : c_St G (Wd0) s.heap s.heap [] := by
    rw [← c_0 hb0] at S
    exact S
  refine W.widen (k := 0) (n := 0) (Nat.le_of_ble_eq_true rfl) (Nat.le_of_ble_eq_true rfl) ?_
  exact d_ret C hr hlocks dX3_init_4 S
abbrev rm_X0_init : Room := { frames := 1, cells := 1, slots := 60, locals := 12 }
theorem kM_X0_init : s_M yX0_init cX0_init 1 none 0 := ⟨co_X0_init, in_X0, by decide, by decide, by decide +kernel⟩
set_option maxHeartbeats 4000000 in
set_option maxRecDepth 100000 in
theorem c_X0_init (l : Launch) (G : s_G) (Wd0 : List va_E) (k0 n : Nat) (hn : Wd0.length = n) (hb0 : Wd0[k0]? = some (.inr (0, [.null, .int 0]))) : Met l yX0_init (wsU yX0_init cX0_init 1 none) rm_X0_init (va_Pc [.ref (G.2.2 + k0)] (c_Pre G Wd0)) (c_Q G (Wd0.set k0 (.inr (0, [.ref (G.2.2 + n), .int 0])) ++ [zI G 60])) 1 60 (c_A G.2.2) := by
  refine Met.ofW (cc := cX0_init) (maxL := 1) (ret := none) (by decide) rfl ?_
  intro p e s m args below meth c s₁ B hml hv
  obtain ⟨rfl, hP, hz, hK, hN, hao⟩ := hv
  have C : s_C G p s (([.ref (G.2.2 + k0)] : List Value).toArray) m c RX0 cX0_init := ⟨B.exec, B.bytes, findClass_of_methodNamed B.named, fun w hw => atoms_spec (ws := wsU yX0_init cX0_init 1 none) B.pre w (List.mem_cons_of_mem _ hw), hK, hN⟩
  have hr := B.returns
  have hlocks := B.notSynchronized
  have hin : meth.name = "<init>" := (name_of_methodNamed B.named B.method).1
  have hk0 : k0 < Wd0.length := (List.getElem?_eq_some_iff.mp hb0).1
  have S : c_St G (c_w Wd0 k0 (.inr (0, [.null, .int 0])) []) s.heap s.heap [] := by
    rw [← c_0 hb0]
    exact ⟨hP, va_S.rf, hz⟩
  have hl := lv_entry ([.ref (G.2.2 + k0)]) (n := 1) (Nat.le_of_ble_eq_true rfl)
  rw [lg_entry_eq]
  generalize (lg_sl ([.ref (G.2.2 + k0)]) ++ List.replicate (1 - (lg_sl ([.ref (G.2.2 + k0)])).length) Slot.unset).toArray = ls at hl ⊢
  have hl : lv_has ls 1 [(0, .ref (G.2.2 + k0))] := hl
  refine lv_aload_n C.1 C.2.1 dX0_init_0 rfl (lv_at hl 0 rfl) ?_
  refine W.objInit C.1 C.2.1 C.2.2.1 (C.2.2.2.1 _ ml_X0_3) (C.2.2.2.1 _ im_obj) (C.2.2.2.1 _ co_obj) rfl (by rw [hml]; exact hl.1) rfl dX0_init_1 (Nat.le_of_ble_eq_true rfl) (Nat.le_of_ble_eq_true rfl) ?_
  refine W.eq (g2 := F0 m 4 ls []) rfl ?_
  refine lv_aload_n C.1 C.2.1 dX0_init_4 rfl (lv_at hl 0 rfl) ?_
  refine lv_bipush (v := (60 : Int32)) C.1 C.2.1 dX0_init_5 (by decide) ?_
  refine d_newa (j := 0) (t0 := 0) (atype := .int) (ty := .int) (N' := 60) (a0 := (60, .inl (fun _ => 0))) C ac_I rfl rfl (fun _ => rfl) (by decide) (by decide) (Nat.le_of_ble_eq_true rfl) S rfl (Nat.le_of_ble_eq_true rfl) (Nat.le_of_ble_eq_true rfl) dX0_init_7 (fun H S => ?_)
  have S : c_St G (c_w Wd0 k0 (.inr (0, [.null, .int 0])) [zI G 60]) s.heap H [] := S
  refine W.widen (k := 1) (n := 60) (Nat.le_of_ble_eq_true rfl) (Nat.le_of_ble_eq_true rfl) ?_
  refine d_putF (ci := 0) (C := RX0) (T := TX0) (N := 2) (ty := tyX0 0) (fs1 := [.ref (G.2.2 + (Wd0.length + 0)), .int 0]) (v := .ref (G.2.2 + (Wd0.length + 0))) C inlX0 tyX0_ok nmX0 rfl 0 (by decide) fl_X0_9 rfl hin rfl (by decide +kernel) rfl rfl (Nat.le_of_ble_eq_true rfl) rfl hk0 S dX0_init_9 (fun H locs S => ?_)
  have S : c_St G (c_w Wd0 k0 (.inr (0, [.ref (G.2.2 + (Wd0.length + 0)), .int 0])) [zI G 60]) s.heap H locs := S
  subst hn
  have S : c_St G (Wd0.set k0 (.inr (0, [.ref (G.2.2 + Wd0.length), .int 0])) ++ [zI G 60]) s.heap H locs := S
  refine W.widen (k := 1) (n := 60) (Nat.le_of_ble_eq_true rfl) (Nat.le_of_ble_eq_true rfl) ?_
  exact d_ret C hr hlocks dX0_init_12 S
abbrev rm_X1_init : Room := { frames := 2, cells := 8, slots := 48, locals := 32 }
theorem kM_X1_init : s_M yX1_init cX1_init 2 none 0 := ⟨co_X1_init, in_X1, by decide, by decide, by decide +kernel⟩
set_option maxHeartbeats 4000000 in
set_option maxRecDepth 100000 in
theorem c_X1_init (l : Launch) (G : s_G) (Wd0 : List va_E) (k0 n : Nat) (hn : Wd0.length = n) (hb0 : Wd0[k0]? = some (.inr (1, [.null, .null, .int 0, .int 0]))) : Met l yX1_init (wsU yX1_init cX1_init 2 none) rm_X1_init (va_Pc [.ref (G.2.2 + k0)] (c_Pre G Wd0)) (c_Q G (Wd0.set k0 (oD G n) ++ E_decl G n)) 8 48 (c_A G.2.2) := by
  refine Met.ofW (cc := cX1_init) (maxL := 2) (ret := none) (by decide) rfl ?_
  intro p e s m args below meth c s₁ B hml hv
  obtain ⟨rfl, hP, hz, hK, hN, hao⟩ := hv
  have C : s_C G p s (([.ref (G.2.2 + k0)] : List Value).toArray) m c RX1 cX1_init := ⟨B.exec, B.bytes, findClass_of_methodNamed B.named, fun w hw => atoms_spec (ws := wsU yX1_init cX1_init 2 none) B.pre w (List.mem_cons_of_mem _ hw), hK, hN⟩
  have hr := B.returns
  have hlocks := B.notSynchronized
  have hin : meth.name = "<init>" := (name_of_methodNamed B.named B.method).1
  have hk0 : k0 < Wd0.length := (List.getElem?_eq_some_iff.mp hb0).1
  have S : c_St G (c_w Wd0 k0 (.inr (1, [.null, .null, .int 0, .int 0])) []) s.heap s.heap [] := by
    rw [← c_0 hb0]
    exact ⟨hP, va_S.rf, hz⟩
  have hl := lv_entry ([.ref (G.2.2 + k0)]) (n := 2) (Nat.le_of_ble_eq_true rfl)
  rw [lg_entry_eq]
  generalize (lg_sl ([.ref (G.2.2 + k0)]) ++ List.replicate (2 - (lg_sl ([.ref (G.2.2 + k0)])).length) Slot.unset).toArray = ls at hl ⊢
  have hl : lv_has ls 2 [(0, .ref (G.2.2 + k0))] := hl
  refine lv_aload_n C.1 C.2.1 dX1_init_0 rfl (lv_at hl 0 rfl) ?_
  refine W.objInit C.1 C.2.1 C.2.2.1 (C.2.2.2.1 _ ml_X1_3) (C.2.2.2.1 _ im_obj) (C.2.2.2.1 _ co_obj) rfl (by rw [hml]; exact hl.1) rfl dX1_init_1 (Nat.le_of_ble_eq_true rfl) (Nat.le_of_ble_eq_true rfl) ?_
  refine W.eq (g2 := F0 m 4 ls []) rfl ?_
  refine lv_aload_n C.1 C.2.1 dX1_init_4 rfl (lv_at hl 0 rfl) ?_
  refine lv_bipush (v := (6 : Int32)) C.1 C.2.1 dX1_init_5 (by decide) ?_
  refine d_newq (j := 0) (t0 := 3) (N' := 6) C hao.1 kl_X1_9 rfl (by decide) (by decide) (Nat.le_of_ble_eq_true rfl) S rfl (Nat.le_of_ble_eq_true rfl) (Nat.le_of_ble_eq_true rfl) dX1_init_7 (fun H S => ?_)
  have S : c_St G (c_w Wd0 k0 (.inr (1, [.null, .null, .int 0, .int 0])) [rM G 6 (fun _ => none)]) s.heap H [] := S
  refine W.widen (k := 1) (n := 6) (Nat.le_of_ble_eq_true rfl) (Nat.le_of_ble_eq_true rfl) ?_
  refine d_putF (ci := 1) (C := RX1) (T := TX1) (N := 4) (ty := tyX1 0) (fs1 := [.ref (G.2.2 + (Wd0.length + 0)), .null, .int 0, .int 0]) (v := .ref (G.2.2 + (Wd0.length + 0))) C inlX1 tyX1_ok nmX1 rfl 0 (by decide) fl_X1_11 rfl hin rfl (by decide +kernel) rfl rfl (Nat.le_of_ble_eq_true rfl) rfl hk0 S dX1_init_10 (fun H locs S => ?_)
  have S : c_St G (c_w Wd0 k0 (.inr (1, [.ref (G.2.2 + (Wd0.length + 0)), .null, .int 0, .int 0])) [rM G 6 (fun _ => none)]) s.heap H locs := S
  refine lv_aload_n C.1 C.2.1 dX1_init_13 rfl (lv_at hl 0 rfl) ?_
  refine d_new (j := 1) (ci := 3) (C := RX3) (T := TX3) (N := 6) (fs := [.int 0, .int 0, .int 0, .int 0, .int 0, .int 0]) C inlX3 tyX3_ok kl_X1_9 ia_X3 in_X3 rfl (fun j hj => by rcases (show j = 0 ∨ j = 1 ∨ j = 2 ∨ j = 3 ∨ j = 4 ∨ j = 5 by omega) with rfl | rfl | rfl | rfl | rfl | rfl <;> rfl) S rfl (Nat.le_of_ble_eq_true rfl) (Nat.le_of_ble_eq_true rfl) dX1_init_14 (fun H S => ?_)
  have S : c_St G (c_w Wd0 k0 (.inr (1, [.ref (G.2.2 + (Wd0.length + 0)), .null, .int 0, .int 0])) [rM G 6 (fun _ => none), zM]) s.heap H locs := S
  refine W.widen (k := 2) (n := 12) (Nat.le_of_ble_eq_true rfl) (Nat.le_of_ble_eq_true rfl) ?_
  refine lv_dup C.1 C.2.1 dX1_init_17 rfl ?_
  refine d_call (k := Wd0.length + 1) (rest := [.ref (G.2.2 + (Wd0.length + 1)), .ref (G.2.2 + k0)]) (mc := 0) (ms := 0) C hml hao (c_X3_init l G _ (Wd0.length + 1) (Wd0.length + 2) (c_ln rfl) (c_l2 rfl)) kM_X3_init im_X3_init rfl (Or.inl nm_X1_17) ⟨rfl, rfl⟩ ⟨(Nat.le_of_ble_eq_true rfl), (Nat.le_of_ble_eq_true rfl)⟩ ⟨(Nat.le_of_ble_eq_true rfl), (Nat.le_of_ble_eq_true rfl)⟩ S hl.1 (Nat.le_of_ble_eq_true rfl) dX1_init_18 (fun H locs S => ?_)
  have S : c_St G (c_w Wd0 k0 (.inr (1, [.ref (G.2.2 + (Wd0.length + 0)), .null, .int 0, .int 0])) [rM G 6 (fun _ => none), zM]) s.heap H locs := S
  refine W.widen (k := 2) (n := 12) (Nat.le_of_ble_eq_true rfl) (Nat.le_of_ble_eq_true rfl) ?_
  refine d_putF (ci := 1) (C := RX1) (T := TX1) (N := 4) (ty := tyX1 1) (fs1 := [.ref (G.2.2 + (Wd0.length + 0)), .ref (G.2.2 + (Wd0.length + 1)), .int 0, .int 0]) (v := .ref (G.2.2 + (Wd0.length + 1))) C inlX1 tyX1_ok nmX1 rfl 1 (by decide) fl_X1_18 rfl hin rfl (by decide +kernel) rfl rfl (Nat.le_of_ble_eq_true rfl) rfl hk0 S dX1_init_21 (fun H locs S => ?_)
  have S : c_St G (c_w Wd0 k0 (.inr (1, [.ref (G.2.2 + (Wd0.length + 0)), .ref (G.2.2 + (Wd0.length + 1)), .int 0, .int 0])) [rM G 6 (fun _ => none), zM]) s.heap H locs := S
  refine lv_iconst (v := (0 : Int32)) C.1 C.2.1 dX1_init_24 (by decide) ?_
  refine lv_istore_n (lv' := [(1, .int (0 : Int32)), (0, .ref (G.2.2 + k0))]) C.1 C.2.1 dX1_init_25 rfl hl (by decide) rfl (fun ls hl => ?_)
  refine lv_iload_n C.1 C.2.1 dX1_init_26 rfl (lv_at hl 0 rfl) ?_
  refine lv_aload_n C.1 C.2.1 dX1_init_27 rfl (lv_at hl 1 rfl) ?_
  refine d_get (ci := 1) (C := RX1) (T := TX1) (N := 4) (v := .ref (G.2.2 + (Wd0.length + 0))) C inlX1 rfl 0 (by decide) fl_X1_11 rfl hk0 S dX1_init_28 ?_
  refine d_alen 3 (v := (6 : Int32)) C S rfl rfl rfl dX1_init_31 ?_
  refine lv_icmp_ge (tgt := 54) C.1 C.2.1 dX1_init_32 (by decide) (fun h => absurd h (by decide)) (fun _ => ?_)
  refine lv_aload_n C.1 C.2.1 dX1_init_35 rfl (lv_at hl 1 rfl) ?_
  refine d_get (ci := 1) (C := RX1) (T := TX1) (N := 4) (v := .ref (G.2.2 + (Wd0.length + 0))) C inlX1 rfl 0 (by decide) fl_X1_11 rfl hk0 S dX1_init_36 ?_
  refine lv_iload_n C.1 C.2.1 dX1_init_39 rfl (lv_at hl 0 rfl) ?_
  refine d_new (j := 2) (ci := 3) (C := RX3) (T := TX3) (N := 6) (fs := [.int 0, .int 0, .int 0, .int 0, .int 0, .int 0]) C inlX3 tyX3_ok kl_X1_9 ia_X3 in_X3 rfl (fun j hj => by rcases (show j = 0 ∨ j = 1 ∨ j = 2 ∨ j = 3 ∨ j = 4 ∨ j = 5 by omega) with rfl | rfl | rfl | rfl | rfl | rfl <;> rfl) S rfl (Nat.le_of_ble_eq_true rfl) (Nat.le_of_ble_eq_true rfl) dX1_init_40 (fun H S => ?_)
  have S : c_St G (c_w Wd0 k0 (.inr (1, [.ref (G.2.2 + (Wd0.length + 0)), .ref (G.2.2 + (Wd0.length + 1)), .int 0, .int 0])) [rM G 6 (fun _ => none), zM, zM]) s.heap H locs := S
  refine W.widen (k := 3) (n := 18) (Nat.le_of_ble_eq_true rfl) (Nat.le_of_ble_eq_true rfl) ?_
  refine lv_dup C.1 C.2.1 dX1_init_43 rfl ?_
  refine d_call (k := Wd0.length + 2) (rest := [.ref (G.2.2 + (Wd0.length + 2)), .int (0 : Int32), .ref (G.2.2 + (Wd0.length + 0))]) (mc := 0) (ms := 0) C hml hao (c_X3_init l G _ (Wd0.length + 2) (Wd0.length + 3) (c_ln rfl) (c_l2 rfl)) kM_X3_init im_X3_init rfl (Or.inl nm_X1_17) ⟨rfl, rfl⟩ ⟨(Nat.le_of_ble_eq_true rfl), (Nat.le_of_ble_eq_true rfl)⟩ ⟨(Nat.le_of_ble_eq_true rfl), (Nat.le_of_ble_eq_true rfl)⟩ S hl.1 (Nat.le_of_ble_eq_true rfl) dX1_init_44 (fun H locs S => ?_)
  have S : c_St G (c_w Wd0 k0 (.inr (1, [.ref (G.2.2 + (Wd0.length + 0)), .ref (G.2.2 + (Wd0.length + 1)), .int 0, .int 0])) [rM G 6 (fun _ => none), zM, zM]) s.heap H locs := S
  refine W.widen (k := 3) (n := 18) (Nat.le_of_ble_eq_true rfl) (Nat.le_of_ble_eq_true rfl) ?_
  refine d_aast (ci := 3) (r := (RX3, TX3, 6)) (E1 := [rM G 6 (va_up (fun _ => none) 0 (some (G.2.2 + (Wd0.length + 2)))), zM, zM]) 3 C S rfl rfl rfl rfl (vp_in_nI (n := 0) (by decide) (by decide)) rfl dX1_init_47 (fun H locs S => ?_)
  refine lv_iinc (v := (1 : Int32)) (lv' := [(1, .int (1 : Int32)), (0, .ref (G.2.2 + k0))]) C.1 C.2.1 dX1_init_48 hl (k := 0) rfl (by decide) (by decide) rfl (fun ls hl => ?_)
  refine lv_goto (tgt := 26) C.1 C.2.1 dX1_init_51 (by decide) ?_
  refine lv_iload_n C.1 C.2.1 dX1_init_26 rfl (lv_at hl 0 rfl) ?_
  refine lv_aload_n C.1 C.2.1 dX1_init_27 rfl (lv_at hl 1 rfl) ?_
  refine d_get (ci := 1) (C := RX1) (T := TX1) (N := 4) (v := .ref (G.2.2 + (Wd0.length + 0))) C inlX1 rfl 0 (by decide) fl_X1_11 rfl hk0 S dX1_init_28 ?_
  refine d_alen 3 (v := (6 : Int32)) C S rfl rfl rfl dX1_init_31 ?_
  refine lv_icmp_ge (tgt := 54) C.1 C.2.1 dX1_init_32 (by decide) (fun h => absurd h (by decide)) (fun _ => ?_)
  refine lv_aload_n C.1 C.2.1 dX1_init_35 rfl (lv_at hl 1 rfl) ?_
  refine d_get (ci := 1) (C := RX1) (T := TX1) (N := 4) (v := .ref (G.2.2 + (Wd0.length + 0))) C inlX1 rfl 0 (by decide) fl_X1_11 rfl hk0 S dX1_init_36 ?_
  refine lv_iload_n C.1 C.2.1 dX1_init_39 rfl (lv_at hl 0 rfl) ?_
  refine d_new (j := 3) (ci := 3) (C := RX3) (T := TX3) (N := 6) (fs := [.int 0, .int 0, .int 0, .int 0, .int 0, .int 0]) C inlX3 tyX3_ok kl_X1_9 ia_X3 in_X3 rfl (fun j hj => by rcases (show j = 0 ∨ j = 1 ∨ j = 2 ∨ j = 3 ∨ j = 4 ∨ j = 5 by omega) with rfl | rfl | rfl | rfl | rfl | rfl <;> rfl) S rfl (Nat.le_of_ble_eq_true rfl) (Nat.le_of_ble_eq_true rfl) dX1_init_40 (fun H S => ?_)
  have S : c_St G (c_w Wd0 k0 (.inr (1, [.ref (G.2.2 + (Wd0.length + 0)), .ref (G.2.2 + (Wd0.length + 1)), .int 0, .int 0])) [rM G 6 (va_up (fun _ => none) 0 (some (G.2.2 + (Wd0.length + 2)))), zM, zM, zM]) s.heap H locs := S
  refine W.widen (k := 4) (n := 24) (Nat.le_of_ble_eq_true rfl) (Nat.le_of_ble_eq_true rfl) ?_
  refine lv_dup C.1 C.2.1 dX1_init_43 rfl ?_
  refine d_call (k := Wd0.length + 3) (rest := [.ref (G.2.2 + (Wd0.length + 3)), .int (1 : Int32), .ref (G.2.2 + (Wd0.length + 0))]) (mc := 0) (ms := 0) C hml hao (c_X3_init l G _ (Wd0.length + 3) (Wd0.length + 4) (c_ln rfl) (c_l2 rfl)) kM_X3_init im_X3_init rfl (Or.inl nm_X1_17) ⟨rfl, rfl⟩ ⟨(Nat.le_of_ble_eq_true rfl), (Nat.le_of_ble_eq_true rfl)⟩ ⟨(Nat.le_of_ble_eq_true rfl), (Nat.le_of_ble_eq_true rfl)⟩ S hl.1 (Nat.le_of_ble_eq_true rfl) dX1_init_44 (fun H locs S => ?_)
  have S : c_St G (c_w Wd0 k0 (.inr (1, [.ref (G.2.2 + (Wd0.length + 0)), .ref (G.2.2 + (Wd0.length + 1)), .int 0, .int 0])) [rM G 6 (va_up (fun _ => none) 0 (some (G.2.2 + (Wd0.length + 2)))), zM, zM, zM]) s.heap H locs := S
  refine W.widen (k := 4) (n := 24) (Nat.le_of_ble_eq_true rfl) (Nat.le_of_ble_eq_true rfl) ?_
  refine d_aast (ci := 3) (r := (RX3, TX3, 6)) (E1 := [rM G 6 (va_up (va_up (fun _ => none) 0 (some (G.2.2 + (Wd0.length + 2)))) 1 (some (G.2.2 + (Wd0.length + 3)))), zM, zM, zM]) 3 C S rfl rfl rfl rfl (vp_in_nI (n := 1) (by decide) (by decide)) rfl dX1_init_47 (fun H locs S => ?_)
  refine lv_iinc (v := (2 : Int32)) (lv' := [(1, .int (2 : Int32)), (0, .ref (G.2.2 + k0))]) C.1 C.2.1 dX1_init_48 hl (k := 0) rfl (by decide) (by decide) rfl (fun ls hl => ?_)
  refine lv_goto (tgt := 26) C.1 C.2.1 dX1_init_51 (by decide) ?_
  refine lv_iload_n C.1 C.2.1 dX1_init_26 rfl (lv_at hl 0 rfl) ?_
  refine lv_aload_n C.1 C.2.1 dX1_init_27 rfl (lv_at hl 1 rfl) ?_
  refine d_get (ci := 1) (C := RX1) (T := TX1) (N := 4) (v := .ref (G.2.2 + (Wd0.length + 0))) C inlX1 rfl 0 (by decide) fl_X1_11 rfl hk0 S dX1_init_28 ?_
  refine d_alen 3 (v := (6 : Int32)) C S rfl rfl rfl dX1_init_31 ?_
  refine lv_icmp_ge (tgt := 54) C.1 C.2.1 dX1_init_32 (by decide) (fun h => absurd h (by decide)) (fun _ => ?_)
  refine lv_aload_n C.1 C.2.1 dX1_init_35 rfl (lv_at hl 1 rfl) ?_
  refine d_get (ci := 1) (C := RX1) (T := TX1) (N := 4) (v := .ref (G.2.2 + (Wd0.length + 0))) C inlX1 rfl 0 (by decide) fl_X1_11 rfl hk0 S dX1_init_36 ?_
  refine lv_iload_n C.1 C.2.1 dX1_init_39 rfl (lv_at hl 0 rfl) ?_
  refine d_new (j := 4) (ci := 3) (C := RX3) (T := TX3) (N := 6) (fs := [.int 0, .int 0, .int 0, .int 0, .int 0, .int 0]) C inlX3 tyX3_ok kl_X1_9 ia_X3 in_X3 rfl (fun j hj => by rcases (show j = 0 ∨ j = 1 ∨ j = 2 ∨ j = 3 ∨ j = 4 ∨ j = 5 by omega) with rfl | rfl | rfl | rfl | rfl | rfl <;> rfl) S rfl (Nat.le_of_ble_eq_true rfl) (Nat.le_of_ble_eq_true rfl) dX1_init_40 (fun H S => ?_)
  have S : c_St G (c_w Wd0 k0 (.inr (1, [.ref (G.2.2 + (Wd0.length + 0)), .ref (G.2.2 + (Wd0.length + 1)), .int 0, .int 0])) [rM G 6 (va_up (va_up (fun _ => none) 0 (some (G.2.2 + (Wd0.length + 2)))) 1 (some (G.2.2 + (Wd0.length + 3)))), zM, zM, zM, zM]) s.heap H locs := S
  refine W.widen (k := 5) (n := 30) (Nat.le_of_ble_eq_true rfl) (Nat.le_of_ble_eq_true rfl) ?_
  refine lv_dup C.1 C.2.1 dX1_init_43 rfl ?_
  refine d_call (k := Wd0.length + 4) (rest := [.ref (G.2.2 + (Wd0.length + 4)), .int (2 : Int32), .ref (G.2.2 + (Wd0.length + 0))]) (mc := 0) (ms := 0) C hml hao (c_X3_init l G _ (Wd0.length + 4) (Wd0.length + 5) (c_ln rfl) (c_l2 rfl)) kM_X3_init im_X3_init rfl (Or.inl nm_X1_17) ⟨rfl, rfl⟩ ⟨(Nat.le_of_ble_eq_true rfl), (Nat.le_of_ble_eq_true rfl)⟩ ⟨(Nat.le_of_ble_eq_true rfl), (Nat.le_of_ble_eq_true rfl)⟩ S hl.1 (Nat.le_of_ble_eq_true rfl) dX1_init_44 (fun H locs S => ?_)
  have S : c_St G (c_w Wd0 k0 (.inr (1, [.ref (G.2.2 + (Wd0.length + 0)), .ref (G.2.2 + (Wd0.length + 1)), .int 0, .int 0])) [rM G 6 (va_up (va_up (fun _ => none) 0 (some (G.2.2 + (Wd0.length + 2)))) 1 (some (G.2.2 + (Wd0.length + 3)))), zM, zM, zM, zM]) s.heap H locs := S
  refine W.widen (k := 5) (n := 30) (Nat.le_of_ble_eq_true rfl) (Nat.le_of_ble_eq_true rfl) ?_
  refine d_aast (ci := 3) (r := (RX3, TX3, 6)) (E1 := [rM G 6 (va_up (va_up (va_up (fun _ => none) 0 (some (G.2.2 + (Wd0.length + 2)))) 1 (some (G.2.2 + (Wd0.length + 3)))) 2 (some (G.2.2 + (Wd0.length + 4)))), zM, zM, zM, zM]) 3 C S rfl rfl rfl rfl (vp_in_nI (n := 2) (by decide) (by decide)) rfl dX1_init_47 (fun H locs S => ?_)
  refine lv_iinc (v := (3 : Int32)) (lv' := [(1, .int (3 : Int32)), (0, .ref (G.2.2 + k0))]) C.1 C.2.1 dX1_init_48 hl (k := 0) rfl (by decide) (by decide) rfl (fun ls hl => ?_)
  refine lv_goto (tgt := 26) C.1 C.2.1 dX1_init_51 (by decide) ?_
  refine lv_iload_n C.1 C.2.1 dX1_init_26 rfl (lv_at hl 0 rfl) ?_
  refine lv_aload_n C.1 C.2.1 dX1_init_27 rfl (lv_at hl 1 rfl) ?_
  refine d_get (ci := 1) (C := RX1) (T := TX1) (N := 4) (v := .ref (G.2.2 + (Wd0.length + 0))) C inlX1 rfl 0 (by decide) fl_X1_11 rfl hk0 S dX1_init_28 ?_
  refine d_alen 3 (v := (6 : Int32)) C S rfl rfl rfl dX1_init_31 ?_
  refine lv_icmp_ge (tgt := 54) C.1 C.2.1 dX1_init_32 (by decide) (fun h => absurd h (by decide)) (fun _ => ?_)
  refine lv_aload_n C.1 C.2.1 dX1_init_35 rfl (lv_at hl 1 rfl) ?_
  refine d_get (ci := 1) (C := RX1) (T := TX1) (N := 4) (v := .ref (G.2.2 + (Wd0.length + 0))) C inlX1 rfl 0 (by decide) fl_X1_11 rfl hk0 S dX1_init_36 ?_
  refine lv_iload_n C.1 C.2.1 dX1_init_39 rfl (lv_at hl 0 rfl) ?_
  refine d_new (j := 5) (ci := 3) (C := RX3) (T := TX3) (N := 6) (fs := [.int 0, .int 0, .int 0, .int 0, .int 0, .int 0]) C inlX3 tyX3_ok kl_X1_9 ia_X3 in_X3 rfl (fun j hj => by rcases (show j = 0 ∨ j = 1 ∨ j = 2 ∨ j = 3 ∨ j = 4 ∨ j = 5 by omega) with rfl | rfl | rfl | rfl | rfl | rfl <;> rfl) S rfl (Nat.le_of_ble_eq_true rfl) (Nat.le_of_ble_eq_true rfl) dX1_init_40 (fun H S => ?_)
  have S : c_St G (c_w Wd0 k0 (.inr (1, [.ref (G.2.2 + (Wd0.length + 0)), .ref (G.2.2 + (Wd0.length + 1)), .int 0, .int 0])) [rM G 6 (va_up (va_up (va_up (fun _ => none) 0 (some (G.2.2 + (Wd0.length + 2)))) 1 (some (G.2.2 + (Wd0.length + 3)))) 2 (some (G.2.2 + (Wd0.length + 4)))), zM, zM, zM, zM, zM]) s.heap H locs := S
  refine W.widen (k := 6) (n := 36) (Nat.le_of_ble_eq_true rfl) (Nat.le_of_ble_eq_true rfl) ?_
  refine lv_dup C.1 C.2.1 dX1_init_43 rfl ?_
  refine d_call (k := Wd0.length + 5) (rest := [.ref (G.2.2 + (Wd0.length + 5)), .int (3 : Int32), .ref (G.2.2 + (Wd0.length + 0))]) (mc := 0) (ms := 0) C hml hao (c_X3_init l G _ (Wd0.length + 5) (Wd0.length + 6) (c_ln rfl) (c_l2 rfl)) kM_X3_init im_X3_init rfl (Or.inl nm_X1_17) ⟨rfl, rfl⟩ ⟨(Nat.le_of_ble_eq_true rfl), (Nat.le_of_ble_eq_true rfl)⟩ ⟨(Nat.le_of_ble_eq_true rfl), (Nat.le_of_ble_eq_true rfl)⟩ S hl.1 (Nat.le_of_ble_eq_true rfl) dX1_init_44 (fun H locs S => ?_)
  have S : c_St G (c_w Wd0 k0 (.inr (1, [.ref (G.2.2 + (Wd0.length + 0)), .ref (G.2.2 + (Wd0.length + 1)), .int 0, .int 0])) [rM G 6 (va_up (va_up (va_up (fun _ => none) 0 (some (G.2.2 + (Wd0.length + 2)))) 1 (some (G.2.2 + (Wd0.length + 3)))) 2 (some (G.2.2 + (Wd0.length + 4)))), zM, zM, zM, zM, zM]) s.heap H locs := S
  refine W.widen (k := 6) (n := 36) (Nat.le_of_ble_eq_true rfl) (Nat.le_of_ble_eq_true rfl) ?_
  refine d_aast (ci := 3) (r := (RX3, TX3, 6)) (E1 := [rM G 6 (va_up (va_up (va_up (va_up (fun _ => none) 0 (some (G.2.2 + (Wd0.length + 2)))) 1 (some (G.2.2 + (Wd0.length + 3)))) 2 (some (G.2.2 + (Wd0.length + 4)))) 3 (some (G.2.2 + (Wd0.length + 5)))), zM, zM, zM, zM, zM]) 3 C S rfl rfl rfl rfl (vp_in_nI (n := 3) (by decide) (by decide)) rfl dX1_init_47 (fun H locs S => ?_)
  refine lv_iinc (v := (4 : Int32)) (lv' := [(1, .int (4 : Int32)), (0, .ref (G.2.2 + k0))]) C.1 C.2.1 dX1_init_48 hl (k := 0) rfl (by decide) (by decide) rfl (fun ls hl => ?_)
  refine lv_goto (tgt := 26) C.1 C.2.1 dX1_init_51 (by decide) ?_
  refine lv_iload_n C.1 C.2.1 dX1_init_26 rfl (lv_at hl 0 rfl) ?_
  refine lv_aload_n C.1 C.2.1 dX1_init_27 rfl (lv_at hl 1 rfl) ?_
  refine d_get (ci := 1) (C := RX1) (T := TX1) (N := 4) (v := .ref (G.2.2 + (Wd0.length + 0))) C inlX1 rfl 0 (by decide) fl_X1_11 rfl hk0 S dX1_init_28 ?_
  refine d_alen 3 (v := (6 : Int32)) C S rfl rfl rfl dX1_init_31 ?_
  refine lv_icmp_ge (tgt := 54) C.1 C.2.1 dX1_init_32 (by decide) (fun h => absurd h (by decide)) (fun _ => ?_)
  refine lv_aload_n C.1 C.2.1 dX1_init_35 rfl (lv_at hl 1 rfl) ?_
  refine d_get (ci := 1) (C := RX1) (T := TX1) (N := 4) (v := .ref (G.2.2 + (Wd0.length + 0))) C inlX1 rfl 0 (by decide) fl_X1_11 rfl hk0 S dX1_init_36 ?_
  refine lv_iload_n C.1 C.2.1 dX1_init_39 rfl (lv_at hl 0 rfl) ?_
  refine d_new (j := 6) (ci := 3) (C := RX3) (T := TX3) (N := 6) (fs := [.int 0, .int 0, .int 0, .int 0, .int 0, .int 0]) C inlX3 tyX3_ok kl_X1_9 ia_X3 in_X3 rfl (fun j hj => by rcases (show j = 0 ∨ j = 1 ∨ j = 2 ∨ j = 3 ∨ j = 4 ∨ j = 5 by omega) with rfl | rfl | rfl | rfl | rfl | rfl <;> rfl) S rfl (Nat.le_of_ble_eq_true rfl) (Nat.le_of_ble_eq_true rfl) dX1_init_40 (fun H S => ?_)
  have S : c_St G (c_w Wd0 k0 (.inr (1, [.ref (G.2.2 + (Wd0.length + 0)), .ref (G.2.2 + (Wd0.length + 1)), .int 0, .int 0])) [rM G 6 (va_up (va_up (va_up (va_up (fun _ => none) 0 (some (G.2.2 + (Wd0.length + 2)))) 1 (some (G.2.2 + (Wd0.length + 3)))) 2 (some (G.2.2 + (Wd0.length + 4)))) 3 (some (G.2.2 + (Wd0.length + 5)))), zM, zM, zM, zM, zM, zM]) s.heap H locs := S
  refine W.widen (k := 7) (n := 42) (Nat.le_of_ble_eq_true rfl) (Nat.le_of_ble_eq_true rfl) ?_
  refine lv_dup C.1 C.2.1 dX1_init_43 rfl ?_
  refine d_call (k := Wd0.length + 6) (rest := [.ref (G.2.2 + (Wd0.length + 6)), .int (4 : Int32), .ref (G.2.2 + (Wd0.length + 0))]) (mc := 0) (ms := 0) C hml hao (c_X3_init l G _ (Wd0.length + 6) (Wd0.length + 7) (c_ln rfl) (c_l2 rfl)) kM_X3_init im_X3_init rfl (Or.inl nm_X1_17) ⟨rfl, rfl⟩ ⟨(Nat.le_of_ble_eq_true rfl), (Nat.le_of_ble_eq_true rfl)⟩ ⟨(Nat.le_of_ble_eq_true rfl), (Nat.le_of_ble_eq_true rfl)⟩ S hl.1 (Nat.le_of_ble_eq_true rfl) dX1_init_44 (fun H locs S => ?_)
  have S : c_St G (c_w Wd0 k0 (.inr (1, [.ref (G.2.2 + (Wd0.length + 0)), .ref (G.2.2 + (Wd0.length + 1)), .int 0, .int 0])) [rM G 6 (va_up (va_up (va_up (va_up (fun _ => none) 0 (some (G.2.2 + (Wd0.length + 2)))) 1 (some (G.2.2 + (Wd0.length + 3)))) 2 (some (G.2.2 + (Wd0.length + 4)))) 3 (some (G.2.2 + (Wd0.length + 5)))), zM, zM, zM, zM, zM, zM]) s.heap H locs := S
  refine W.widen (k := 7) (n := 42) (Nat.le_of_ble_eq_true rfl) (Nat.le_of_ble_eq_true rfl) ?_
  refine d_aast (ci := 3) (r := (RX3, TX3, 6)) (E1 := [rM G 6 (va_up (va_up (va_up (va_up (va_up (fun _ => none) 0 (some (G.2.2 + (Wd0.length + 2)))) 1 (some (G.2.2 + (Wd0.length + 3)))) 2 (some (G.2.2 + (Wd0.length + 4)))) 3 (some (G.2.2 + (Wd0.length + 5)))) 4 (some (G.2.2 + (Wd0.length + 6)))), zM, zM, zM, zM, zM, zM]) 3 C S rfl rfl rfl rfl (vp_in_nI (n := 4) (by decide) (by decide)) rfl dX1_init_47 (fun H locs S => ?_)
  refine lv_iinc (v := (5 : Int32)) (lv' := [(1, .int (5 : Int32)), (0, .ref (G.2.2 + k0))]) C.1 C.2.1 dX1_init_48 hl (k := 0) rfl (by decide) (by decide) rfl (fun ls hl => ?_)
  refine lv_goto (tgt := 26) C.1 C.2.1 dX1_init_51 (by decide) ?_
  refine lv_iload_n C.1 C.2.1 dX1_init_26 rfl (lv_at hl 0 rfl) ?_
  refine lv_aload_n C.1 C.2.1 dX1_init_27 rfl (lv_at hl 1 rfl) ?_
  refine d_get (ci := 1) (C := RX1) (T := TX1) (N := 4) (v := .ref (G.2.2 + (Wd0.length + 0))) C inlX1 rfl 0 (by decide) fl_X1_11 rfl hk0 S dX1_init_28 ?_
  refine d_alen 3 (v := (6 : Int32)) C S rfl rfl rfl dX1_init_31 ?_
  refine lv_icmp_ge (tgt := 54) C.1 C.2.1 dX1_init_32 (by decide) (fun h => absurd h (by decide)) (fun _ => ?_)
  refine lv_aload_n C.1 C.2.1 dX1_init_35 rfl (lv_at hl 1 rfl) ?_
  refine d_get (ci := 1) (C := RX1) (T := TX1) (N := 4) (v := .ref (G.2.2 + (Wd0.length + 0))) C inlX1 rfl 0 (by decide) fl_X1_11 rfl hk0 S dX1_init_36 ?_
  refine lv_iload_n C.1 C.2.1 dX1_init_39 rfl (lv_at hl 0 rfl) ?_
  refine d_new (j := 7) (ci := 3) (C := RX3) (T := TX3) (N := 6) (fs := [.int 0, .int 0, .int 0, .int 0, .int 0, .int 0]) C inlX3 tyX3_ok kl_X1_9 ia_X3 in_X3 rfl (fun j hj => by rcases (show j = 0 ∨ j = 1 ∨ j = 2 ∨ j = 3 ∨ j = 4 ∨ j = 5 by omega) with rfl | rfl | rfl | rfl | rfl | rfl <;> rfl) S rfl (Nat.le_of_ble_eq_true rfl) (Nat.le_of_ble_eq_true rfl) dX1_init_40 (fun H S => ?_)
  have S : c_St G (c_w Wd0 k0 (.inr (1, [.ref (G.2.2 + (Wd0.length + 0)), .ref (G.2.2 + (Wd0.length + 1)), .int 0, .int 0])) [rM G 6 (va_up (va_up (va_up (va_up (va_up (fun _ => none) 0 (some (G.2.2 + (Wd0.length + 2)))) 1 (some (G.2.2 + (Wd0.length + 3)))) 2 (some (G.2.2 + (Wd0.length + 4)))) 3 (some (G.2.2 + (Wd0.length + 5)))) 4 (some (G.2.2 + (Wd0.length + 6)))), zM, zM, zM, zM, zM, zM, zM]) s.heap H locs := S
  refine W.widen (k := 8) (n := 48) (Nat.le_of_ble_eq_true rfl) (Nat.le_of_ble_eq_true rfl) ?_
  refine lv_dup C.1 C.2.1 dX1_init_43 rfl ?_
  refine d_call (k := Wd0.length + 7) (rest := [.ref (G.2.2 + (Wd0.length + 7)), .int (5 : Int32), .ref (G.2.2 + (Wd0.length + 0))]) (mc := 0) (ms := 0) C hml hao (c_X3_init l G _ (Wd0.length + 7) (Wd0.length + 8) (c_ln rfl) (c_l2 rfl)) kM_X3_init im_X3_init rfl (Or.inl nm_X1_17) ⟨rfl, rfl⟩ ⟨(Nat.le_of_ble_eq_true rfl), (Nat.le_of_ble_eq_true rfl)⟩ ⟨(Nat.le_of_ble_eq_true rfl), (Nat.le_of_ble_eq_true rfl)⟩ S hl.1 (Nat.le_of_ble_eq_true rfl) dX1_init_44 (fun H locs S => ?_)
  have S : c_St G (c_w Wd0 k0 (.inr (1, [.ref (G.2.2 + (Wd0.length + 0)), .ref (G.2.2 + (Wd0.length + 1)), .int 0, .int 0])) [rM G 6 (va_up (va_up (va_up (va_up (va_up (fun _ => none) 0 (some (G.2.2 + (Wd0.length + 2)))) 1 (some (G.2.2 + (Wd0.length + 3)))) 2 (some (G.2.2 + (Wd0.length + 4)))) 3 (some (G.2.2 + (Wd0.length + 5)))) 4 (some (G.2.2 + (Wd0.length + 6)))), zM, zM, zM, zM, zM, zM, zM]) s.heap H locs := S
  refine W.widen (k := 8) (n := 48) (Nat.le_of_ble_eq_true rfl) (Nat.le_of_ble_eq_true rfl) ?_
  refine d_aast (ci := 3) (r := (RX3, TX3, 6)) (E1 := [rM G 6 (va_up (va_up (va_up (va_up (va_up (va_up (fun _ => none) 0 (some (G.2.2 + (Wd0.length + 2)))) 1 (some (G.2.2 + (Wd0.length + 3)))) 2 (some (G.2.2 + (Wd0.length + 4)))) 3 (some (G.2.2 + (Wd0.length + 5)))) 4 (some (G.2.2 + (Wd0.length + 6)))) 5 (some (G.2.2 + (Wd0.length + 7)))), zM, zM, zM, zM, zM, zM, zM]) 3 C S rfl rfl rfl rfl (vp_in_nI (n := 5) (by decide) (by decide)) rfl dX1_init_47 (fun H locs S => ?_)
  refine lv_iinc (v := (6 : Int32)) (lv' := [(1, .int (6 : Int32)), (0, .ref (G.2.2 + k0))]) C.1 C.2.1 dX1_init_48 hl (k := 0) rfl (by decide) (by decide) rfl (fun ls hl => ?_)
  refine lv_goto (tgt := 26) C.1 C.2.1 dX1_init_51 (by decide) ?_
  refine lv_iload_n C.1 C.2.1 dX1_init_26 rfl (lv_at hl 0 rfl) ?_
  refine lv_aload_n C.1 C.2.1 dX1_init_27 rfl (lv_at hl 1 rfl) ?_
  refine d_get (ci := 1) (C := RX1) (T := TX1) (N := 4) (v := .ref (G.2.2 + (Wd0.length + 0))) C inlX1 rfl 0 (by decide) fl_X1_11 rfl hk0 S dX1_init_28 ?_
  refine d_alen 3 (v := (6 : Int32)) C S rfl rfl rfl dX1_init_31 ?_
  refine lv_icmp_ge (tgt := 54) C.1 C.2.1 dX1_init_32 (by decide) (fun _ => ?_) (fun h => absurd (by decide) h)
  have S := d_same (j := 0) (f1 := fun j => some (G.2.2 + (Wd0.length + 2 + j))) S rfl (dfs_6 _ rfl rfl rfl rfl rfl rfl) rfl
  subst hn
  have S : c_St G (Wd0.set k0 (oD G Wd0.length) ++ E_decl G Wd0.length) s.heap H locs := S
  refine W.widen (k := 8) (n := 48) (Nat.le_of_ble_eq_true rfl) (Nat.le_of_ble_eq_true rfl) ?_
  exact d_ret C hr hlocks dX1_init_54 S
abbrev rm_X2_init : Room := { frames := 3, cells := 73, slots := 424, locals := 53 }
theorem kM_X2_init : s_M yX2_init cX2_init 2 none 0 := ⟨co_X2_init, in_X2, by decide, by decide, by decide +kernel⟩
set_option maxHeartbeats 4000000 in
set_option maxRecDepth 100000 in
theorem c_X2_init (l : Launch) (G : s_G) (Wd0 : List va_E) (k0 n : Nat) (hn : Wd0.length = n) (hb0 : Wd0[k0]? = some (.inr (2, [.null, .int 0]))) : Met l yX2_init (wsU yX2_init cX2_init 2 none) rm_X2_init (va_Pc [.ref (G.2.2 + k0)] (c_Pre G Wd0)) (c_Q G (Wd0.set k0 (.inr (2, [.ref (G.2.2 + n), .int 0])) ++ rD G 8 (fun j => some (G.2.2 + (n + 1 + 9 * j))) :: E_decls G (n + 1) 8)) 73 424 (c_A G.2.2) := by
  refine Met.ofW (cc := cX2_init) (maxL := 2) (ret := none) (by decide) rfl ?_
  intro p e s m args below meth c s₁ B hml hv
  obtain ⟨rfl, hP, hz, hK, hN, hao⟩ := hv
  have C : s_C G p s (([.ref (G.2.2 + k0)] : List Value).toArray) m c RX2 cX2_init := ⟨B.exec, B.bytes, findClass_of_methodNamed B.named, fun w hw => atoms_spec (ws := wsU yX2_init cX2_init 2 none) B.pre w (List.mem_cons_of_mem _ hw), hK, hN⟩
  have hr := B.returns
  have hlocks := B.notSynchronized
  have hin : meth.name = "<init>" := (name_of_methodNamed B.named B.method).1
  have hk0 : k0 < Wd0.length := (List.getElem?_eq_some_iff.mp hb0).1
  have S : c_St G (c_w Wd0 k0 (.inr (2, [.null, .int 0])) []) s.heap s.heap [] := by
    rw [← c_0 hb0]
    exact ⟨hP, va_S.rf, hz⟩
  have hl := lv_entry ([.ref (G.2.2 + k0)]) (n := 2) (Nat.le_of_ble_eq_true rfl)
  rw [lg_entry_eq]
  generalize (lg_sl ([.ref (G.2.2 + k0)]) ++ List.replicate (2 - (lg_sl ([.ref (G.2.2 + k0)])).length) Slot.unset).toArray = ls at hl ⊢
  have hl : lv_has ls 2 [(0, .ref (G.2.2 + k0))] := hl
  refine lv_aload_n C.1 C.2.1 dX2_init_0 rfl (lv_at hl 0 rfl) ?_
  refine W.objInit C.1 C.2.1 C.2.2.1 (C.2.2.2.1 _ ml_X2_3) (C.2.2.2.1 _ im_obj) (C.2.2.2.1 _ co_obj) rfl (by rw [hml]; exact hl.1) rfl dX2_init_1 (Nat.le_of_ble_eq_true rfl) (Nat.le_of_ble_eq_true rfl) ?_
  refine W.eq (g2 := F0 m 4 ls []) rfl ?_
  refine lv_aload_n C.1 C.2.1 dX2_init_4 rfl (lv_at hl 0 rfl) ?_
  refine lv_bipush (v := (8 : Int32)) C.1 C.2.1 dX2_init_5 (by decide) ?_
  refine d_newq (j := 0) (t0 := 4) (N' := 8) C hao.2 kl_X2_9 rfl (by decide) (by decide) (Nat.le_of_ble_eq_true rfl) S rfl (Nat.le_of_ble_eq_true rfl) (Nat.le_of_ble_eq_true rfl) dX2_init_7 (fun H S => ?_)
  have S : c_St G (c_w Wd0 k0 (.inr (2, [.null, .int 0])) [rD G 8 (fun _ => none)]) s.heap H [] := S
  refine W.widen (k := 1) (n := 8) (Nat.le_of_ble_eq_true rfl) (Nat.le_of_ble_eq_true rfl) ?_
  refine d_putF (ci := 2) (C := RX2) (T := TX2) (N := 2) (ty := tyX2 0) (fs1 := [.ref (G.2.2 + (Wd0.length + 0)), .int 0]) (v := .ref (G.2.2 + (Wd0.length + 0))) C inlX2 tyX2_ok nmX2 rfl 0 (by decide) fl_X2_11 rfl hin rfl (by decide +kernel) rfl rfl (Nat.le_of_ble_eq_true rfl) rfl hk0 S dX2_init_10 (fun H locs S => ?_)
  have S : c_St G (c_w Wd0 k0 (.inr (2, [.ref (G.2.2 + (Wd0.length + 0)), .int 0])) [rD G 8 (fun _ => none)]) s.heap H locs := S
  refine lv_iconst (v := (0 : Int32)) C.1 C.2.1 dX2_init_13 (by decide) ?_
  refine lv_istore_n (lv' := [(1, .int (0 : Int32)), (0, .ref (G.2.2 + k0))]) C.1 C.2.1 dX2_init_14 rfl hl (by decide) rfl (fun ls hl => ?_)
  refine lv_iload_n C.1 C.2.1 dX2_init_15 rfl (lv_at hl 0 rfl) ?_
  refine lv_aload_n C.1 C.2.1 dX2_init_16 rfl (lv_at hl 1 rfl) ?_
  refine d_get (ci := 2) (C := RX2) (T := TX2) (N := 2) (v := .ref (G.2.2 + (Wd0.length + 0))) C inlX2 rfl 0 (by decide) fl_X2_11 rfl hk0 S dX2_init_17 ?_
  refine d_alen 4 (v := (8 : Int32)) C S rfl rfl rfl dX2_init_20 ?_
  refine lv_icmp_ge (tgt := 43) C.1 C.2.1 dX2_init_21 (by decide) (fun h => absurd h (by decide)) (fun _ => ?_)
  refine lv_aload_n C.1 C.2.1 dX2_init_24 rfl (lv_at hl 1 rfl) ?_
  refine d_get (ci := 2) (C := RX2) (T := TX2) (N := 2) (v := .ref (G.2.2 + (Wd0.length + 0))) C inlX2 rfl 0 (by decide) fl_X2_11 rfl hk0 S dX2_init_25 ?_
  refine lv_iload_n C.1 C.2.1 dX2_init_28 rfl (lv_at hl 0 rfl) ?_
  refine d_new (j := 1) (ci := 1) (C := RX1) (T := TX1) (N := 4) (fs := [.null, .null, .int 0, .int 0]) C inlX1 tyX1_ok kl_X2_9 ia_X1 in_X1 rfl (fun j hj => by rcases (show j = 0 ∨ j = 1 ∨ j = 2 ∨ j = 3 by omega) with rfl | rfl | rfl | rfl <;> rfl) S rfl (Nat.le_of_ble_eq_true rfl) (Nat.le_of_ble_eq_true rfl) dX2_init_29 (fun H S => ?_)
  have S : c_St G (c_w Wd0 k0 (.inr (2, [.ref (G.2.2 + (Wd0.length + 0)), .int 0])) [rD G 8 (fun _ => none), zD]) s.heap H locs := S
  refine W.widen (k := 2) (n := 12) (Nat.le_of_ble_eq_true rfl) (Nat.le_of_ble_eq_true rfl) ?_
  refine lv_dup C.1 C.2.1 dX2_init_32 rfl ?_
  refine d_call (k := Wd0.length + 1) (rest := [.ref (G.2.2 + (Wd0.length + 1)), .int (0 : Int32), .ref (G.2.2 + (Wd0.length + 0))]) (mc := 8) (ms := 48) C hml hao (c_X1_init l G _ (Wd0.length + 1) (Wd0.length + 2) (c_ln rfl) (c_l2 rfl)) kM_X1_init im_X1_init rfl (Or.inl nm_X2_17) ⟨rfl, rfl⟩ ⟨(Nat.le_of_ble_eq_true rfl), (Nat.le_of_ble_eq_true rfl)⟩ ⟨(Nat.le_of_ble_eq_true rfl), (Nat.le_of_ble_eq_true rfl)⟩ S hl.1 (Nat.le_of_ble_eq_true rfl) dX2_init_33 (fun H locs S => ?_)
  have S : c_St G (c_w Wd0 k0 (.inr (2, [.ref (G.2.2 + (Wd0.length + 0)), .int 0])) [rD G 8 (fun _ => none), oD G (Wd0.length + 2), aM G (Wd0.length + 2), zM, zM, zM, zM, zM, zM, zM]) s.heap H locs := by
    rw [d_conv (E1 := [rD G 8 (fun _ => none), oD G (Wd0.length + 2), aM G (Wd0.length + 2), zM, zM, zM, zM, zM, zM, zM]) rfl] at S
    exact S
  refine W.widen (k := 10) (n := 60) (Nat.le_of_ble_eq_true rfl) (Nat.le_of_ble_eq_true rfl) ?_
  refine d_aast (ci := 1) (r := (RX1, TX1, 4)) (E1 := [rD G 8 (va_up (fun _ => none) 0 (some (G.2.2 + (Wd0.length + 1)))), oD G (Wd0.length + 2), aM G (Wd0.length + 2), zM, zM, zM, zM, zM, zM, zM]) 4 C S rfl rfl rfl rfl (vp_in_nI (n := 0) (by decide) (by decide)) rfl dX2_init_36 (fun H locs S => ?_)
  refine lv_iinc (v := (1 : Int32)) (lv' := [(1, .int (1 : Int32)), (0, .ref (G.2.2 + k0))]) C.1 C.2.1 dX2_init_37 hl (k := 0) rfl (by decide) (by decide) rfl (fun ls hl => ?_)
  refine lv_goto (tgt := 15) C.1 C.2.1 dX2_init_40 (by decide) ?_
  refine lv_iload_n C.1 C.2.1 dX2_init_15 rfl (lv_at hl 0 rfl) ?_
  refine lv_aload_n C.1 C.2.1 dX2_init_16 rfl (lv_at hl 1 rfl) ?_
  refine d_get (ci := 2) (C := RX2) (T := TX2) (N := 2) (v := .ref (G.2.2 + (Wd0.length + 0))) C inlX2 rfl 0 (by decide) fl_X2_11 rfl hk0 S dX2_init_17 ?_
  refine d_alen 4 (v := (8 : Int32)) C S rfl rfl rfl dX2_init_20 ?_
  refine lv_icmp_ge (tgt := 43) C.1 C.2.1 dX2_init_21 (by decide) (fun h => absurd h (by decide)) (fun _ => ?_)
  refine lv_aload_n C.1 C.2.1 dX2_init_24 rfl (lv_at hl 1 rfl) ?_
  refine d_get (ci := 2) (C := RX2) (T := TX2) (N := 2) (v := .ref (G.2.2 + (Wd0.length + 0))) C inlX2 rfl 0 (by decide) fl_X2_11 rfl hk0 S dX2_init_25 ?_
  refine lv_iload_n C.1 C.2.1 dX2_init_28 rfl (lv_at hl 0 rfl) ?_
  refine d_new (j := 10) (ci := 1) (C := RX1) (T := TX1) (N := 4) (fs := [.null, .null, .int 0, .int 0]) C inlX1 tyX1_ok kl_X2_9 ia_X1 in_X1 rfl (fun j hj => by rcases (show j = 0 ∨ j = 1 ∨ j = 2 ∨ j = 3 by omega) with rfl | rfl | rfl | rfl <;> rfl) S rfl (Nat.le_of_ble_eq_true rfl) (Nat.le_of_ble_eq_true rfl) dX2_init_29 (fun H S => ?_)
  have S : c_St G (c_w Wd0 k0 (.inr (2, [.ref (G.2.2 + (Wd0.length + 0)), .int 0])) [rD G 8 (va_up (fun _ => none) 0 (some (G.2.2 + (Wd0.length + 1)))), oD G (Wd0.length + 2), aM G (Wd0.length + 2), zM, zM, zM, zM, zM, zM, zM, zD]) s.heap H locs := S
  refine W.widen (k := 11) (n := 64) (Nat.le_of_ble_eq_true rfl) (Nat.le_of_ble_eq_true rfl) ?_
  refine lv_dup C.1 C.2.1 dX2_init_32 rfl ?_
  refine d_call (k := Wd0.length + 10) (rest := [.ref (G.2.2 + (Wd0.length + 10)), .int (1 : Int32), .ref (G.2.2 + (Wd0.length + 0))]) (mc := 8) (ms := 48) C hml hao (c_X1_init l G _ (Wd0.length + 10) (Wd0.length + 11) (c_ln rfl) (c_l2 rfl)) kM_X1_init im_X1_init rfl (Or.inl nm_X2_17) ⟨rfl, rfl⟩ ⟨(Nat.le_of_ble_eq_true rfl), (Nat.le_of_ble_eq_true rfl)⟩ ⟨(Nat.le_of_ble_eq_true rfl), (Nat.le_of_ble_eq_true rfl)⟩ S hl.1 (Nat.le_of_ble_eq_true rfl) dX2_init_33 (fun H locs S => ?_)
  have S : c_St G (c_w Wd0 k0 (.inr (2, [.ref (G.2.2 + (Wd0.length + 0)), .int 0])) [rD G 8 (va_up (fun _ => none) 0 (some (G.2.2 + (Wd0.length + 1)))), oD G (Wd0.length + 2), aM G (Wd0.length + 2), zM, zM, zM, zM, zM, zM, zM, oD G (Wd0.length + 11), aM G (Wd0.length + 11), zM, zM, zM, zM, zM, zM, zM]) s.heap H locs := by
    rw [d_conv (E1 := [rD G 8 (va_up (fun _ => none) 0 (some (G.2.2 + (Wd0.length + 1)))), oD G (Wd0.length + 2), aM G (Wd0.length + 2), zM, zM, zM, zM, zM, zM, zM, oD G (Wd0.length + 11), aM G (Wd0.length + 11), zM, zM, zM, zM, zM, zM, zM]) rfl] at S
    exact S
  refine W.widen (k := 19) (n := 112) (Nat.le_of_ble_eq_true rfl) (Nat.le_of_ble_eq_true rfl) ?_
  refine d_aast (ci := 1) (r := (RX1, TX1, 4)) (E1 := [rD G 8 (va_up (va_up (fun _ => none) 0 (some (G.2.2 + (Wd0.length + 1)))) 1 (some (G.2.2 + (Wd0.length + 10)))), oD G (Wd0.length + 2), aM G (Wd0.length + 2), zM, zM, zM, zM, zM, zM, zM, oD G (Wd0.length + 11), aM G (Wd0.length + 11), zM, zM, zM, zM, zM, zM, zM]) 4 C S rfl rfl rfl rfl (vp_in_nI (n := 1) (by decide) (by decide)) rfl dX2_init_36 (fun H locs S => ?_)
  refine lv_iinc (v := (2 : Int32)) (lv' := [(1, .int (2 : Int32)), (0, .ref (G.2.2 + k0))]) C.1 C.2.1 dX2_init_37 hl (k := 0) rfl (by decide) (by decide) rfl (fun ls hl => ?_)
  refine lv_goto (tgt := 15) C.1 C.2.1 dX2_init_40 (by decide) ?_
  refine lv_iload_n C.1 C.2.1 dX2_init_15 rfl (lv_at hl 0 rfl) ?_
  refine lv_aload_n C.1 C.2.1 dX2_init_16 rfl (lv_at hl 1 rfl) ?_
  refine d_get (ci := 2) (C := RX2) (T := TX2) (N := 2) (v := .ref (G.2.2 + (Wd0.length + 0))) C inlX2 rfl 0 (by decide) fl_X2_11 rfl hk0 S dX2_init_17 ?_
  refine d_alen 4 (v := (8 : Int32)) C S rfl rfl rfl dX2_init_20 ?_
  refine lv_icmp_ge (tgt := 43) C.1 C.2.1 dX2_init_21 (by decide) (fun h => absurd h (by decide)) (fun _ => ?_)
  refine lv_aload_n C.1 C.2.1 dX2_init_24 rfl (lv_at hl 1 rfl) ?_
  refine d_get (ci := 2) (C := RX2) (T := TX2) (N := 2) (v := .ref (G.2.2 + (Wd0.length + 0))) C inlX2 rfl 0 (by decide) fl_X2_11 rfl hk0 S dX2_init_25 ?_
  refine lv_iload_n C.1 C.2.1 dX2_init_28 rfl (lv_at hl 0 rfl) ?_
  refine d_new (j := 19) (ci := 1) (C := RX1) (T := TX1) (N := 4) (fs := [.null, .null, .int 0, .int 0]) C inlX1 tyX1_ok kl_X2_9 ia_X1 in_X1 rfl (fun j hj => by rcases (show j = 0 ∨ j = 1 ∨ j = 2 ∨ j = 3 by omega) with rfl | rfl | rfl | rfl <;> rfl) S rfl (Nat.le_of_ble_eq_true rfl) (Nat.le_of_ble_eq_true rfl) dX2_init_29 (fun H S => ?_)
  have S : c_St G (c_w Wd0 k0 (.inr (2, [.ref (G.2.2 + (Wd0.length + 0)), .int 0])) [rD G 8 (va_up (va_up (fun _ => none) 0 (some (G.2.2 + (Wd0.length + 1)))) 1 (some (G.2.2 + (Wd0.length + 10)))), oD G (Wd0.length + 2), aM G (Wd0.length + 2), zM, zM, zM, zM, zM, zM, zM, oD G (Wd0.length + 11), aM G (Wd0.length + 11), zM, zM, zM, zM, zM, zM, zM, zD]) s.heap H locs := S
  refine W.widen (k := 20) (n := 116) (Nat.le_of_ble_eq_true rfl) (Nat.le_of_ble_eq_true rfl) ?_
  refine lv_dup C.1 C.2.1 dX2_init_32 rfl ?_
  refine d_call (k := Wd0.length + 19) (rest := [.ref (G.2.2 + (Wd0.length + 19)), .int (2 : Int32), .ref (G.2.2 + (Wd0.length + 0))]) (mc := 8) (ms := 48) C hml hao (c_X1_init l G _ (Wd0.length + 19) (Wd0.length + 20) (c_ln rfl) (c_l2 rfl)) kM_X1_init im_X1_init rfl (Or.inl nm_X2_17) ⟨rfl, rfl⟩ ⟨(Nat.le_of_ble_eq_true rfl), (Nat.le_of_ble_eq_true rfl)⟩ ⟨(Nat.le_of_ble_eq_true rfl), (Nat.le_of_ble_eq_true rfl)⟩ S hl.1 (Nat.le_of_ble_eq_true rfl) dX2_init_33 (fun H locs S => ?_)
  have S : c_St G (c_w Wd0 k0 (.inr (2, [.ref (G.2.2 + (Wd0.length + 0)), .int 0])) [rD G 8 (va_up (va_up (fun _ => none) 0 (some (G.2.2 + (Wd0.length + 1)))) 1 (some (G.2.2 + (Wd0.length + 10)))), oD G (Wd0.length + 2), aM G (Wd0.length + 2), zM, zM, zM, zM, zM, zM, zM, oD G (Wd0.length + 11), aM G (Wd0.length + 11), zM, zM, zM, zM, zM, zM, zM, oD G (Wd0.length + 20), aM G (Wd0.length + 20), zM, zM, zM, zM, zM, zM, zM]) s.heap H locs := by
    rw [d_conv (E1 := [rD G 8 (va_up (va_up (fun _ => none) 0 (some (G.2.2 + (Wd0.length + 1)))) 1 (some (G.2.2 + (Wd0.length + 10)))), oD G (Wd0.length + 2), aM G (Wd0.length + 2), zM, zM, zM, zM, zM, zM, zM, oD G (Wd0.length + 11), aM G (Wd0.length + 11), zM, zM, zM, zM, zM, zM, zM, oD G (Wd0.length + 20), aM G (Wd0.length + 20), zM, zM, zM, zM, zM, zM, zM]) rfl] at S
    exact S
  refine W.widen (k := 28) (n := 164) (Nat.le_of_ble_eq_true rfl) (Nat.le_of_ble_eq_true rfl) ?_
  refine d_aast (ci := 1) (r := (RX1, TX1, 4)) (E1 := [rD G 8 (va_up (va_up (va_up (fun _ => none) 0 (some (G.2.2 + (Wd0.length + 1)))) 1 (some (G.2.2 + (Wd0.length + 10)))) 2 (some (G.2.2 + (Wd0.length + 19)))), oD G (Wd0.length + 2), aM G (Wd0.length + 2), zM, zM, zM, zM, zM, zM, zM, oD G (Wd0.length + 11), aM G (Wd0.length + 11), zM, zM, zM, zM, zM, zM, zM, oD G (Wd0.length + 20), aM G (Wd0.length + 20), zM, zM, zM, zM, zM, zM, zM]) 4 C S rfl rfl rfl rfl (vp_in_nI (n := 2) (by decide) (by decide)) rfl dX2_init_36 (fun H locs S => ?_)
  refine lv_iinc (v := (3 : Int32)) (lv' := [(1, .int (3 : Int32)), (0, .ref (G.2.2 + k0))]) C.1 C.2.1 dX2_init_37 hl (k := 0) rfl (by decide) (by decide) rfl (fun ls hl => ?_)
  refine lv_goto (tgt := 15) C.1 C.2.1 dX2_init_40 (by decide) ?_
  refine lv_iload_n C.1 C.2.1 dX2_init_15 rfl (lv_at hl 0 rfl) ?_
  refine lv_aload_n C.1 C.2.1 dX2_init_16 rfl (lv_at hl 1 rfl) ?_
  refine d_get (ci := 2) (C := RX2) (T := TX2) (N := 2) (v := .ref (G.2.2 + (Wd0.length + 0))) C inlX2 rfl 0 (by decide) fl_X2_11 rfl hk0 S dX2_init_17 ?_
  refine d_alen 4 (v := (8 : Int32)) C S rfl rfl rfl dX2_init_20 ?_
  refine lv_icmp_ge (tgt := 43) C.1 C.2.1 dX2_init_21 (by decide) (fun h => absurd h (by decide)) (fun _ => ?_)
  refine lv_aload_n C.1 C.2.1 dX2_init_24 rfl (lv_at hl 1 rfl) ?_
  refine d_get (ci := 2) (C := RX2) (T := TX2) (N := 2) (v := .ref (G.2.2 + (Wd0.length + 0))) C inlX2 rfl 0 (by decide) fl_X2_11 rfl hk0 S dX2_init_25 ?_
  refine lv_iload_n C.1 C.2.1 dX2_init_28 rfl (lv_at hl 0 rfl) ?_
  refine d_new (j := 28) (ci := 1) (C := RX1) (T := TX1) (N := 4) (fs := [.null, .null, .int 0, .int 0]) C inlX1 tyX1_ok kl_X2_9 ia_X1 in_X1 rfl (fun j hj => by rcases (show j = 0 ∨ j = 1 ∨ j = 2 ∨ j = 3 by omega) with rfl | rfl | rfl | rfl <;> rfl) S rfl (Nat.le_of_ble_eq_true rfl) (Nat.le_of_ble_eq_true rfl) dX2_init_29 (fun H S => ?_)
  have S : c_St G (c_w Wd0 k0 (.inr (2, [.ref (G.2.2 + (Wd0.length + 0)), .int 0])) [rD G 8 (va_up (va_up (va_up (fun _ => none) 0 (some (G.2.2 + (Wd0.length + 1)))) 1 (some (G.2.2 + (Wd0.length + 10)))) 2 (some (G.2.2 + (Wd0.length + 19)))), oD G (Wd0.length + 2), aM G (Wd0.length + 2), zM, zM, zM, zM, zM, zM, zM, oD G (Wd0.length + 11), aM G (Wd0.length + 11), zM, zM, zM, zM, zM, zM, zM, oD G (Wd0.length + 20), aM G (Wd0.length + 20), zM, zM, zM, zM, zM, zM, zM, zD]) s.heap H locs := S
  refine W.widen (k := 29) (n := 168) (Nat.le_of_ble_eq_true rfl) (Nat.le_of_ble_eq_true rfl) ?_
  refine lv_dup C.1 C.2.1 dX2_init_32 rfl ?_
  refine d_call (k := Wd0.length + 28) (rest := [.ref (G.2.2 + (Wd0.length + 28)), .int (3 : Int32), .ref (G.2.2 + (Wd0.length + 0))]) (mc := 8) (ms := 48) C hml hao (c_X1_init l G _ (Wd0.length + 28) (Wd0.length + 29) (c_ln rfl) (c_l2 rfl)) kM_X1_init im_X1_init rfl (Or.inl nm_X2_17) ⟨rfl, rfl⟩ ⟨(Nat.le_of_ble_eq_true rfl), (Nat.le_of_ble_eq_true rfl)⟩ ⟨(Nat.le_of_ble_eq_true rfl), (Nat.le_of_ble_eq_true rfl)⟩ S hl.1 (Nat.le_of_ble_eq_true rfl) dX2_init_33 (fun H locs S => ?_)
  have S : c_St G (c_w Wd0 k0 (.inr (2, [.ref (G.2.2 + (Wd0.length + 0)), .int 0])) [rD G 8 (va_up (va_up (va_up (fun _ => none) 0 (some (G.2.2 + (Wd0.length + 1)))) 1 (some (G.2.2 + (Wd0.length + 10)))) 2 (some (G.2.2 + (Wd0.length + 19)))), oD G (Wd0.length + 2), aM G (Wd0.length + 2), zM, zM, zM, zM, zM, zM, zM, oD G (Wd0.length + 11), aM G (Wd0.length + 11), zM, zM, zM, zM, zM, zM, zM, oD G (Wd0.length + 20), aM G (Wd0.length + 20), zM, zM, zM, zM, zM, zM, zM, oD G (Wd0.length + 29), aM G (Wd0.length + 29), zM, zM, zM, zM, zM, zM, zM]) s.heap H locs := by
    rw [d_conv (E1 := [rD G 8 (va_up (va_up (va_up (fun _ => none) 0 (some (G.2.2 + (Wd0.length + 1)))) 1 (some (G.2.2 + (Wd0.length + 10)))) 2 (some (G.2.2 + (Wd0.length + 19)))), oD G (Wd0.length + 2), aM G (Wd0.length + 2), zM, zM, zM, zM, zM, zM, zM, oD G (Wd0.length + 11), aM G (Wd0.length + 11), zM, zM, zM, zM, zM, zM, zM, oD G (Wd0.length + 20), aM G (Wd0.length + 20), zM, zM, zM, zM, zM, zM, zM, oD G (Wd0.length + 29), aM G (Wd0.length + 29), zM, zM, zM, zM, zM, zM, zM]) rfl] at S
    exact S
  refine W.widen (k := 37) (n := 216) (Nat.le_of_ble_eq_true rfl) (Nat.le_of_ble_eq_true rfl) ?_
  refine d_aast (ci := 1) (r := (RX1, TX1, 4)) (E1 := [rD G 8 (va_up (va_up (va_up (va_up (fun _ => none) 0 (some (G.2.2 + (Wd0.length + 1)))) 1 (some (G.2.2 + (Wd0.length + 10)))) 2 (some (G.2.2 + (Wd0.length + 19)))) 3 (some (G.2.2 + (Wd0.length + 28)))), oD G (Wd0.length + 2), aM G (Wd0.length + 2), zM, zM, zM, zM, zM, zM, zM, oD G (Wd0.length + 11), aM G (Wd0.length + 11), zM, zM, zM, zM, zM, zM, zM, oD G (Wd0.length + 20), aM G (Wd0.length + 20), zM, zM, zM, zM, zM, zM, zM, oD G (Wd0.length + 29), aM G (Wd0.length + 29), zM, zM, zM, zM, zM, zM, zM]) 4 C S rfl rfl rfl rfl (vp_in_nI (n := 3) (by decide) (by decide)) rfl dX2_init_36 (fun H locs S => ?_)
  refine lv_iinc (v := (4 : Int32)) (lv' := [(1, .int (4 : Int32)), (0, .ref (G.2.2 + k0))]) C.1 C.2.1 dX2_init_37 hl (k := 0) rfl (by decide) (by decide) rfl (fun ls hl => ?_)
  refine lv_goto (tgt := 15) C.1 C.2.1 dX2_init_40 (by decide) ?_
  refine lv_iload_n C.1 C.2.1 dX2_init_15 rfl (lv_at hl 0 rfl) ?_
  refine lv_aload_n C.1 C.2.1 dX2_init_16 rfl (lv_at hl 1 rfl) ?_
  refine d_get (ci := 2) (C := RX2) (T := TX2) (N := 2) (v := .ref (G.2.2 + (Wd0.length + 0))) C inlX2 rfl 0 (by decide) fl_X2_11 rfl hk0 S dX2_init_17 ?_
  refine d_alen 4 (v := (8 : Int32)) C S rfl rfl rfl dX2_init_20 ?_
  refine lv_icmp_ge (tgt := 43) C.1 C.2.1 dX2_init_21 (by decide) (fun h => absurd h (by decide)) (fun _ => ?_)
  refine lv_aload_n C.1 C.2.1 dX2_init_24 rfl (lv_at hl 1 rfl) ?_
  refine d_get (ci := 2) (C := RX2) (T := TX2) (N := 2) (v := .ref (G.2.2 + (Wd0.length + 0))) C inlX2 rfl 0 (by decide) fl_X2_11 rfl hk0 S dX2_init_25 ?_
  refine lv_iload_n C.1 C.2.1 dX2_init_28 rfl (lv_at hl 0 rfl) ?_
  refine d_new (j := 37) (ci := 1) (C := RX1) (T := TX1) (N := 4) (fs := [.null, .null, .int 0, .int 0]) C inlX1 tyX1_ok kl_X2_9 ia_X1 in_X1 rfl (fun j hj => by rcases (show j = 0 ∨ j = 1 ∨ j = 2 ∨ j = 3 by omega) with rfl | rfl | rfl | rfl <;> rfl) S rfl (Nat.le_of_ble_eq_true rfl) (Nat.le_of_ble_eq_true rfl) dX2_init_29 (fun H S => ?_)
  have S : c_St G (c_w Wd0 k0 (.inr (2, [.ref (G.2.2 + (Wd0.length + 0)), .int 0])) [rD G 8 (va_up (va_up (va_up (va_up (fun _ => none) 0 (some (G.2.2 + (Wd0.length + 1)))) 1 (some (G.2.2 + (Wd0.length + 10)))) 2 (some (G.2.2 + (Wd0.length + 19)))) 3 (some (G.2.2 + (Wd0.length + 28)))), oD G (Wd0.length + 2), aM G (Wd0.length + 2), zM, zM, zM, zM, zM, zM, zM, oD G (Wd0.length + 11), aM G (Wd0.length + 11), zM, zM, zM, zM, zM, zM, zM, oD G (Wd0.length + 20), aM G (Wd0.length + 20), zM, zM, zM, zM, zM, zM, zM, oD G (Wd0.length + 29), aM G (Wd0.length + 29), zM, zM, zM, zM, zM, zM, zM, zD]) s.heap H locs := S
  refine W.widen (k := 38) (n := 220) (Nat.le_of_ble_eq_true rfl) (Nat.le_of_ble_eq_true rfl) ?_
  refine lv_dup C.1 C.2.1 dX2_init_32 rfl ?_
  refine d_call (k := Wd0.length + 37) (rest := [.ref (G.2.2 + (Wd0.length + 37)), .int (4 : Int32), .ref (G.2.2 + (Wd0.length + 0))]) (mc := 8) (ms := 48) C hml hao (c_X1_init l G _ (Wd0.length + 37) (Wd0.length + 38) (c_ln rfl) (c_l2 rfl)) kM_X1_init im_X1_init rfl (Or.inl nm_X2_17) ⟨rfl, rfl⟩ ⟨(Nat.le_of_ble_eq_true rfl), (Nat.le_of_ble_eq_true rfl)⟩ ⟨(Nat.le_of_ble_eq_true rfl), (Nat.le_of_ble_eq_true rfl)⟩ S hl.1 (Nat.le_of_ble_eq_true rfl) dX2_init_33 (fun H locs S => ?_)
  have S : c_St G (c_w Wd0 k0 (.inr (2, [.ref (G.2.2 + (Wd0.length + 0)), .int 0])) [rD G 8 (va_up (va_up (va_up (va_up (fun _ => none) 0 (some (G.2.2 + (Wd0.length + 1)))) 1 (some (G.2.2 + (Wd0.length + 10)))) 2 (some (G.2.2 + (Wd0.length + 19)))) 3 (some (G.2.2 + (Wd0.length + 28)))), oD G (Wd0.length + 2), aM G (Wd0.length + 2), zM, zM, zM, zM, zM, zM, zM, oD G (Wd0.length + 11), aM G (Wd0.length + 11), zM, zM, zM, zM, zM, zM, zM, oD G (Wd0.length + 20), aM G (Wd0.length + 20), zM, zM, zM, zM, zM, zM, zM, oD G (Wd0.length + 29), aM G (Wd0.length + 29), zM, zM, zM, zM, zM, zM, zM, oD G (Wd0.length + 38), aM G (Wd0.length + 38), zM, zM, zM, zM, zM, zM, zM]) s.heap H locs := by
    rw [d_conv (E1 := [rD G 8 (va_up (va_up (va_up (va_up (fun _ => none) 0 (some (G.2.2 + (Wd0.length + 1)))) 1 (some (G.2.2 + (Wd0.length + 10)))) 2 (some (G.2.2 + (Wd0.length + 19)))) 3 (some (G.2.2 + (Wd0.length + 28)))), oD G (Wd0.length + 2), aM G (Wd0.length + 2), zM, zM, zM, zM, zM, zM, zM, oD G (Wd0.length + 11), aM G (Wd0.length + 11), zM, zM, zM, zM, zM, zM, zM, oD G (Wd0.length + 20), aM G (Wd0.length + 20), zM, zM, zM, zM, zM, zM, zM, oD G (Wd0.length + 29), aM G (Wd0.length + 29), zM, zM, zM, zM, zM, zM, zM, oD G (Wd0.length + 38), aM G (Wd0.length + 38), zM, zM, zM, zM, zM, zM, zM]) rfl] at S
    exact S
  refine W.widen (k := 46) (n := 268) (Nat.le_of_ble_eq_true rfl) (Nat.le_of_ble_eq_true rfl) ?_
  refine d_aast (ci := 1) (r := (RX1, TX1, 4)) (E1 := [rD G 8 (va_up (va_up (va_up (va_up (va_up (fun _ => none) 0 (some (G.2.2 + (Wd0.length + 1)))) 1 (some (G.2.2 + (Wd0.length + 10)))) 2 (some (G.2.2 + (Wd0.length + 19)))) 3 (some (G.2.2 + (Wd0.length + 28)))) 4 (some (G.2.2 + (Wd0.length + 37)))), oD G (Wd0.length + 2), aM G (Wd0.length + 2), zM, zM, zM, zM, zM, zM, zM, oD G (Wd0.length + 11), aM G (Wd0.length + 11), zM, zM, zM, zM, zM, zM, zM, oD G (Wd0.length + 20), aM G (Wd0.length + 20), zM, zM, zM, zM, zM, zM, zM, oD G (Wd0.length + 29), aM G (Wd0.length + 29), zM, zM, zM, zM, zM, zM, zM, oD G (Wd0.length + 38), aM G (Wd0.length + 38), zM, zM, zM, zM, zM, zM, zM]) 4 C S rfl rfl rfl rfl (vp_in_nI (n := 4) (by decide) (by decide)) rfl dX2_init_36 (fun H locs S => ?_)
  refine lv_iinc (v := (5 : Int32)) (lv' := [(1, .int (5 : Int32)), (0, .ref (G.2.2 + k0))]) C.1 C.2.1 dX2_init_37 hl (k := 0) rfl (by decide) (by decide) rfl (fun ls hl => ?_)
  refine lv_goto (tgt := 15) C.1 C.2.1 dX2_init_40 (by decide) ?_
  refine lv_iload_n C.1 C.2.1 dX2_init_15 rfl (lv_at hl 0 rfl) ?_
  refine lv_aload_n C.1 C.2.1 dX2_init_16 rfl (lv_at hl 1 rfl) ?_
  refine d_get (ci := 2) (C := RX2) (T := TX2) (N := 2) (v := .ref (G.2.2 + (Wd0.length + 0))) C inlX2 rfl 0 (by decide) fl_X2_11 rfl hk0 S dX2_init_17 ?_
  refine d_alen 4 (v := (8 : Int32)) C S rfl rfl rfl dX2_init_20 ?_
  refine lv_icmp_ge (tgt := 43) C.1 C.2.1 dX2_init_21 (by decide) (fun h => absurd h (by decide)) (fun _ => ?_)
  refine lv_aload_n C.1 C.2.1 dX2_init_24 rfl (lv_at hl 1 rfl) ?_
  refine d_get (ci := 2) (C := RX2) (T := TX2) (N := 2) (v := .ref (G.2.2 + (Wd0.length + 0))) C inlX2 rfl 0 (by decide) fl_X2_11 rfl hk0 S dX2_init_25 ?_
  refine lv_iload_n C.1 C.2.1 dX2_init_28 rfl (lv_at hl 0 rfl) ?_
  refine d_new (j := 46) (ci := 1) (C := RX1) (T := TX1) (N := 4) (fs := [.null, .null, .int 0, .int 0]) C inlX1 tyX1_ok kl_X2_9 ia_X1 in_X1 rfl (fun j hj => by rcases (show j = 0 ∨ j = 1 ∨ j = 2 ∨ j = 3 by omega) with rfl | rfl | rfl | rfl <;> rfl) S rfl (Nat.le_of_ble_eq_true rfl) (Nat.le_of_ble_eq_true rfl) dX2_init_29 (fun H S => ?_)
  have S : c_St G (c_w Wd0 k0 (.inr (2, [.ref (G.2.2 + (Wd0.length + 0)), .int 0])) [rD G 8 (va_up (va_up (va_up (va_up (va_up (fun _ => none) 0 (some (G.2.2 + (Wd0.length + 1)))) 1 (some (G.2.2 + (Wd0.length + 10)))) 2 (some (G.2.2 + (Wd0.length + 19)))) 3 (some (G.2.2 + (Wd0.length + 28)))) 4 (some (G.2.2 + (Wd0.length + 37)))), oD G (Wd0.length + 2), aM G (Wd0.length + 2), zM, zM, zM, zM, zM, zM, zM, oD G (Wd0.length + 11), aM G (Wd0.length + 11), zM, zM, zM, zM, zM, zM, zM, oD G (Wd0.length + 20), aM G (Wd0.length + 20), zM, zM, zM, zM, zM, zM, zM, oD G (Wd0.length + 29), aM G (Wd0.length + 29), zM, zM, zM, zM, zM, zM, zM, oD G (Wd0.length + 38), aM G (Wd0.length + 38), zM, zM, zM, zM, zM, zM, zM, zD]) s.heap H locs := S
  refine W.widen (k := 47) (n := 272) (Nat.le_of_ble_eq_true rfl) (Nat.le_of_ble_eq_true rfl) ?_
  refine lv_dup C.1 C.2.1 dX2_init_32 rfl ?_
  refine d_call (k := Wd0.length + 46) (rest := [.ref (G.2.2 + (Wd0.length + 46)), .int (5 : Int32), .ref (G.2.2 + (Wd0.length + 0))]) (mc := 8) (ms := 48) C hml hao (c_X1_init l G _ (Wd0.length + 46) (Wd0.length + 47) (c_ln rfl) (c_l2 rfl)) kM_X1_init im_X1_init rfl (Or.inl nm_X2_17) ⟨rfl, rfl⟩ ⟨(Nat.le_of_ble_eq_true rfl), (Nat.le_of_ble_eq_true rfl)⟩ ⟨(Nat.le_of_ble_eq_true rfl), (Nat.le_of_ble_eq_true rfl)⟩ S hl.1 (Nat.le_of_ble_eq_true rfl) dX2_init_33 (fun H locs S => ?_)
  have S : c_St G (c_w Wd0 k0 (.inr (2, [.ref (G.2.2 + (Wd0.length + 0)), .int 0])) [rD G 8 (va_up (va_up (va_up (va_up (va_up (fun _ => none) 0 (some (G.2.2 + (Wd0.length + 1)))) 1 (some (G.2.2 + (Wd0.length + 10)))) 2 (some (G.2.2 + (Wd0.length + 19)))) 3 (some (G.2.2 + (Wd0.length + 28)))) 4 (some (G.2.2 + (Wd0.length + 37)))), oD G (Wd0.length + 2), aM G (Wd0.length + 2), zM, zM, zM, zM, zM, zM, zM, oD G (Wd0.length + 11), aM G (Wd0.length + 11), zM, zM, zM, zM, zM, zM, zM, oD G (Wd0.length + 20), aM G (Wd0.length + 20), zM, zM, zM, zM, zM, zM, zM, oD G (Wd0.length + 29), aM G (Wd0.length + 29), zM, zM, zM, zM, zM, zM, zM, oD G (Wd0.length + 38), aM G (Wd0.length + 38), zM, zM, zM, zM, zM, zM, zM, oD G (Wd0.length + 47), aM G (Wd0.length + 47), zM, zM, zM, zM, zM, zM, zM]) s.heap H locs := by
    rw [d_conv (E1 := [rD G 8 (va_up (va_up (va_up (va_up (va_up (fun _ => none) 0 (some (G.2.2 + (Wd0.length + 1)))) 1 (some (G.2.2 + (Wd0.length + 10)))) 2 (some (G.2.2 + (Wd0.length + 19)))) 3 (some (G.2.2 + (Wd0.length + 28)))) 4 (some (G.2.2 + (Wd0.length + 37)))), oD G (Wd0.length + 2), aM G (Wd0.length + 2), zM, zM, zM, zM, zM, zM, zM, oD G (Wd0.length + 11), aM G (Wd0.length + 11), zM, zM, zM, zM, zM, zM, zM, oD G (Wd0.length + 20), aM G (Wd0.length + 20), zM, zM, zM, zM, zM, zM, zM, oD G (Wd0.length + 29), aM G (Wd0.length + 29), zM, zM, zM, zM, zM, zM, zM, oD G (Wd0.length + 38), aM G (Wd0.length + 38), zM, zM, zM, zM, zM, zM, zM, oD G (Wd0.length + 47), aM G (Wd0.length + 47), zM, zM, zM, zM, zM, zM, zM]) rfl] at S
    exact S
  refine W.widen (k := 55) (n := 320) (Nat.le_of_ble_eq_true rfl) (Nat.le_of_ble_eq_true rfl) ?_
  refine d_aast (ci := 1) (r := (RX1, TX1, 4)) (E1 := [rD G 8 (va_up (va_up (va_up (va_up (va_up (va_up (fun _ => none) 0 (some (G.2.2 + (Wd0.length + 1)))) 1 (some (G.2.2 + (Wd0.length + 10)))) 2 (some (G.2.2 + (Wd0.length + 19)))) 3 (some (G.2.2 + (Wd0.length + 28)))) 4 (some (G.2.2 + (Wd0.length + 37)))) 5 (some (G.2.2 + (Wd0.length + 46)))), oD G (Wd0.length + 2), aM G (Wd0.length + 2), zM, zM, zM, zM, zM, zM, zM, oD G (Wd0.length + 11), aM G (Wd0.length + 11), zM, zM, zM, zM, zM, zM, zM, oD G (Wd0.length + 20), aM G (Wd0.length + 20), zM, zM, zM, zM, zM, zM, zM, oD G (Wd0.length + 29), aM G (Wd0.length + 29), zM, zM, zM, zM, zM, zM, zM, oD G (Wd0.length + 38), aM G (Wd0.length + 38), zM, zM, zM, zM, zM, zM, zM, oD G (Wd0.length + 47), aM G (Wd0.length + 47), zM, zM, zM, zM, zM, zM, zM]) 4 C S rfl rfl rfl rfl (vp_in_nI (n := 5) (by decide) (by decide)) rfl dX2_init_36 (fun H locs S => ?_)
  refine lv_iinc (v := (6 : Int32)) (lv' := [(1, .int (6 : Int32)), (0, .ref (G.2.2 + k0))]) C.1 C.2.1 dX2_init_37 hl (k := 0) rfl (by decide) (by decide) rfl (fun ls hl => ?_)
  refine lv_goto (tgt := 15) C.1 C.2.1 dX2_init_40 (by decide) ?_
  refine lv_iload_n C.1 C.2.1 dX2_init_15 rfl (lv_at hl 0 rfl) ?_
  refine lv_aload_n C.1 C.2.1 dX2_init_16 rfl (lv_at hl 1 rfl) ?_
  refine d_get (ci := 2) (C := RX2) (T := TX2) (N := 2) (v := .ref (G.2.2 + (Wd0.length + 0))) C inlX2 rfl 0 (by decide) fl_X2_11 rfl hk0 S dX2_init_17 ?_
  refine d_alen 4 (v := (8 : Int32)) C S rfl rfl rfl dX2_init_20 ?_
  refine lv_icmp_ge (tgt := 43) C.1 C.2.1 dX2_init_21 (by decide) (fun h => absurd h (by decide)) (fun _ => ?_)
  refine lv_aload_n C.1 C.2.1 dX2_init_24 rfl (lv_at hl 1 rfl) ?_
  refine d_get (ci := 2) (C := RX2) (T := TX2) (N := 2) (v := .ref (G.2.2 + (Wd0.length + 0))) C inlX2 rfl 0 (by decide) fl_X2_11 rfl hk0 S dX2_init_25 ?_
  refine lv_iload_n C.1 C.2.1 dX2_init_28 rfl (lv_at hl 0 rfl) ?_
  refine d_new (j := 55) (ci := 1) (C := RX1) (T := TX1) (N := 4) (fs := [.null, .null, .int 0, .int 0]) C inlX1 tyX1_ok kl_X2_9 ia_X1 in_X1 rfl (fun j hj => by rcases (show j = 0 ∨ j = 1 ∨ j = 2 ∨ j = 3 by omega) with rfl | rfl | rfl | rfl <;> rfl) S rfl (Nat.le_of_ble_eq_true rfl) (Nat.le_of_ble_eq_true rfl) dX2_init_29 (fun H S => ?_)
  have S : c_St G (c_w Wd0 k0 (.inr (2, [.ref (G.2.2 + (Wd0.length + 0)), .int 0])) [rD G 8 (va_up (va_up (va_up (va_up (va_up (va_up (fun _ => none) 0 (some (G.2.2 + (Wd0.length + 1)))) 1 (some (G.2.2 + (Wd0.length + 10)))) 2 (some (G.2.2 + (Wd0.length + 19)))) 3 (some (G.2.2 + (Wd0.length + 28)))) 4 (some (G.2.2 + (Wd0.length + 37)))) 5 (some (G.2.2 + (Wd0.length + 46)))), oD G (Wd0.length + 2), aM G (Wd0.length + 2), zM, zM, zM, zM, zM, zM, zM, oD G (Wd0.length + 11), aM G (Wd0.length + 11), zM, zM, zM, zM, zM, zM, zM, oD G (Wd0.length + 20), aM G (Wd0.length + 20), zM, zM, zM, zM, zM, zM, zM, oD G (Wd0.length + 29), aM G (Wd0.length + 29), zM, zM, zM, zM, zM, zM, zM, oD G (Wd0.length + 38), aM G (Wd0.length + 38), zM, zM, zM, zM, zM, zM, zM, oD G (Wd0.length + 47), aM G (Wd0.length + 47), zM, zM, zM, zM, zM, zM, zM, zD]) s.heap H locs := S
  refine W.widen (k := 56) (n := 324) (Nat.le_of_ble_eq_true rfl) (Nat.le_of_ble_eq_true rfl) ?_
  refine lv_dup C.1 C.2.1 dX2_init_32 rfl ?_
  refine d_call (k := Wd0.length + 55) (rest := [.ref (G.2.2 + (Wd0.length + 55)), .int (6 : Int32), .ref (G.2.2 + (Wd0.length + 0))]) (mc := 8) (ms := 48) C hml hao (c_X1_init l G _ (Wd0.length + 55) (Wd0.length + 56) (c_ln rfl) (c_l2 rfl)) kM_X1_init im_X1_init rfl (Or.inl nm_X2_17) ⟨rfl, rfl⟩ ⟨(Nat.le_of_ble_eq_true rfl), (Nat.le_of_ble_eq_true rfl)⟩ ⟨(Nat.le_of_ble_eq_true rfl), (Nat.le_of_ble_eq_true rfl)⟩ S hl.1 (Nat.le_of_ble_eq_true rfl) dX2_init_33 (fun H locs S => ?_)
  have S : c_St G (c_w Wd0 k0 (.inr (2, [.ref (G.2.2 + (Wd0.length + 0)), .int 0])) [rD G 8 (va_up (va_up (va_up (va_up (va_up (va_up (fun _ => none) 0 (some (G.2.2 + (Wd0.length + 1)))) 1 (some (G.2.2 + (Wd0.length + 10)))) 2 (some (G.2.2 + (Wd0.length + 19)))) 3 (some (G.2.2 + (Wd0.length + 28)))) 4 (some (G.2.2 + (Wd0.length + 37)))) 5 (some (G.2.2 + (Wd0.length + 46)))), oD G (Wd0.length + 2), aM G (Wd0.length + 2), zM, zM, zM, zM, zM, zM, zM, oD G (Wd0.length + 11), aM G (Wd0.length + 11), zM, zM, zM, zM, zM, zM, zM, oD G (Wd0.length + 20), aM G (Wd0.length + 20), zM, zM, zM, zM, zM, zM, zM, oD G (Wd0.length + 29), aM G (Wd0.length + 29), zM, zM, zM, zM, zM, zM, zM, oD G (Wd0.length + 38), aM G (Wd0.length + 38), zM, zM, zM, zM, zM, zM, zM, oD G (Wd0.length + 47), aM G (Wd0.length + 47), zM, zM, zM, zM, zM, zM, zM, oD G (Wd0.length + 56), aM G (Wd0.length + 56), zM, zM, zM, zM, zM, zM, zM]) s.heap H locs := by
    rw [d_conv (E1 := [rD G 8 (va_up (va_up (va_up (va_up (va_up (va_up (fun _ => none) 0 (some (G.2.2 + (Wd0.length + 1)))) 1 (some (G.2.2 + (Wd0.length + 10)))) 2 (some (G.2.2 + (Wd0.length + 19)))) 3 (some (G.2.2 + (Wd0.length + 28)))) 4 (some (G.2.2 + (Wd0.length + 37)))) 5 (some (G.2.2 + (Wd0.length + 46)))), oD G (Wd0.length + 2), aM G (Wd0.length + 2), zM, zM, zM, zM, zM, zM, zM, oD G (Wd0.length + 11), aM G (Wd0.length + 11), zM, zM, zM, zM, zM, zM, zM, oD G (Wd0.length + 20), aM G (Wd0.length + 20), zM, zM, zM, zM, zM, zM, zM, oD G (Wd0.length + 29), aM G (Wd0.length + 29), zM, zM, zM, zM, zM, zM, zM, oD G (Wd0.length + 38), aM G (Wd0.length + 38), zM, zM, zM, zM, zM, zM, zM, oD G (Wd0.length + 47), aM G (Wd0.length + 47), zM, zM, zM, zM, zM, zM, zM, oD G (Wd0.length + 56), aM G (Wd0.length + 56), zM, zM, zM, zM, zM, zM, zM]) rfl] at S
    exact S
  refine W.widen (k := 64) (n := 372) (Nat.le_of_ble_eq_true rfl) (Nat.le_of_ble_eq_true rfl) ?_
  refine d_aast (ci := 1) (r := (RX1, TX1, 4)) (E1 := [rD G 8 (va_up (va_up (va_up (va_up (va_up (va_up (va_up (fun _ => none) 0 (some (G.2.2 + (Wd0.length + 1)))) 1 (some (G.2.2 + (Wd0.length + 10)))) 2 (some (G.2.2 + (Wd0.length + 19)))) 3 (some (G.2.2 + (Wd0.length + 28)))) 4 (some (G.2.2 + (Wd0.length + 37)))) 5 (some (G.2.2 + (Wd0.length + 46)))) 6 (some (G.2.2 + (Wd0.length + 55)))), oD G (Wd0.length + 2), aM G (Wd0.length + 2), zM, zM, zM, zM, zM, zM, zM, oD G (Wd0.length + 11), aM G (Wd0.length + 11), zM, zM, zM, zM, zM, zM, zM, oD G (Wd0.length + 20), aM G (Wd0.length + 20), zM, zM, zM, zM, zM, zM, zM, oD G (Wd0.length + 29), aM G (Wd0.length + 29), zM, zM, zM, zM, zM, zM, zM, oD G (Wd0.length + 38), aM G (Wd0.length + 38), zM, zM, zM, zM, zM, zM, zM, oD G (Wd0.length + 47), aM G (Wd0.length + 47), zM, zM, zM, zM, zM, zM, zM, oD G (Wd0.length + 56), aM G (Wd0.length + 56), zM, zM, zM, zM, zM, zM, zM]) 4 C S rfl rfl rfl rfl (vp_in_nI (n := 6) (by decide) (by decide)) rfl dX2_init_36 (fun H locs S => ?_)
  refine lv_iinc (v := (7 : Int32)) (lv' := [(1, .int (7 : Int32)), (0, .ref (G.2.2 + k0))]) C.1 C.2.1 dX2_init_37 hl (k := 0) rfl (by decide) (by decide) rfl (fun ls hl => ?_)
  refine lv_goto (tgt := 15) C.1 C.2.1 dX2_init_40 (by decide) ?_
  refine lv_iload_n C.1 C.2.1 dX2_init_15 rfl (lv_at hl 0 rfl) ?_
  refine lv_aload_n C.1 C.2.1 dX2_init_16 rfl (lv_at hl 1 rfl) ?_
  refine d_get (ci := 2) (C := RX2) (T := TX2) (N := 2) (v := .ref (G.2.2 + (Wd0.length + 0))) C inlX2 rfl 0 (by decide) fl_X2_11 rfl hk0 S dX2_init_17 ?_
  refine d_alen 4 (v := (8 : Int32)) C S rfl rfl rfl dX2_init_20 ?_
  refine lv_icmp_ge (tgt := 43) C.1 C.2.1 dX2_init_21 (by decide) (fun h => absurd h (by decide)) (fun _ => ?_)
  refine lv_aload_n C.1 C.2.1 dX2_init_24 rfl (lv_at hl 1 rfl) ?_
  refine d_get (ci := 2) (C := RX2) (T := TX2) (N := 2) (v := .ref (G.2.2 + (Wd0.length + 0))) C inlX2 rfl 0 (by decide) fl_X2_11 rfl hk0 S dX2_init_25 ?_
  refine lv_iload_n C.1 C.2.1 dX2_init_28 rfl (lv_at hl 0 rfl) ?_
  refine d_new (j := 64) (ci := 1) (C := RX1) (T := TX1) (N := 4) (fs := [.null, .null, .int 0, .int 0]) C inlX1 tyX1_ok kl_X2_9 ia_X1 in_X1 rfl (fun j hj => by rcases (show j = 0 ∨ j = 1 ∨ j = 2 ∨ j = 3 by omega) with rfl | rfl | rfl | rfl <;> rfl) S rfl (Nat.le_of_ble_eq_true rfl) (Nat.le_of_ble_eq_true rfl) dX2_init_29 (fun H S => ?_)
  have S : c_St G (c_w Wd0 k0 (.inr (2, [.ref (G.2.2 + (Wd0.length + 0)), .int 0])) [rD G 8 (va_up (va_up (va_up (va_up (va_up (va_up (va_up (fun _ => none) 0 (some (G.2.2 + (Wd0.length + 1)))) 1 (some (G.2.2 + (Wd0.length + 10)))) 2 (some (G.2.2 + (Wd0.length + 19)))) 3 (some (G.2.2 + (Wd0.length + 28)))) 4 (some (G.2.2 + (Wd0.length + 37)))) 5 (some (G.2.2 + (Wd0.length + 46)))) 6 (some (G.2.2 + (Wd0.length + 55)))), oD G (Wd0.length + 2), aM G (Wd0.length + 2), zM, zM, zM, zM, zM, zM, zM, oD G (Wd0.length + 11), aM G (Wd0.length + 11), zM, zM, zM, zM, zM, zM, zM, oD G (Wd0.length + 20), aM G (Wd0.length + 20), zM, zM, zM, zM, zM, zM, zM, oD G (Wd0.length + 29), aM G (Wd0.length + 29), zM, zM, zM, zM, zM, zM, zM, oD G (Wd0.length + 38), aM G (Wd0.length + 38), zM, zM, zM, zM, zM, zM, zM, oD G (Wd0.length + 47), aM G (Wd0.length + 47), zM, zM, zM, zM, zM, zM, zM, oD G (Wd0.length + 56), aM G (Wd0.length + 56), zM, zM, zM, zM, zM, zM, zM, zD]) s.heap H locs := S
  refine W.widen (k := 65) (n := 376) (Nat.le_of_ble_eq_true rfl) (Nat.le_of_ble_eq_true rfl) ?_
  refine lv_dup C.1 C.2.1 dX2_init_32 rfl ?_
  refine d_call (k := Wd0.length + 64) (rest := [.ref (G.2.2 + (Wd0.length + 64)), .int (7 : Int32), .ref (G.2.2 + (Wd0.length + 0))]) (mc := 8) (ms := 48) C hml hao (c_X1_init l G _ (Wd0.length + 64) (Wd0.length + 65) (c_ln rfl) (c_l2 rfl)) kM_X1_init im_X1_init rfl (Or.inl nm_X2_17) ⟨rfl, rfl⟩ ⟨(Nat.le_of_ble_eq_true rfl), (Nat.le_of_ble_eq_true rfl)⟩ ⟨(Nat.le_of_ble_eq_true rfl), (Nat.le_of_ble_eq_true rfl)⟩ S hl.1 (Nat.le_of_ble_eq_true rfl) dX2_init_33 (fun H locs S => ?_)
  have S : c_St G (c_w Wd0 k0 (.inr (2, [.ref (G.2.2 + (Wd0.length + 0)), .int 0])) [rD G 8 (va_up (va_up (va_up (va_up (va_up (va_up (va_up (fun _ => none) 0 (some (G.2.2 + (Wd0.length + 1)))) 1 (some (G.2.2 + (Wd0.length + 10)))) 2 (some (G.2.2 + (Wd0.length + 19)))) 3 (some (G.2.2 + (Wd0.length + 28)))) 4 (some (G.2.2 + (Wd0.length + 37)))) 5 (some (G.2.2 + (Wd0.length + 46)))) 6 (some (G.2.2 + (Wd0.length + 55)))), oD G (Wd0.length + 2), aM G (Wd0.length + 2), zM, zM, zM, zM, zM, zM, zM, oD G (Wd0.length + 11), aM G (Wd0.length + 11), zM, zM, zM, zM, zM, zM, zM, oD G (Wd0.length + 20), aM G (Wd0.length + 20), zM, zM, zM, zM, zM, zM, zM, oD G (Wd0.length + 29), aM G (Wd0.length + 29), zM, zM, zM, zM, zM, zM, zM, oD G (Wd0.length + 38), aM G (Wd0.length + 38), zM, zM, zM, zM, zM, zM, zM, oD G (Wd0.length + 47), aM G (Wd0.length + 47), zM, zM, zM, zM, zM, zM, zM, oD G (Wd0.length + 56), aM G (Wd0.length + 56), zM, zM, zM, zM, zM, zM, zM, oD G (Wd0.length + 65), aM G (Wd0.length + 65), zM, zM, zM, zM, zM, zM, zM]) s.heap H locs := by
    rw [d_conv (E1 := [rD G 8 (va_up (va_up (va_up (va_up (va_up (va_up (va_up (fun _ => none) 0 (some (G.2.2 + (Wd0.length + 1)))) 1 (some (G.2.2 + (Wd0.length + 10)))) 2 (some (G.2.2 + (Wd0.length + 19)))) 3 (some (G.2.2 + (Wd0.length + 28)))) 4 (some (G.2.2 + (Wd0.length + 37)))) 5 (some (G.2.2 + (Wd0.length + 46)))) 6 (some (G.2.2 + (Wd0.length + 55)))), oD G (Wd0.length + 2), aM G (Wd0.length + 2), zM, zM, zM, zM, zM, zM, zM, oD G (Wd0.length + 11), aM G (Wd0.length + 11), zM, zM, zM, zM, zM, zM, zM, oD G (Wd0.length + 20), aM G (Wd0.length + 20), zM, zM, zM, zM, zM, zM, zM, oD G (Wd0.length + 29), aM G (Wd0.length + 29), zM, zM, zM, zM, zM, zM, zM, oD G (Wd0.length + 38), aM G (Wd0.length + 38), zM, zM, zM, zM, zM, zM, zM, oD G (Wd0.length + 47), aM G (Wd0.length + 47), zM, zM, zM, zM, zM, zM, zM, oD G (Wd0.length + 56), aM G (Wd0.length + 56), zM, zM, zM, zM, zM, zM, zM, oD G (Wd0.length + 65), aM G (Wd0.length + 65), zM, zM, zM, zM, zM, zM, zM]) rfl] at S
    exact S
  refine W.widen (k := 73) (n := 424) (Nat.le_of_ble_eq_true rfl) (Nat.le_of_ble_eq_true rfl) ?_
  refine d_aast (ci := 1) (r := (RX1, TX1, 4)) (E1 := [rD G 8 (va_up (va_up (va_up (va_up (va_up (va_up (va_up (va_up (fun _ => none) 0 (some (G.2.2 + (Wd0.length + 1)))) 1 (some (G.2.2 + (Wd0.length + 10)))) 2 (some (G.2.2 + (Wd0.length + 19)))) 3 (some (G.2.2 + (Wd0.length + 28)))) 4 (some (G.2.2 + (Wd0.length + 37)))) 5 (some (G.2.2 + (Wd0.length + 46)))) 6 (some (G.2.2 + (Wd0.length + 55)))) 7 (some (G.2.2 + (Wd0.length + 64)))), oD G (Wd0.length + 2), aM G (Wd0.length + 2), zM, zM, zM, zM, zM, zM, zM, oD G (Wd0.length + 11), aM G (Wd0.length + 11), zM, zM, zM, zM, zM, zM, zM, oD G (Wd0.length + 20), aM G (Wd0.length + 20), zM, zM, zM, zM, zM, zM, zM, oD G (Wd0.length + 29), aM G (Wd0.length + 29), zM, zM, zM, zM, zM, zM, zM, oD G (Wd0.length + 38), aM G (Wd0.length + 38), zM, zM, zM, zM, zM, zM, zM, oD G (Wd0.length + 47), aM G (Wd0.length + 47), zM, zM, zM, zM, zM, zM, zM, oD G (Wd0.length + 56), aM G (Wd0.length + 56), zM, zM, zM, zM, zM, zM, zM, oD G (Wd0.length + 65), aM G (Wd0.length + 65), zM, zM, zM, zM, zM, zM, zM]) 4 C S rfl rfl rfl rfl (vp_in_nI (n := 7) (by decide) (by decide)) rfl dX2_init_36 (fun H locs S => ?_)
  refine lv_iinc (v := (8 : Int32)) (lv' := [(1, .int (8 : Int32)), (0, .ref (G.2.2 + k0))]) C.1 C.2.1 dX2_init_37 hl (k := 0) rfl (by decide) (by decide) rfl (fun ls hl => ?_)
  refine lv_goto (tgt := 15) C.1 C.2.1 dX2_init_40 (by decide) ?_
  refine lv_iload_n C.1 C.2.1 dX2_init_15 rfl (lv_at hl 0 rfl) ?_
  refine lv_aload_n C.1 C.2.1 dX2_init_16 rfl (lv_at hl 1 rfl) ?_
  refine d_get (ci := 2) (C := RX2) (T := TX2) (N := 2) (v := .ref (G.2.2 + (Wd0.length + 0))) C inlX2 rfl 0 (by decide) fl_X2_11 rfl hk0 S dX2_init_17 ?_
  refine d_alen 4 (v := (8 : Int32)) C S rfl rfl rfl dX2_init_20 ?_
  refine lv_icmp_ge (tgt := 43) C.1 C.2.1 dX2_init_21 (by decide) (fun _ => ?_) (fun h => absurd (by decide) h)
  have S := d_same (j := 0) (f1 := fun j => some (G.2.2 + (Wd0.length + 1 + 9 * j))) S rfl (dfs_8 _ rfl rfl rfl rfl rfl rfl rfl rfl) rfl
  subst hn
  have S : c_St G (Wd0.set k0 (.inr (2, [.ref (G.2.2 + Wd0.length), .int 0])) ++ rD G 8 (fun j => some (G.2.2 + (Wd0.length + 1 + 9 * j))) :: E_decls G (Wd0.length + 1) 8) s.heap H locs := S
  refine W.widen (k := 73) (n := 424) (Nat.le_of_ble_eq_true rfl) (Nat.le_of_ble_eq_true rfl) ?_
  exact d_ret C hr hlocks dX2_init_43 S
abbrev rm_X4_init : Room := { frames := 1, cells := 1, slots := 4096, locals := 12 }
theorem kM_X4_init : s_M yX4_init cX4_init 1 none 0 := ⟨co_X4_init, in_X4, by decide, by decide, by decide +kernel⟩
set_option maxHeartbeats 4000000 in
set_option maxRecDepth 100000 in
theorem c_X4_init (l : Launch) (G : s_G) (Wd0 : List va_E) (k0 n : Nat) (hn : Wd0.length = n) (hb0 : Wd0[k0]? = some (.inr (4, [.null, .int 0]))) : Met l yX4_init (wsU yX4_init cX4_init 1 none) rm_X4_init (va_Pc [.ref (G.2.2 + k0)] (c_Pre G Wd0)) (c_Q G (Wd0.set k0 (.inr (4, [.ref (G.2.2 + n), .int (-2)])) ++ [zJ G 4096])) 1 4096 (c_A G.2.2) := by
  refine Met.ofW (cc := cX4_init) (maxL := 1) (ret := none) (by decide) rfl ?_
  intro p e s m args below meth c s₁ B hml hv
  obtain ⟨rfl, hP, hz, hK, hN, hao⟩ := hv
  have C : s_C G p s (([.ref (G.2.2 + k0)] : List Value).toArray) m c RX4 cX4_init := ⟨B.exec, B.bytes, findClass_of_methodNamed B.named, fun w hw => atoms_spec (ws := wsU yX4_init cX4_init 1 none) B.pre w (List.mem_cons_of_mem _ hw), hK, hN⟩
  have hr := B.returns
  have hlocks := B.notSynchronized
  have hin : meth.name = "<init>" := (name_of_methodNamed B.named B.method).1
  have hk0 : k0 < Wd0.length := (List.getElem?_eq_some_iff.mp hb0).1
  have S : c_St G (c_w Wd0 k0 (.inr (4, [.null, .int 0])) []) s.heap s.heap [] := by
    rw [← c_0 hb0]
    exact ⟨hP, va_S.rf, hz⟩
  have hl := lv_entry ([.ref (G.2.2 + k0)]) (n := 1) (Nat.le_of_ble_eq_true rfl)
  rw [lg_entry_eq]
  generalize (lg_sl ([.ref (G.2.2 + k0)]) ++ List.replicate (1 - (lg_sl ([.ref (G.2.2 + k0)])).length) Slot.unset).toArray = ls at hl ⊢
  have hl : lv_has ls 1 [(0, .ref (G.2.2 + k0))] := hl
  refine lv_aload_n C.1 C.2.1 dX4_init_0 rfl (lv_at hl 0 rfl) ?_
  refine W.objInit C.1 C.2.1 C.2.2.1 (C.2.2.2.1 _ ml_X4_3) (C.2.2.2.1 _ im_obj) (C.2.2.2.1 _ co_obj) rfl (by rw [hml]; exact hl.1) rfl dX4_init_1 (Nat.le_of_ble_eq_true rfl) (Nat.le_of_ble_eq_true rfl) ?_
  refine W.eq (g2 := F0 m 4 ls []) rfl ?_
  refine lv_aload_n C.1 C.2.1 dX4_init_4 rfl (lv_at hl 0 rfl) ?_
  refine lv_sipush (v := (4096 : Int32)) C.1 C.2.1 dX4_init_5 (by decide) ?_
  refine d_newa (j := 0) (t0 := 1) (atype := .long) (ty := .long) (N' := 4096) (a0 := (4096, .inr (.inl (fun _ => 0)))) C ac_J rfl rfl (fun _ => rfl) (by decide) (by decide) (Nat.le_of_ble_eq_true rfl) S rfl (Nat.le_of_ble_eq_true rfl) (Nat.le_of_ble_eq_true rfl) dX4_init_8 (fun H S => ?_)
  have S : c_St G (c_w Wd0 k0 (.inr (4, [.null, .int 0])) [zJ G 4096]) s.heap H [] := S
  refine W.widen (k := 1) (n := 4096) (Nat.le_of_ble_eq_true rfl) (Nat.le_of_ble_eq_true rfl) ?_
  refine d_putF (ci := 4) (C := RX4) (T := TX4) (N := 2) (ty := tyX4 0) (fs1 := [.ref (G.2.2 + (Wd0.length + 0)), .int 0]) (v := .ref (G.2.2 + (Wd0.length + 0))) C inlX4 tyX4_ok nmX4 rfl 0 (by decide) fl_X4_9 rfl hin rfl (by decide +kernel) rfl rfl (Nat.le_of_ble_eq_true rfl) rfl hk0 S dX4_init_10 (fun H locs S => ?_)
  have S : c_St G (c_w Wd0 k0 (.inr (4, [.ref (G.2.2 + (Wd0.length + 0)), .int 0])) [zJ G 4096]) s.heap H locs := S
  refine lv_aload_n C.1 C.2.1 dX4_init_13 rfl (lv_at hl 0 rfl) ?_
  refine lv_bipush (v := (-2 : Int32)) C.1 C.2.1 dX4_init_14 (by decide) ?_
  refine d_putI (ci := 4) (C := RX4) (T := TX4) (N := 2) (ty := tyX4 1) (fs1 := [.ref (G.2.2 + (Wd0.length + 0)), .int (-2 : Int32)]) (v := .int (-2 : Int32)) C inlX4 tyX4_ok nmX4 rfl 1 (by decide) fl_X4_15 rfl (by decide +kernel) rfl rfl (Nat.le_of_ble_eq_true rfl) rfl hk0 S dX4_init_16 (fun H locs S => ?_)
  have S : c_St G (c_w Wd0 k0 (.inr (4, [.ref (G.2.2 + (Wd0.length + 0)), .int (-2 : Int32)])) [zJ G 4096]) s.heap H locs := S
  subst hn
  have S : c_St G (Wd0.set k0 (.inr (4, [.ref (G.2.2 + Wd0.length), .int (-2)])) ++ [zJ G 4096]) s.heap H locs := S
  refine W.widen (k := 1) (n := 4096) (Nat.le_of_ble_eq_true rfl) (Nat.le_of_ble_eq_true rfl) ?_
  exact d_ret C hr hlocks dX4_init_19 S
abbrev rm_X5_init : Room := { frames := 1, cells := 6, slots := 12342, locals := 12 }
theorem kM_X5_init : s_M yX5_init cX5_init 1 none 0 := ⟨co_X5_init, in_X5, by decide, by decide, by decide +kernel⟩
set_option maxHeartbeats 4000000 in
set_option maxRecDepth 100000 in
theorem c_X5_init (l : Launch) (G : s_G) (Wd0 : List va_E) (k0 n : Nat) (hn : Wd0.length = n) (hb0 : Wd0[k0]? = some (.inr (5, [.null, .null, .null, .null, .null, .null, .int 0, .int 0]))) : Met l yX5_init (wsU yX5_init cX5_init 1 none) rm_X5_init (va_Pc [.ref (G.2.2 + k0)] (c_Pre G Wd0)) (c_Q G (Wd0.set k0 (.inr (5, [.ref (G.2.2 + (n + 0)), .ref (G.2.2 + (n + 1)), .ref (G.2.2 + (n + 2)), .ref (G.2.2 + (n + 3)), .ref (G.2.2 + (n + 4)), .ref (G.2.2 + (n + 5)), .int 0, .int 0])) ++ [zI G 4096, zI G 4096, zJ G 4096, zI G 18, zI G 18, zI G 18])) 6 12342 (c_A G.2.2) := by
  refine Met.ofW (cc := cX5_init) (maxL := 1) (ret := none) (by decide) rfl ?_
  intro p e s m args below meth c s₁ B hml hv
  obtain ⟨rfl, hP, hz, hK, hN, hao⟩ := hv
  have C : s_C G p s (([.ref (G.2.2 + k0)] : List Value).toArray) m c RX5 cX5_init := ⟨B.exec, B.bytes, findClass_of_methodNamed B.named, fun w hw => atoms_spec (ws := wsU yX5_init cX5_init 1 none) B.pre w (List.mem_cons_of_mem _ hw), hK, hN⟩
  have hr := B.returns
  have hlocks := B.notSynchronized
  have hin : meth.name = "<init>" := (name_of_methodNamed B.named B.method).1
  have hk0 : k0 < Wd0.length := (List.getElem?_eq_some_iff.mp hb0).1
  have S : c_St G (c_w Wd0 k0 (.inr (5, [.null, .null, .null, .null, .null, .null, .int 0, .int 0])) []) s.heap s.heap [] := by
    rw [← c_0 hb0]
    exact ⟨hP, va_S.rf, hz⟩
  have hl := lv_entry ([.ref (G.2.2 + k0)]) (n := 1) (Nat.le_of_ble_eq_true rfl)
  rw [lg_entry_eq]
  generalize (lg_sl ([.ref (G.2.2 + k0)]) ++ List.replicate (1 - (lg_sl ([.ref (G.2.2 + k0)])).length) Slot.unset).toArray = ls at hl ⊢
  have hl : lv_has ls 1 [(0, .ref (G.2.2 + k0))] := hl
  refine lv_aload_n C.1 C.2.1 dX5_init_0 rfl (lv_at hl 0 rfl) ?_
  refine W.objInit C.1 C.2.1 C.2.2.1 (C.2.2.2.1 _ ml_X5_3) (C.2.2.2.1 _ im_obj) (C.2.2.2.1 _ co_obj) rfl (by rw [hml]; exact hl.1) rfl dX5_init_1 (Nat.le_of_ble_eq_true rfl) (Nat.le_of_ble_eq_true rfl) ?_
  refine W.eq (g2 := F0 m 4 ls []) rfl ?_
  refine lv_aload_n C.1 C.2.1 dX5_init_4 rfl (lv_at hl 0 rfl) ?_
  refine lv_sipush (v := (4096 : Int32)) C.1 C.2.1 dX5_init_5 (by decide) ?_
  refine d_newa (j := 0) (t0 := 0) (atype := .int) (ty := .int) (N' := 4096) (a0 := (4096, .inl (fun _ => 0))) C ac_I rfl rfl (fun _ => rfl) (by decide) (by decide) (Nat.le_of_ble_eq_true rfl) S rfl (Nat.le_of_ble_eq_true rfl) (Nat.le_of_ble_eq_true rfl) dX5_init_8 (fun H S => ?_)
  have S : c_St G (c_w Wd0 k0 (.inr (5, [.null, .null, .null, .null, .null, .null, .int 0, .int 0])) [zI G 4096]) s.heap H [] := S
  refine W.widen (k := 1) (n := 4096) (Nat.le_of_ble_eq_true rfl) (Nat.le_of_ble_eq_true rfl) ?_
  refine d_putF (ci := 5) (C := RX5) (T := TX5) (N := 8) (ty := tyX5 0) (fs1 := [.ref (G.2.2 + (Wd0.length + 0)), .null, .null, .null, .null, .null, .int 0, .int 0]) (v := .ref (G.2.2 + (Wd0.length + 0))) C inlX5 tyX5_ok nmX5 rfl 0 (by decide) fl_X5_9 rfl hin rfl (by decide +kernel) rfl rfl (Nat.le_of_ble_eq_true rfl) rfl hk0 S dX5_init_10 (fun H locs S => ?_)
  have S : c_St G (c_w Wd0 k0 (.inr (5, [.ref (G.2.2 + (Wd0.length + 0)), .null, .null, .null, .null, .null, .int 0, .int 0])) [zI G 4096]) s.heap H locs := S
  refine lv_aload_n C.1 C.2.1 dX5_init_13 rfl (lv_at hl 0 rfl) ?_
  refine lv_sipush (v := (4096 : Int32)) C.1 C.2.1 dX5_init_14 (by decide) ?_
  refine d_newa (j := 1) (t0 := 0) (atype := .int) (ty := .int) (N' := 4096) (a0 := (4096, .inl (fun _ => 0))) C ac_I rfl rfl (fun _ => rfl) (by decide) (by decide) (Nat.le_of_ble_eq_true rfl) S rfl (Nat.le_of_ble_eq_true rfl) (Nat.le_of_ble_eq_true rfl) dX5_init_17 (fun H S => ?_)
  have S : c_St G (c_w Wd0 k0 (.inr (5, [.ref (G.2.2 + (Wd0.length + 0)), .null, .null, .null, .null, .null, .int 0, .int 0])) [zI G 4096, zI G 4096]) s.heap H locs := S
  refine W.widen (k := 2) (n := 8192) (Nat.le_of_ble_eq_true rfl) (Nat.le_of_ble_eq_true rfl) ?_
  refine d_putF (ci := 5) (C := RX5) (T := TX5) (N := 8) (ty := tyX5 1) (fs1 := [.ref (G.2.2 + (Wd0.length + 0)), .ref (G.2.2 + (Wd0.length + 1)), .null, .null, .null, .null, .int 0, .int 0]) (v := .ref (G.2.2 + (Wd0.length + 1))) C inlX5 tyX5_ok nmX5 rfl 1 (by decide) fl_X5_15 rfl hin rfl (by decide +kernel) rfl rfl (Nat.le_of_ble_eq_true rfl) rfl hk0 S dX5_init_19 (fun H locs S => ?_)
  have S : c_St G (c_w Wd0 k0 (.inr (5, [.ref (G.2.2 + (Wd0.length + 0)), .ref (G.2.2 + (Wd0.length + 1)), .null, .null, .null, .null, .int 0, .int 0])) [zI G 4096, zI G 4096]) s.heap H locs := S
  refine lv_aload_n C.1 C.2.1 dX5_init_22 rfl (lv_at hl 0 rfl) ?_
  refine lv_sipush (v := (4096 : Int32)) C.1 C.2.1 dX5_init_23 (by decide) ?_
  refine d_newa (j := 2) (t0 := 1) (atype := .long) (ty := .long) (N' := 4096) (a0 := (4096, .inr (.inl (fun _ => 0)))) C ac_J rfl rfl (fun _ => rfl) (by decide) (by decide) (Nat.le_of_ble_eq_true rfl) S rfl (Nat.le_of_ble_eq_true rfl) (Nat.le_of_ble_eq_true rfl) dX5_init_26 (fun H S => ?_)
  have S : c_St G (c_w Wd0 k0 (.inr (5, [.ref (G.2.2 + (Wd0.length + 0)), .ref (G.2.2 + (Wd0.length + 1)), .null, .null, .null, .null, .int 0, .int 0])) [zI G 4096, zI G 4096, zJ G 4096]) s.heap H locs := S
  refine W.widen (k := 3) (n := 12288) (Nat.le_of_ble_eq_true rfl) (Nat.le_of_ble_eq_true rfl) ?_
  refine d_putF (ci := 5) (C := RX5) (T := TX5) (N := 8) (ty := tyX5 2) (fs1 := [.ref (G.2.2 + (Wd0.length + 0)), .ref (G.2.2 + (Wd0.length + 1)), .ref (G.2.2 + (Wd0.length + 2)), .null, .null, .null, .int 0, .int 0]) (v := .ref (G.2.2 + (Wd0.length + 2))) C inlX5 tyX5_ok nmX5 rfl 2 (by decide) fl_X5_18 rfl hin rfl (by decide +kernel) rfl rfl (Nat.le_of_ble_eq_true rfl) rfl hk0 S dX5_init_28 (fun H locs S => ?_)
  have S : c_St G (c_w Wd0 k0 (.inr (5, [.ref (G.2.2 + (Wd0.length + 0)), .ref (G.2.2 + (Wd0.length + 1)), .ref (G.2.2 + (Wd0.length + 2)), .null, .null, .null, .int 0, .int 0])) [zI G 4096, zI G 4096, zJ G 4096]) s.heap H locs := S
  refine lv_aload_n C.1 C.2.1 dX5_init_31 rfl (lv_at hl 0 rfl) ?_
  refine lv_bipush (v := (18 : Int32)) C.1 C.2.1 dX5_init_32 (by decide) ?_
  refine d_newa (j := 3) (t0 := 0) (atype := .int) (ty := .int) (N' := 18) (a0 := (18, .inl (fun _ => 0))) C ac_I rfl rfl (fun _ => rfl) (by decide) (by decide) (Nat.le_of_ble_eq_true rfl) S rfl (Nat.le_of_ble_eq_true rfl) (Nat.le_of_ble_eq_true rfl) dX5_init_34 (fun H S => ?_)
  have S : c_St G (c_w Wd0 k0 (.inr (5, [.ref (G.2.2 + (Wd0.length + 0)), .ref (G.2.2 + (Wd0.length + 1)), .ref (G.2.2 + (Wd0.length + 2)), .null, .null, .null, .int 0, .int 0])) [zI G 4096, zI G 4096, zJ G 4096, zI G 18]) s.heap H locs := S
  refine W.widen (k := 4) (n := 12306) (Nat.le_of_ble_eq_true rfl) (Nat.le_of_ble_eq_true rfl) ?_
  refine d_putF (ci := 5) (C := RX5) (T := TX5) (N := 8) (ty := tyX5 3) (fs1 := [.ref (G.2.2 + (Wd0.length + 0)), .ref (G.2.2 + (Wd0.length + 1)), .ref (G.2.2 + (Wd0.length + 2)), .ref (G.2.2 + (Wd0.length + 3)), .null, .null, .int 0, .int 0]) (v := .ref (G.2.2 + (Wd0.length + 3))) C inlX5 tyX5_ok nmX5 rfl 3 (by decide) fl_X5_22 rfl hin rfl (by decide +kernel) rfl rfl (Nat.le_of_ble_eq_true rfl) rfl hk0 S dX5_init_36 (fun H locs S => ?_)
  have S : c_St G (c_w Wd0 k0 (.inr (5, [.ref (G.2.2 + (Wd0.length + 0)), .ref (G.2.2 + (Wd0.length + 1)), .ref (G.2.2 + (Wd0.length + 2)), .ref (G.2.2 + (Wd0.length + 3)), .null, .null, .int 0, .int 0])) [zI G 4096, zI G 4096, zJ G 4096, zI G 18]) s.heap H locs := S
  refine lv_aload_n C.1 C.2.1 dX5_init_39 rfl (lv_at hl 0 rfl) ?_
  refine lv_bipush (v := (18 : Int32)) C.1 C.2.1 dX5_init_40 (by decide) ?_
  refine d_newa (j := 4) (t0 := 0) (atype := .int) (ty := .int) (N' := 18) (a0 := (18, .inl (fun _ => 0))) C ac_I rfl rfl (fun _ => rfl) (by decide) (by decide) (Nat.le_of_ble_eq_true rfl) S rfl (Nat.le_of_ble_eq_true rfl) (Nat.le_of_ble_eq_true rfl) dX5_init_42 (fun H S => ?_)
  have S : c_St G (c_w Wd0 k0 (.inr (5, [.ref (G.2.2 + (Wd0.length + 0)), .ref (G.2.2 + (Wd0.length + 1)), .ref (G.2.2 + (Wd0.length + 2)), .ref (G.2.2 + (Wd0.length + 3)), .null, .null, .int 0, .int 0])) [zI G 4096, zI G 4096, zJ G 4096, zI G 18, zI G 18]) s.heap H locs := S
  refine W.widen (k := 5) (n := 12324) (Nat.le_of_ble_eq_true rfl) (Nat.le_of_ble_eq_true rfl) ?_
  refine d_putF (ci := 5) (C := RX5) (T := TX5) (N := 8) (ty := tyX5 4) (fs1 := [.ref (G.2.2 + (Wd0.length + 0)), .ref (G.2.2 + (Wd0.length + 1)), .ref (G.2.2 + (Wd0.length + 2)), .ref (G.2.2 + (Wd0.length + 3)), .ref (G.2.2 + (Wd0.length + 4)), .null, .int 0, .int 0]) (v := .ref (G.2.2 + (Wd0.length + 4))) C inlX5 tyX5_ok nmX5 rfl 4 (by decide) fl_X5_25 rfl hin rfl (by decide +kernel) rfl rfl (Nat.le_of_ble_eq_true rfl) rfl hk0 S dX5_init_44 (fun H locs S => ?_)
  have S : c_St G (c_w Wd0 k0 (.inr (5, [.ref (G.2.2 + (Wd0.length + 0)), .ref (G.2.2 + (Wd0.length + 1)), .ref (G.2.2 + (Wd0.length + 2)), .ref (G.2.2 + (Wd0.length + 3)), .ref (G.2.2 + (Wd0.length + 4)), .null, .int 0, .int 0])) [zI G 4096, zI G 4096, zJ G 4096, zI G 18, zI G 18]) s.heap H locs := S
  refine lv_aload_n C.1 C.2.1 dX5_init_47 rfl (lv_at hl 0 rfl) ?_
  refine lv_bipush (v := (18 : Int32)) C.1 C.2.1 dX5_init_48 (by decide) ?_
  refine d_newa (j := 5) (t0 := 0) (atype := .int) (ty := .int) (N' := 18) (a0 := (18, .inl (fun _ => 0))) C ac_I rfl rfl (fun _ => rfl) (by decide) (by decide) (Nat.le_of_ble_eq_true rfl) S rfl (Nat.le_of_ble_eq_true rfl) (Nat.le_of_ble_eq_true rfl) dX5_init_50 (fun H S => ?_)
  have S : c_St G (c_w Wd0 k0 (.inr (5, [.ref (G.2.2 + (Wd0.length + 0)), .ref (G.2.2 + (Wd0.length + 1)), .ref (G.2.2 + (Wd0.length + 2)), .ref (G.2.2 + (Wd0.length + 3)), .ref (G.2.2 + (Wd0.length + 4)), .null, .int 0, .int 0])) [zI G 4096, zI G 4096, zJ G 4096, zI G 18, zI G 18, zI G 18]) s.heap H locs := S
  refine W.widen (k := 6) (n := 12342) (Nat.le_of_ble_eq_true rfl) (Nat.le_of_ble_eq_true rfl) ?_
  refine d_putF (ci := 5) (C := RX5) (T := TX5) (N := 8) (ty := tyX5 5) (fs1 := [.ref (G.2.2 + (Wd0.length + 0)), .ref (G.2.2 + (Wd0.length + 1)), .ref (G.2.2 + (Wd0.length + 2)), .ref (G.2.2 + (Wd0.length + 3)), .ref (G.2.2 + (Wd0.length + 4)), .ref (G.2.2 + (Wd0.length + 5)), .int 0, .int 0]) (v := .ref (G.2.2 + (Wd0.length + 5))) C inlX5 tyX5_ok nmX5 rfl 5 (by decide) fl_X5_28 rfl hin rfl (by decide +kernel) rfl rfl (Nat.le_of_ble_eq_true rfl) rfl hk0 S dX5_init_52 (fun H locs S => ?_)
  have S : c_St G (c_w Wd0 k0 (.inr (5, [.ref (G.2.2 + (Wd0.length + 0)), .ref (G.2.2 + (Wd0.length + 1)), .ref (G.2.2 + (Wd0.length + 2)), .ref (G.2.2 + (Wd0.length + 3)), .ref (G.2.2 + (Wd0.length + 4)), .ref (G.2.2 + (Wd0.length + 5)), .int 0, .int 0])) [zI G 4096, zI G 4096, zJ G 4096, zI G 18, zI G 18, zI G 18]) s.heap H locs := S
  subst hn
  have S : c_St G (Wd0.set k0 (.inr (5, [.ref (G.2.2 + (Wd0.length + 0)), .ref (G.2.2 + (Wd0.length + 1)), .ref (G.2.2 + (Wd0.length + 2)), .ref (G.2.2 + (Wd0.length + 3)), .ref (G.2.2 + (Wd0.length + 4)), .ref (G.2.2 + (Wd0.length + 5)), .int 0, .int 0])) ++ [zI G 4096, zI G 4096, zJ G 4096, zI G 18, zI G 18, zI G 18]) s.heap H locs := S
  refine W.widen (k := 6) (n := 12342) (Nat.le_of_ble_eq_true rfl) (Nat.le_of_ble_eq_true rfl) ?_
  exact d_ret C hr hlocks dX5_init_55 S
abbrev rm_X6_init : Room := { frames := 4, cells := 116, slots := 17158, locals := 74 }
theorem kM_X6_init : s_M yX6_init cX6_init 2 none 0 := ⟨co_X6_init, in_X6, by decide, by decide, by decide +kernel⟩
set_option maxHeartbeats 4000000 in
set_option maxRecDepth 100000 in
theorem c_X6_init (l : Launch) (G : s_G) (Wd0 : List va_E) (k0 n : Nat) (hn : Wd0.length = n) (hb0 : Wd0[k0]? = some (.inr (6, [.null, .null, .null, .null, .null, .null, .null, .null]))) : Met l yX6_init (wsU yX6_init cX6_init 2 none) rm_X6_init (va_Pc [.ref (G.2.2 + k0)] (c_Pre G Wd0)) (c_Q G (Wd0.set k0 (.inr (6, [.ref (G.2.2 + (n + 0)), .ref (G.2.2 + (n + 2)), .ref (G.2.2 + (n + 4)), .ref (G.2.2 + (n + 13)), .ref (G.2.2 + (n + 87)), .ref (G.2.2 + (n + 88)), .ref (G.2.2 + (n + 89)), .ref (G.2.2 + (n + 96))])) ++ [.inr (0, [.ref (G.2.2 + (n + 1)), .int 0]), zI G 60, .inr (0, [.ref (G.2.2 + (n + 3)), .int 0]), zI G 60, oD G (n + 5), aM G (n + 5), zM, zM, zM, zM, zM, zM, zM, .inr (2, [.ref (G.2.2 + (n + 14)), .int 0]), rD G 8 (fun j => some (G.2.2 + ((n + 14) + 1 + 9 * j))), oD G (n + 16), aM G (n + 16), zM, zM, zM, zM, zM, zM, zM, oD G (n + 25), aM G (n + 25), zM, zM, zM, zM, zM, zM, zM, oD G (n + 34), aM G (n + 34), zM, zM, zM, zM, zM, zM, zM, oD G (n + 43), aM G (n + 43), zM, zM, zM, zM, zM, zM, zM, oD G (n + 52), aM G (n + 52), zM, zM, zM, zM, zM, zM, zM, oD G (n + 61), aM G (n + 61), zM, zM, zM, zM, zM, zM, zM, oD G (n + 70), aM G (n + 70), zM, zM, zM, zM, zM, zM, zM, oD G (n + 79), aM G (n + 79), zM, zM, zM, zM, zM, zM, zM, rD G 2 (fun j => some (G.2.2 + (n + 98 + 9 * j))), zZ G 2, .inr (5, [.ref (G.2.2 + ((n + 90) + 0)), .ref (G.2.2 + ((n + 90) + 1)), .ref (G.2.2 + ((n + 90) + 2)), .ref (G.2.2 + ((n + 90) + 3)), .ref (G.2.2 + ((n + 90) + 4)), .ref (G.2.2 + ((n + 90) + 5)), .int 0, .int 0]), zI G 4096, zI G 4096, zJ G 4096, zI G 18, zI G 18, zI G 18, .inr (4, [.ref (G.2.2 + (n + 97)), .int (-2)]), zJ G 4096, oD G (n + 99), aM G (n + 99), zM, zM, zM, zM, zM, zM, zM, oD G (n + 108), aM G (n + 108), zM, zM, zM, zM, zM, zM, zM])) 116 17158 (c_A G.2.2) := by
  refine Met.ofW (cc := cX6_init) (maxL := 2) (ret := none) (by decide) rfl ?_
  intro p e s m args below meth c s₁ B hml hv
  obtain ⟨rfl, hP, hz, hK, hN, hao⟩ := hv
  have C : s_C G p s (([.ref (G.2.2 + k0)] : List Value).toArray) m c RX6 cX6_init := ⟨B.exec, B.bytes, findClass_of_methodNamed B.named, fun w hw => atoms_spec (ws := wsU yX6_init cX6_init 2 none) B.pre w (List.mem_cons_of_mem _ hw), hK, hN⟩
  have hr := B.returns
  have hlocks := B.notSynchronized
  have hin : meth.name = "<init>" := (name_of_methodNamed B.named B.method).1
  have hk0 : k0 < Wd0.length := (List.getElem?_eq_some_iff.mp hb0).1
  have S : c_St G (c_w Wd0 k0 (.inr (6, [.null, .null, .null, .null, .null, .null, .null, .null])) []) s.heap s.heap [] := by
    rw [← c_0 hb0]
    exact ⟨hP, va_S.rf, hz⟩
  have hl := lv_entry ([.ref (G.2.2 + k0)]) (n := 2) (Nat.le_of_ble_eq_true rfl)
  rw [lg_entry_eq]
  generalize (lg_sl ([.ref (G.2.2 + k0)]) ++ List.replicate (2 - (lg_sl ([.ref (G.2.2 + k0)])).length) Slot.unset).toArray = ls at hl ⊢
  have hl : lv_has ls 2 [(0, .ref (G.2.2 + k0))] := hl
  refine lv_aload_n C.1 C.2.1 dX6_init_0 rfl (lv_at hl 0 rfl) ?_
  refine W.objInit C.1 C.2.1 C.2.2.1 (C.2.2.2.1 _ ml_X6_1) (C.2.2.2.1 _ im_obj) (C.2.2.2.1 _ co_obj) rfl (by rw [hml]; exact hl.1) rfl dX6_init_1 (Nat.le_of_ble_eq_true rfl) (Nat.le_of_ble_eq_true rfl) ?_
  refine W.eq (g2 := F0 m 4 ls []) rfl ?_
  refine lv_aload_n C.1 C.2.1 dX6_init_4 rfl (lv_at hl 0 rfl) ?_
  refine d_new (j := 0) (ci := 0) (C := RX0) (T := TX0) (N := 2) (fs := [.null, .int 0]) C inlX0 tyX0_ok kl_X6_7 ia_X0 in_X0 rfl (fun j hj => by rcases (show j = 0 ∨ j = 1 by omega) with rfl | rfl <;> rfl) S rfl (Nat.le_of_ble_eq_true rfl) (Nat.le_of_ble_eq_true rfl) dX6_init_5 (fun H S => ?_)
  have S : c_St G (c_w Wd0 k0 (.inr (6, [.null, .null, .null, .null, .null, .null, .null, .null])) [.inr (0, [.null, .int 0])]) s.heap H [] := S
  refine W.widen (k := 1) (n := 2) (Nat.le_of_ble_eq_true rfl) (Nat.le_of_ble_eq_true rfl) ?_
  refine lv_dup C.1 C.2.1 dX6_init_8 rfl ?_
  refine d_call (k := Wd0.length + 0) (rest := [.ref (G.2.2 + (Wd0.length + 0)), .ref (G.2.2 + k0)]) (mc := 1) (ms := 60) C hml hao (c_X0_init l G _ (Wd0.length + 0) (Wd0.length + 1) (c_ln rfl) (c_l2 rfl)) kM_X0_init im_X0_init rfl (Or.inl nm_X6_9) ⟨rfl, rfl⟩ ⟨(Nat.le_of_ble_eq_true rfl), (Nat.le_of_ble_eq_true rfl)⟩ ⟨(Nat.le_of_ble_eq_true rfl), (Nat.le_of_ble_eq_true rfl)⟩ S hl.1 (Nat.le_of_ble_eq_true rfl) dX6_init_9 (fun H locs S => ?_)
  have S : c_St G (c_w Wd0 k0 (.inr (6, [.null, .null, .null, .null, .null, .null, .null, .null])) [.inr (0, [.ref (G.2.2 + (Wd0.length + 1)), .int 0]), zI G 60]) s.heap H locs := by
    rw [d_conv (E1 := [.inr (0, [.ref (G.2.2 + (Wd0.length + 1)), .int 0]), zI G 60]) rfl] at S
    exact S
  refine W.widen (k := 2) (n := 62) (Nat.le_of_ble_eq_true rfl) (Nat.le_of_ble_eq_true rfl) ?_
  refine d_putF (ci := 6) (C := RX6) (T := TX6) (N := 8) (ty := tyX6 0) (fs1 := [.ref (G.2.2 + (Wd0.length + 0)), .null, .null, .null, .null, .null, .null, .null]) (v := .ref (G.2.2 + (Wd0.length + 0))) C inlX6 tyX6_ok nmX6 rfl 0 (by decide) fl_X6_10 rfl hin rfl (by decide +kernel) rfl rfl (Nat.le_of_ble_eq_true rfl) rfl hk0 S dX6_init_12 (fun H locs S => ?_)
  have S : c_St G (c_w Wd0 k0 (.inr (6, [.ref (G.2.2 + (Wd0.length + 0)), .null, .null, .null, .null, .null, .null, .null])) [.inr (0, [.ref (G.2.2 + (Wd0.length + 1)), .int 0]), zI G 60]) s.heap H locs := S
  refine lv_aload_n C.1 C.2.1 dX6_init_15 rfl (lv_at hl 0 rfl) ?_
  refine d_new (j := 2) (ci := 0) (C := RX0) (T := TX0) (N := 2) (fs := [.null, .int 0]) C inlX0 tyX0_ok kl_X6_7 ia_X0 in_X0 rfl (fun j hj => by rcases (show j = 0 ∨ j = 1 by omega) with rfl | rfl <;> rfl) S rfl (Nat.le_of_ble_eq_true rfl) (Nat.le_of_ble_eq_true rfl) dX6_init_16 (fun H S => ?_)
  have S : c_St G (c_w Wd0 k0 (.inr (6, [.ref (G.2.2 + (Wd0.length + 0)), .null, .null, .null, .null, .null, .null, .null])) [.inr (0, [.ref (G.2.2 + (Wd0.length + 1)), .int 0]), zI G 60, .inr (0, [.null, .int 0])]) s.heap H locs := S
  refine W.widen (k := 3) (n := 64) (Nat.le_of_ble_eq_true rfl) (Nat.le_of_ble_eq_true rfl) ?_
  refine lv_dup C.1 C.2.1 dX6_init_19 rfl ?_
  refine d_call (k := Wd0.length + 2) (rest := [.ref (G.2.2 + (Wd0.length + 2)), .ref (G.2.2 + k0)]) (mc := 1) (ms := 60) C hml hao (c_X0_init l G _ (Wd0.length + 2) (Wd0.length + 3) (c_ln rfl) (c_l2 rfl)) kM_X0_init im_X0_init rfl (Or.inl nm_X6_9) ⟨rfl, rfl⟩ ⟨(Nat.le_of_ble_eq_true rfl), (Nat.le_of_ble_eq_true rfl)⟩ ⟨(Nat.le_of_ble_eq_true rfl), (Nat.le_of_ble_eq_true rfl)⟩ S hl.1 (Nat.le_of_ble_eq_true rfl) dX6_init_20 (fun H locs S => ?_)
  have S : c_St G (c_w Wd0 k0 (.inr (6, [.ref (G.2.2 + (Wd0.length + 0)), .null, .null, .null, .null, .null, .null, .null])) [.inr (0, [.ref (G.2.2 + (Wd0.length + 1)), .int 0]), zI G 60, .inr (0, [.ref (G.2.2 + (Wd0.length + 3)), .int 0]), zI G 60]) s.heap H locs := by
    rw [d_conv (E1 := [.inr (0, [.ref (G.2.2 + (Wd0.length + 1)), .int 0]), zI G 60, .inr (0, [.ref (G.2.2 + (Wd0.length + 3)), .int 0]), zI G 60]) rfl] at S
    exact S
  refine W.widen (k := 4) (n := 124) (Nat.le_of_ble_eq_true rfl) (Nat.le_of_ble_eq_true rfl) ?_
  refine d_putF (ci := 6) (C := RX6) (T := TX6) (N := 8) (ty := tyX6 1) (fs1 := [.ref (G.2.2 + (Wd0.length + 0)), .ref (G.2.2 + (Wd0.length + 2)), .null, .null, .null, .null, .null, .null]) (v := .ref (G.2.2 + (Wd0.length + 2))) C inlX6 tyX6_ok nmX6 rfl 1 (by decide) fl_X6_16 rfl hin rfl (by decide +kernel) rfl rfl (Nat.le_of_ble_eq_true rfl) rfl hk0 S dX6_init_23 (fun H locs S => ?_)
  have S : c_St G (c_w Wd0 k0 (.inr (6, [.ref (G.2.2 + (Wd0.length + 0)), .ref (G.2.2 + (Wd0.length + 2)), .null, .null, .null, .null, .null, .null])) [.inr (0, [.ref (G.2.2 + (Wd0.length + 1)), .int 0]), zI G 60, .inr (0, [.ref (G.2.2 + (Wd0.length + 3)), .int 0]), zI G 60]) s.heap H locs := S
  refine lv_aload_n C.1 C.2.1 dX6_init_26 rfl (lv_at hl 0 rfl) ?_
  refine d_new (j := 4) (ci := 1) (C := RX1) (T := TX1) (N := 4) (fs := [.null, .null, .int 0, .int 0]) C inlX1 tyX1_ok kl_X6_19 ia_X1 in_X1 rfl (fun j hj => by rcases (show j = 0 ∨ j = 1 ∨ j = 2 ∨ j = 3 by omega) with rfl | rfl | rfl | rfl <;> rfl) S rfl (Nat.le_of_ble_eq_true rfl) (Nat.le_of_ble_eq_true rfl) dX6_init_27 (fun H S => ?_)
  have S : c_St G (c_w Wd0 k0 (.inr (6, [.ref (G.2.2 + (Wd0.length + 0)), .ref (G.2.2 + (Wd0.length + 2)), .null, .null, .null, .null, .null, .null])) [.inr (0, [.ref (G.2.2 + (Wd0.length + 1)), .int 0]), zI G 60, .inr (0, [.ref (G.2.2 + (Wd0.length + 3)), .int 0]), zI G 60, zD]) s.heap H locs := S
  refine W.widen (k := 5) (n := 128) (Nat.le_of_ble_eq_true rfl) (Nat.le_of_ble_eq_true rfl) ?_
  refine lv_dup C.1 C.2.1 dX6_init_30 rfl ?_
  refine d_call (k := Wd0.length + 4) (rest := [.ref (G.2.2 + (Wd0.length + 4)), .ref (G.2.2 + k0)]) (mc := 8) (ms := 48) C hml hao (c_X1_init l G _ (Wd0.length + 4) (Wd0.length + 5) (c_ln rfl) (c_l2 rfl)) kM_X1_init im_X1_init rfl (Or.inl nm_X6_21) ⟨rfl, rfl⟩ ⟨(Nat.le_of_ble_eq_true rfl), (Nat.le_of_ble_eq_true rfl)⟩ ⟨(Nat.le_of_ble_eq_true rfl), (Nat.le_of_ble_eq_true rfl)⟩ S hl.1 (Nat.le_of_ble_eq_true rfl) dX6_init_31 (fun H locs S => ?_)
  have S : c_St G (c_w Wd0 k0 (.inr (6, [.ref (G.2.2 + (Wd0.length + 0)), .ref (G.2.2 + (Wd0.length + 2)), .null, .null, .null, .null, .null, .null])) [.inr (0, [.ref (G.2.2 + (Wd0.length + 1)), .int 0]), zI G 60, .inr (0, [.ref (G.2.2 + (Wd0.length + 3)), .int 0]), zI G 60, oD G (Wd0.length + 5), aM G (Wd0.length + 5), zM, zM, zM, zM, zM, zM, zM]) s.heap H locs := by
    rw [d_conv (E1 := [.inr (0, [.ref (G.2.2 + (Wd0.length + 1)), .int 0]), zI G 60, .inr (0, [.ref (G.2.2 + (Wd0.length + 3)), .int 0]), zI G 60, oD G (Wd0.length + 5), aM G (Wd0.length + 5), zM, zM, zM, zM, zM, zM, zM]) rfl] at S
    exact S
  refine W.widen (k := 13) (n := 176) (Nat.le_of_ble_eq_true rfl) (Nat.le_of_ble_eq_true rfl) ?_
  refine d_putF (ci := 6) (C := RX6) (T := TX6) (N := 8) (ty := tyX6 2) (fs1 := [.ref (G.2.2 + (Wd0.length + 0)), .ref (G.2.2 + (Wd0.length + 2)), .ref (G.2.2 + (Wd0.length + 4)), .null, .null, .null, .null, .null]) (v := .ref (G.2.2 + (Wd0.length + 4))) C inlX6 tyX6_ok nmX6 rfl 2 (by decide) fl_X6_22 rfl hin rfl (by decide +kernel) rfl rfl (Nat.le_of_ble_eq_true rfl) rfl hk0 S dX6_init_34 (fun H locs S => ?_)
  have S : c_St G (c_w Wd0 k0 (.inr (6, [.ref (G.2.2 + (Wd0.length + 0)), .ref (G.2.2 + (Wd0.length + 2)), .ref (G.2.2 + (Wd0.length + 4)), .null, .null, .null, .null, .null])) [.inr (0, [.ref (G.2.2 + (Wd0.length + 1)), .int 0]), zI G 60, .inr (0, [.ref (G.2.2 + (Wd0.length + 3)), .int 0]), zI G 60, oD G (Wd0.length + 5), aM G (Wd0.length + 5), zM, zM, zM, zM, zM, zM, zM]) s.heap H locs := S
  refine lv_aload_n C.1 C.2.1 dX6_init_37 rfl (lv_at hl 0 rfl) ?_
  refine d_new (j := 13) (ci := 2) (C := RX2) (T := TX2) (N := 2) (fs := [.null, .int 0]) C inlX2 tyX2_ok kl_X6_26 ia_X2 in_X2 rfl (fun j hj => by rcases (show j = 0 ∨ j = 1 by omega) with rfl | rfl <;> rfl) S rfl (Nat.le_of_ble_eq_true rfl) (Nat.le_of_ble_eq_true rfl) dX6_init_38 (fun H S => ?_)
  have S : c_St G (c_w Wd0 k0 (.inr (6, [.ref (G.2.2 + (Wd0.length + 0)), .ref (G.2.2 + (Wd0.length + 2)), .ref (G.2.2 + (Wd0.length + 4)), .null, .null, .null, .null, .null])) [.inr (0, [.ref (G.2.2 + (Wd0.length + 1)), .int 0]), zI G 60, .inr (0, [.ref (G.2.2 + (Wd0.length + 3)), .int 0]), zI G 60, oD G (Wd0.length + 5), aM G (Wd0.length + 5), zM, zM, zM, zM, zM, zM, zM, .inr (2, [.null, .int 0])]) s.heap H locs := S
  refine W.widen (k := 14) (n := 178) (Nat.le_of_ble_eq_true rfl) (Nat.le_of_ble_eq_true rfl) ?_
  refine lv_dup C.1 C.2.1 dX6_init_41 rfl ?_
  refine d_call (k := Wd0.length + 13) (rest := [.ref (G.2.2 + (Wd0.length + 13)), .ref (G.2.2 + k0)]) (mc := 73) (ms := 424) C hml hao (c_X2_init l G _ (Wd0.length + 13) (Wd0.length + 14) (c_ln rfl) (c_l2 rfl)) kM_X2_init im_X2_init rfl (Or.inl nm_X6_28) ⟨rfl, rfl⟩ ⟨(Nat.le_of_ble_eq_true rfl), (Nat.le_of_ble_eq_true rfl)⟩ ⟨(Nat.le_of_ble_eq_true rfl), (Nat.le_of_ble_eq_true rfl)⟩ S hl.1 (Nat.le_of_ble_eq_true rfl) dX6_init_42 (fun H locs S => ?_)
  have S : c_St G (c_w Wd0 k0 (.inr (6, [.ref (G.2.2 + (Wd0.length + 0)), .ref (G.2.2 + (Wd0.length + 2)), .ref (G.2.2 + (Wd0.length + 4)), .null, .null, .null, .null, .null])) [.inr (0, [.ref (G.2.2 + (Wd0.length + 1)), .int 0]), zI G 60, .inr (0, [.ref (G.2.2 + (Wd0.length + 3)), .int 0]), zI G 60, oD G (Wd0.length + 5), aM G (Wd0.length + 5), zM, zM, zM, zM, zM, zM, zM, .inr (2, [.ref (G.2.2 + (Wd0.length + 14)), .int 0]), rD G 8 (fun j => some (G.2.2 + ((Wd0.length + 14) + 1 + 9 * j))), oD G (Wd0.length + 16), aM G (Wd0.length + 16), zM, zM, zM, zM, zM, zM, zM, oD G (Wd0.length + 25), aM G (Wd0.length + 25), zM, zM, zM, zM, zM, zM, zM, oD G (Wd0.length + 34), aM G (Wd0.length + 34), zM, zM, zM, zM, zM, zM, zM, oD G (Wd0.length + 43), aM G (Wd0.length + 43), zM, zM, zM, zM, zM, zM, zM, oD G (Wd0.length + 52), aM G (Wd0.length + 52), zM, zM, zM, zM, zM, zM, zM, oD G (Wd0.length + 61), aM G (Wd0.length + 61), zM, zM, zM, zM, zM, zM, zM, oD G (Wd0.length + 70), aM G (Wd0.length + 70), zM, zM, zM, zM, zM, zM, zM, oD G (Wd0.length + 79), aM G (Wd0.length + 79), zM, zM, zM, zM, zM, zM, zM]) s.heap H locs := by
    rw [d_conv (E1 := [.inr (0, [.ref (G.2.2 + (Wd0.length + 1)), .int 0]), zI G 60, .inr (0, [.ref (G.2.2 + (Wd0.length + 3)), .int 0]), zI G 60, oD G (Wd0.length + 5), aM G (Wd0.length + 5), zM, zM, zM, zM, zM, zM, zM, .inr (2, [.ref (G.2.2 + (Wd0.length + 14)), .int 0]), rD G 8 (fun j => some (G.2.2 + ((Wd0.length + 14) + 1 + 9 * j))), oD G (Wd0.length + 16), aM G (Wd0.length + 16), zM, zM, zM, zM, zM, zM, zM, oD G (Wd0.length + 25), aM G (Wd0.length + 25), zM, zM, zM, zM, zM, zM, zM, oD G (Wd0.length + 34), aM G (Wd0.length + 34), zM, zM, zM, zM, zM, zM, zM, oD G (Wd0.length + 43), aM G (Wd0.length + 43), zM, zM, zM, zM, zM, zM, zM, oD G (Wd0.length + 52), aM G (Wd0.length + 52), zM, zM, zM, zM, zM, zM, zM, oD G (Wd0.length + 61), aM G (Wd0.length + 61), zM, zM, zM, zM, zM, zM, zM, oD G (Wd0.length + 70), aM G (Wd0.length + 70), zM, zM, zM, zM, zM, zM, zM, oD G (Wd0.length + 79), aM G (Wd0.length + 79), zM, zM, zM, zM, zM, zM, zM]) rfl] at S
    exact S
  refine W.widen (k := 87) (n := 602) (Nat.le_of_ble_eq_true rfl) (Nat.le_of_ble_eq_true rfl) ?_
  refine d_putF (ci := 6) (C := RX6) (T := TX6) (N := 8) (ty := tyX6 3) (fs1 := [.ref (G.2.2 + (Wd0.length + 0)), .ref (G.2.2 + (Wd0.length + 2)), .ref (G.2.2 + (Wd0.length + 4)), .ref (G.2.2 + (Wd0.length + 13)), .null, .null, .null, .null]) (v := .ref (G.2.2 + (Wd0.length + 13))) C inlX6 tyX6_ok nmX6 rfl 3 (by decide) fl_X6_29 rfl hin rfl (by decide +kernel) rfl rfl (Nat.le_of_ble_eq_true rfl) rfl hk0 S dX6_init_45 (fun H locs S => ?_)
  have S : c_St G (c_w Wd0 k0 (.inr (6, [.ref (G.2.2 + (Wd0.length + 0)), .ref (G.2.2 + (Wd0.length + 2)), .ref (G.2.2 + (Wd0.length + 4)), .ref (G.2.2 + (Wd0.length + 13)), .null, .null, .null, .null])) [.inr (0, [.ref (G.2.2 + (Wd0.length + 1)), .int 0]), zI G 60, .inr (0, [.ref (G.2.2 + (Wd0.length + 3)), .int 0]), zI G 60, oD G (Wd0.length + 5), aM G (Wd0.length + 5), zM, zM, zM, zM, zM, zM, zM, .inr (2, [.ref (G.2.2 + (Wd0.length + 14)), .int 0]), rD G 8 (fun j => some (G.2.2 + ((Wd0.length + 14) + 1 + 9 * j))), oD G (Wd0.length + 16), aM G (Wd0.length + 16), zM, zM, zM, zM, zM, zM, zM, oD G (Wd0.length + 25), aM G (Wd0.length + 25), zM, zM, zM, zM, zM, zM, zM, oD G (Wd0.length + 34), aM G (Wd0.length + 34), zM, zM, zM, zM, zM, zM, zM, oD G (Wd0.length + 43), aM G (Wd0.length + 43), zM, zM, zM, zM, zM, zM, zM, oD G (Wd0.length + 52), aM G (Wd0.length + 52), zM, zM, zM, zM, zM, zM, zM, oD G (Wd0.length + 61), aM G (Wd0.length + 61), zM, zM, zM, zM, zM, zM, zM, oD G (Wd0.length + 70), aM G (Wd0.length + 70), zM, zM, zM, zM, zM, zM, zM, oD G (Wd0.length + 79), aM G (Wd0.length + 79), zM, zM, zM, zM, zM, zM, zM]) s.heap H locs := S
  refine lv_aload_n C.1 C.2.1 dX6_init_48 rfl (lv_at hl 0 rfl) ?_
  refine lv_iconst (v := (2 : Int32)) C.1 C.2.1 dX6_init_49 (by decide) ?_
  refine d_newq (j := 87) (t0 := 4) (N' := 2) C hao.2 kl_X6_19 rfl (by decide) (by decide) (Nat.le_of_ble_eq_true rfl) S rfl (Nat.le_of_ble_eq_true rfl) (Nat.le_of_ble_eq_true rfl) dX6_init_50 (fun H S => ?_)
  have S : c_St G (c_w Wd0 k0 (.inr (6, [.ref (G.2.2 + (Wd0.length + 0)), .ref (G.2.2 + (Wd0.length + 2)), .ref (G.2.2 + (Wd0.length + 4)), .ref (G.2.2 + (Wd0.length + 13)), .null, .null, .null, .null])) [.inr (0, [.ref (G.2.2 + (Wd0.length + 1)), .int 0]), zI G 60, .inr (0, [.ref (G.2.2 + (Wd0.length + 3)), .int 0]), zI G 60, oD G (Wd0.length + 5), aM G (Wd0.length + 5), zM, zM, zM, zM, zM, zM, zM, .inr (2, [.ref (G.2.2 + (Wd0.length + 14)), .int 0]), rD G 8 (fun j => some (G.2.2 + ((Wd0.length + 14) + 1 + 9 * j))), oD G (Wd0.length + 16), aM G (Wd0.length + 16), zM, zM, zM, zM, zM, zM, zM, oD G (Wd0.length + 25), aM G (Wd0.length + 25), zM, zM, zM, zM, zM, zM, zM, oD G (Wd0.length + 34), aM G (Wd0.length + 34), zM, zM, zM, zM, zM, zM, zM, oD G (Wd0.length + 43), aM G (Wd0.length + 43), zM, zM, zM, zM, zM, zM, zM, oD G (Wd0.length + 52), aM G (Wd0.length + 52), zM, zM, zM, zM, zM, zM, zM, oD G (Wd0.length + 61), aM G (Wd0.length + 61), zM, zM, zM, zM, zM, zM, zM, oD G (Wd0.length + 70), aM G (Wd0.length + 70), zM, zM, zM, zM, zM, zM, zM, oD G (Wd0.length + 79), aM G (Wd0.length + 79), zM, zM, zM, zM, zM, zM, zM, rD G 2 (fun _ => none)]) s.heap H locs := S
  refine W.widen (k := 88) (n := 604) (Nat.le_of_ble_eq_true rfl) (Nat.le_of_ble_eq_true rfl) ?_
  refine d_putF (ci := 6) (C := RX6) (T := TX6) (N := 8) (ty := tyX6 4) (fs1 := [.ref (G.2.2 + (Wd0.length + 0)), .ref (G.2.2 + (Wd0.length + 2)), .ref (G.2.2 + (Wd0.length + 4)), .ref (G.2.2 + (Wd0.length + 13)), .ref (G.2.2 + (Wd0.length + 87)), .null, .null, .null]) (v := .ref (G.2.2 + (Wd0.length + 87))) C inlX6 tyX6_ok nmX6 rfl 4 (by decide) fl_X6_33 rfl hin rfl (by decide +kernel) rfl rfl (Nat.le_of_ble_eq_true rfl) rfl hk0 S dX6_init_53 (fun H locs S => ?_)
  have S : c_St G (c_w Wd0 k0 (.inr (6, [.ref (G.2.2 + (Wd0.length + 0)), .ref (G.2.2 + (Wd0.length + 2)), .ref (G.2.2 + (Wd0.length + 4)), .ref (G.2.2 + (Wd0.length + 13)), .ref (G.2.2 + (Wd0.length + 87)), .null, .null, .null])) [.inr (0, [.ref (G.2.2 + (Wd0.length + 1)), .int 0]), zI G 60, .inr (0, [.ref (G.2.2 + (Wd0.length + 3)), .int 0]), zI G 60, oD G (Wd0.length + 5), aM G (Wd0.length + 5), zM, zM, zM, zM, zM, zM, zM, .inr (2, [.ref (G.2.2 + (Wd0.length + 14)), .int 0]), rD G 8 (fun j => some (G.2.2 + ((Wd0.length + 14) + 1 + 9 * j))), oD G (Wd0.length + 16), aM G (Wd0.length + 16), zM, zM, zM, zM, zM, zM, zM, oD G (Wd0.length + 25), aM G (Wd0.length + 25), zM, zM, zM, zM, zM, zM, zM, oD G (Wd0.length + 34), aM G (Wd0.length + 34), zM, zM, zM, zM, zM, zM, zM, oD G (Wd0.length + 43), aM G (Wd0.length + 43), zM, zM, zM, zM, zM, zM, zM, oD G (Wd0.length + 52), aM G (Wd0.length + 52), zM, zM, zM, zM, zM, zM, zM, oD G (Wd0.length + 61), aM G (Wd0.length + 61), zM, zM, zM, zM, zM, zM, zM, oD G (Wd0.length + 70), aM G (Wd0.length + 70), zM, zM, zM, zM, zM, zM, zM, oD G (Wd0.length + 79), aM G (Wd0.length + 79), zM, zM, zM, zM, zM, zM, zM, rD G 2 (fun _ => none)]) s.heap H locs := S
  refine lv_aload_n C.1 C.2.1 dX6_init_56 rfl (lv_at hl 0 rfl) ?_
  refine lv_iconst (v := (2 : Int32)) C.1 C.2.1 dX6_init_57 (by decide) ?_
  refine d_newa (j := 88) (t0 := 2) (atype := .boolean) (ty := .boolean) (N' := 2) (a0 := (2, .inl (fun _ => 0))) C ac_Z rfl rfl (fun _ => rfl) (by decide) (by decide) (Nat.le_of_ble_eq_true rfl) S rfl (Nat.le_of_ble_eq_true rfl) (Nat.le_of_ble_eq_true rfl) dX6_init_58 (fun H S => ?_)
  have S : c_St G (c_w Wd0 k0 (.inr (6, [.ref (G.2.2 + (Wd0.length + 0)), .ref (G.2.2 + (Wd0.length + 2)), .ref (G.2.2 + (Wd0.length + 4)), .ref (G.2.2 + (Wd0.length + 13)), .ref (G.2.2 + (Wd0.length + 87)), .null, .null, .null])) [.inr (0, [.ref (G.2.2 + (Wd0.length + 1)), .int 0]), zI G 60, .inr (0, [.ref (G.2.2 + (Wd0.length + 3)), .int 0]), zI G 60, oD G (Wd0.length + 5), aM G (Wd0.length + 5), zM, zM, zM, zM, zM, zM, zM, .inr (2, [.ref (G.2.2 + (Wd0.length + 14)), .int 0]), rD G 8 (fun j => some (G.2.2 + ((Wd0.length + 14) + 1 + 9 * j))), oD G (Wd0.length + 16), aM G (Wd0.length + 16), zM, zM, zM, zM, zM, zM, zM, oD G (Wd0.length + 25), aM G (Wd0.length + 25), zM, zM, zM, zM, zM, zM, zM, oD G (Wd0.length + 34), aM G (Wd0.length + 34), zM, zM, zM, zM, zM, zM, zM, oD G (Wd0.length + 43), aM G (Wd0.length + 43), zM, zM, zM, zM, zM, zM, zM, oD G (Wd0.length + 52), aM G (Wd0.length + 52), zM, zM, zM, zM, zM, zM, zM, oD G (Wd0.length + 61), aM G (Wd0.length + 61), zM, zM, zM, zM, zM, zM, zM, oD G (Wd0.length + 70), aM G (Wd0.length + 70), zM, zM, zM, zM, zM, zM, zM, oD G (Wd0.length + 79), aM G (Wd0.length + 79), zM, zM, zM, zM, zM, zM, zM, rD G 2 (fun _ => none), zZ G 2]) s.heap H locs := S
  refine W.widen (k := 89) (n := 606) (Nat.le_of_ble_eq_true rfl) (Nat.le_of_ble_eq_true rfl) ?_
  refine d_putF (ci := 6) (C := RX6) (T := TX6) (N := 8) (ty := tyX6 5) (fs1 := [.ref (G.2.2 + (Wd0.length + 0)), .ref (G.2.2 + (Wd0.length + 2)), .ref (G.2.2 + (Wd0.length + 4)), .ref (G.2.2 + (Wd0.length + 13)), .ref (G.2.2 + (Wd0.length + 87)), .ref (G.2.2 + (Wd0.length + 88)), .null, .null]) (v := .ref (G.2.2 + (Wd0.length + 88))) C inlX6 tyX6_ok nmX6 rfl 5 (by decide) fl_X6_37 rfl hin rfl (by decide +kernel) rfl rfl (Nat.le_of_ble_eq_true rfl) rfl hk0 S dX6_init_60 (fun H locs S => ?_)
  have S : c_St G (c_w Wd0 k0 (.inr (6, [.ref (G.2.2 + (Wd0.length + 0)), .ref (G.2.2 + (Wd0.length + 2)), .ref (G.2.2 + (Wd0.length + 4)), .ref (G.2.2 + (Wd0.length + 13)), .ref (G.2.2 + (Wd0.length + 87)), .ref (G.2.2 + (Wd0.length + 88)), .null, .null])) [.inr (0, [.ref (G.2.2 + (Wd0.length + 1)), .int 0]), zI G 60, .inr (0, [.ref (G.2.2 + (Wd0.length + 3)), .int 0]), zI G 60, oD G (Wd0.length + 5), aM G (Wd0.length + 5), zM, zM, zM, zM, zM, zM, zM, .inr (2, [.ref (G.2.2 + (Wd0.length + 14)), .int 0]), rD G 8 (fun j => some (G.2.2 + ((Wd0.length + 14) + 1 + 9 * j))), oD G (Wd0.length + 16), aM G (Wd0.length + 16), zM, zM, zM, zM, zM, zM, zM, oD G (Wd0.length + 25), aM G (Wd0.length + 25), zM, zM, zM, zM, zM, zM, zM, oD G (Wd0.length + 34), aM G (Wd0.length + 34), zM, zM, zM, zM, zM, zM, zM, oD G (Wd0.length + 43), aM G (Wd0.length + 43), zM, zM, zM, zM, zM, zM, zM, oD G (Wd0.length + 52), aM G (Wd0.length + 52), zM, zM, zM, zM, zM, zM, zM, oD G (Wd0.length + 61), aM G (Wd0.length + 61), zM, zM, zM, zM, zM, zM, zM, oD G (Wd0.length + 70), aM G (Wd0.length + 70), zM, zM, zM, zM, zM, zM, zM, oD G (Wd0.length + 79), aM G (Wd0.length + 79), zM, zM, zM, zM, zM, zM, zM, rD G 2 (fun _ => none), zZ G 2]) s.heap H locs := S
  refine lv_aload_n C.1 C.2.1 dX6_init_63 rfl (lv_at hl 0 rfl) ?_
  refine d_new (j := 89) (ci := 5) (C := RX5) (T := TX5) (N := 8) (fs := [.null, .null, .null, .null, .null, .null, .int 0, .int 0]) C inlX5 tyX5_ok kl_X6_41 ia_X5 in_X5 rfl (fun j hj => by rcases (show j = 0 ∨ j = 1 ∨ j = 2 ∨ j = 3 ∨ j = 4 ∨ j = 5 ∨ j = 6 ∨ j = 7 by omega) with rfl | rfl | rfl | rfl | rfl | rfl | rfl | rfl <;> rfl) S rfl (Nat.le_of_ble_eq_true rfl) (Nat.le_of_ble_eq_true rfl) dX6_init_64 (fun H S => ?_)
  have S : c_St G (c_w Wd0 k0 (.inr (6, [.ref (G.2.2 + (Wd0.length + 0)), .ref (G.2.2 + (Wd0.length + 2)), .ref (G.2.2 + (Wd0.length + 4)), .ref (G.2.2 + (Wd0.length + 13)), .ref (G.2.2 + (Wd0.length + 87)), .ref (G.2.2 + (Wd0.length + 88)), .null, .null])) [.inr (0, [.ref (G.2.2 + (Wd0.length + 1)), .int 0]), zI G 60, .inr (0, [.ref (G.2.2 + (Wd0.length + 3)), .int 0]), zI G 60, oD G (Wd0.length + 5), aM G (Wd0.length + 5), zM, zM, zM, zM, zM, zM, zM, .inr (2, [.ref (G.2.2 + (Wd0.length + 14)), .int 0]), rD G 8 (fun j => some (G.2.2 + ((Wd0.length + 14) + 1 + 9 * j))), oD G (Wd0.length + 16), aM G (Wd0.length + 16), zM, zM, zM, zM, zM, zM, zM, oD G (Wd0.length + 25), aM G (Wd0.length + 25), zM, zM, zM, zM, zM, zM, zM, oD G (Wd0.length + 34), aM G (Wd0.length + 34), zM, zM, zM, zM, zM, zM, zM, oD G (Wd0.length + 43), aM G (Wd0.length + 43), zM, zM, zM, zM, zM, zM, zM, oD G (Wd0.length + 52), aM G (Wd0.length + 52), zM, zM, zM, zM, zM, zM, zM, oD G (Wd0.length + 61), aM G (Wd0.length + 61), zM, zM, zM, zM, zM, zM, zM, oD G (Wd0.length + 70), aM G (Wd0.length + 70), zM, zM, zM, zM, zM, zM, zM, oD G (Wd0.length + 79), aM G (Wd0.length + 79), zM, zM, zM, zM, zM, zM, zM, rD G 2 (fun _ => none), zZ G 2, .inr (5, [.null, .null, .null, .null, .null, .null, .int 0, .int 0])]) s.heap H locs := S
  refine W.widen (k := 90) (n := 614) (Nat.le_of_ble_eq_true rfl) (Nat.le_of_ble_eq_true rfl) ?_
  refine lv_dup C.1 C.2.1 dX6_init_67 rfl ?_
  refine d_call (k := Wd0.length + 89) (rest := [.ref (G.2.2 + (Wd0.length + 89)), .ref (G.2.2 + k0)]) (mc := 6) (ms := 12342) C hml hao (c_X5_init l G _ (Wd0.length + 89) (Wd0.length + 90) (c_ln rfl) (c_l2 rfl)) kM_X5_init im_X5_init rfl (Or.inl nm_X6_43) ⟨rfl, rfl⟩ ⟨(Nat.le_of_ble_eq_true rfl), (Nat.le_of_ble_eq_true rfl)⟩ ⟨(Nat.le_of_ble_eq_true rfl), (Nat.le_of_ble_eq_true rfl)⟩ S hl.1 (Nat.le_of_ble_eq_true rfl) dX6_init_68 (fun H locs S => ?_)
  have S : c_St G (c_w Wd0 k0 (.inr (6, [.ref (G.2.2 + (Wd0.length + 0)), .ref (G.2.2 + (Wd0.length + 2)), .ref (G.2.2 + (Wd0.length + 4)), .ref (G.2.2 + (Wd0.length + 13)), .ref (G.2.2 + (Wd0.length + 87)), .ref (G.2.2 + (Wd0.length + 88)), .null, .null])) [.inr (0, [.ref (G.2.2 + (Wd0.length + 1)), .int 0]), zI G 60, .inr (0, [.ref (G.2.2 + (Wd0.length + 3)), .int 0]), zI G 60, oD G (Wd0.length + 5), aM G (Wd0.length + 5), zM, zM, zM, zM, zM, zM, zM, .inr (2, [.ref (G.2.2 + (Wd0.length + 14)), .int 0]), rD G 8 (fun j => some (G.2.2 + ((Wd0.length + 14) + 1 + 9 * j))), oD G (Wd0.length + 16), aM G (Wd0.length + 16), zM, zM, zM, zM, zM, zM, zM, oD G (Wd0.length + 25), aM G (Wd0.length + 25), zM, zM, zM, zM, zM, zM, zM, oD G (Wd0.length + 34), aM G (Wd0.length + 34), zM, zM, zM, zM, zM, zM, zM, oD G (Wd0.length + 43), aM G (Wd0.length + 43), zM, zM, zM, zM, zM, zM, zM, oD G (Wd0.length + 52), aM G (Wd0.length + 52), zM, zM, zM, zM, zM, zM, zM, oD G (Wd0.length + 61), aM G (Wd0.length + 61), zM, zM, zM, zM, zM, zM, zM, oD G (Wd0.length + 70), aM G (Wd0.length + 70), zM, zM, zM, zM, zM, zM, zM, oD G (Wd0.length + 79), aM G (Wd0.length + 79), zM, zM, zM, zM, zM, zM, zM, rD G 2 (fun _ => none), zZ G 2, .inr (5, [.ref (G.2.2 + ((Wd0.length + 90) + 0)), .ref (G.2.2 + ((Wd0.length + 90) + 1)), .ref (G.2.2 + ((Wd0.length + 90) + 2)), .ref (G.2.2 + ((Wd0.length + 90) + 3)), .ref (G.2.2 + ((Wd0.length + 90) + 4)), .ref (G.2.2 + ((Wd0.length + 90) + 5)), .int 0, .int 0]), zI G 4096, zI G 4096, zJ G 4096, zI G 18, zI G 18, zI G 18]) s.heap H locs := by
    rw [d_conv (E1 := [.inr (0, [.ref (G.2.2 + (Wd0.length + 1)), .int 0]), zI G 60, .inr (0, [.ref (G.2.2 + (Wd0.length + 3)), .int 0]), zI G 60, oD G (Wd0.length + 5), aM G (Wd0.length + 5), zM, zM, zM, zM, zM, zM, zM, .inr (2, [.ref (G.2.2 + (Wd0.length + 14)), .int 0]), rD G 8 (fun j => some (G.2.2 + ((Wd0.length + 14) + 1 + 9 * j))), oD G (Wd0.length + 16), aM G (Wd0.length + 16), zM, zM, zM, zM, zM, zM, zM, oD G (Wd0.length + 25), aM G (Wd0.length + 25), zM, zM, zM, zM, zM, zM, zM, oD G (Wd0.length + 34), aM G (Wd0.length + 34), zM, zM, zM, zM, zM, zM, zM, oD G (Wd0.length + 43), aM G (Wd0.length + 43), zM, zM, zM, zM, zM, zM, zM, oD G (Wd0.length + 52), aM G (Wd0.length + 52), zM, zM, zM, zM, zM, zM, zM, oD G (Wd0.length + 61), aM G (Wd0.length + 61), zM, zM, zM, zM, zM, zM, zM, oD G (Wd0.length + 70), aM G (Wd0.length + 70), zM, zM, zM, zM, zM, zM, zM, oD G (Wd0.length + 79), aM G (Wd0.length + 79), zM, zM, zM, zM, zM, zM, zM, rD G 2 (fun _ => none), zZ G 2, .inr (5, [.ref (G.2.2 + ((Wd0.length + 90) + 0)), .ref (G.2.2 + ((Wd0.length + 90) + 1)), .ref (G.2.2 + ((Wd0.length + 90) + 2)), .ref (G.2.2 + ((Wd0.length + 90) + 3)), .ref (G.2.2 + ((Wd0.length + 90) + 4)), .ref (G.2.2 + ((Wd0.length + 90) + 5)), .int 0, .int 0]), zI G 4096, zI G 4096, zJ G 4096, zI G 18, zI G 18, zI G 18]) rfl] at S
    exact S
  refine W.widen (k := 96) (n := 12956) (Nat.le_of_ble_eq_true rfl) (Nat.le_of_ble_eq_true rfl) ?_
  refine d_putF (ci := 6) (C := RX6) (T := TX6) (N := 8) (ty := tyX6 6) (fs1 := [.ref (G.2.2 + (Wd0.length + 0)), .ref (G.2.2 + (Wd0.length + 2)), .ref (G.2.2 + (Wd0.length + 4)), .ref (G.2.2 + (Wd0.length + 13)), .ref (G.2.2 + (Wd0.length + 87)), .ref (G.2.2 + (Wd0.length + 88)), .ref (G.2.2 + (Wd0.length + 89)), .null]) (v := .ref (G.2.2 + (Wd0.length + 89))) C inlX6 tyX6_ok nmX6 rfl 6 (by decide) fl_X6_44 rfl hin rfl (by decide +kernel) rfl rfl (Nat.le_of_ble_eq_true rfl) rfl hk0 S dX6_init_71 (fun H locs S => ?_)
  have S : c_St G (c_w Wd0 k0 (.inr (6, [.ref (G.2.2 + (Wd0.length + 0)), .ref (G.2.2 + (Wd0.length + 2)), .ref (G.2.2 + (Wd0.length + 4)), .ref (G.2.2 + (Wd0.length + 13)), .ref (G.2.2 + (Wd0.length + 87)), .ref (G.2.2 + (Wd0.length + 88)), .ref (G.2.2 + (Wd0.length + 89)), .null])) [.inr (0, [.ref (G.2.2 + (Wd0.length + 1)), .int 0]), zI G 60, .inr (0, [.ref (G.2.2 + (Wd0.length + 3)), .int 0]), zI G 60, oD G (Wd0.length + 5), aM G (Wd0.length + 5), zM, zM, zM, zM, zM, zM, zM, .inr (2, [.ref (G.2.2 + (Wd0.length + 14)), .int 0]), rD G 8 (fun j => some (G.2.2 + ((Wd0.length + 14) + 1 + 9 * j))), oD G (Wd0.length + 16), aM G (Wd0.length + 16), zM, zM, zM, zM, zM, zM, zM, oD G (Wd0.length + 25), aM G (Wd0.length + 25), zM, zM, zM, zM, zM, zM, zM, oD G (Wd0.length + 34), aM G (Wd0.length + 34), zM, zM, zM, zM, zM, zM, zM, oD G (Wd0.length + 43), aM G (Wd0.length + 43), zM, zM, zM, zM, zM, zM, zM, oD G (Wd0.length + 52), aM G (Wd0.length + 52), zM, zM, zM, zM, zM, zM, zM, oD G (Wd0.length + 61), aM G (Wd0.length + 61), zM, zM, zM, zM, zM, zM, zM, oD G (Wd0.length + 70), aM G (Wd0.length + 70), zM, zM, zM, zM, zM, zM, zM, oD G (Wd0.length + 79), aM G (Wd0.length + 79), zM, zM, zM, zM, zM, zM, zM, rD G 2 (fun _ => none), zZ G 2, .inr (5, [.ref (G.2.2 + ((Wd0.length + 90) + 0)), .ref (G.2.2 + ((Wd0.length + 90) + 1)), .ref (G.2.2 + ((Wd0.length + 90) + 2)), .ref (G.2.2 + ((Wd0.length + 90) + 3)), .ref (G.2.2 + ((Wd0.length + 90) + 4)), .ref (G.2.2 + ((Wd0.length + 90) + 5)), .int 0, .int 0]), zI G 4096, zI G 4096, zJ G 4096, zI G 18, zI G 18, zI G 18]) s.heap H locs := S
  refine lv_aload_n C.1 C.2.1 dX6_init_74 rfl (lv_at hl 0 rfl) ?_
  refine d_new (j := 96) (ci := 4) (C := RX4) (T := TX4) (N := 2) (fs := [.null, .int 0]) C inlX4 tyX4_ok kl_X6_48 ia_X4 in_X4 rfl (fun j hj => by rcases (show j = 0 ∨ j = 1 by omega) with rfl | rfl <;> rfl) S rfl (Nat.le_of_ble_eq_true rfl) (Nat.le_of_ble_eq_true rfl) dX6_init_75 (fun H S => ?_)
  have S : c_St G (c_w Wd0 k0 (.inr (6, [.ref (G.2.2 + (Wd0.length + 0)), .ref (G.2.2 + (Wd0.length + 2)), .ref (G.2.2 + (Wd0.length + 4)), .ref (G.2.2 + (Wd0.length + 13)), .ref (G.2.2 + (Wd0.length + 87)), .ref (G.2.2 + (Wd0.length + 88)), .ref (G.2.2 + (Wd0.length + 89)), .null])) [.inr (0, [.ref (G.2.2 + (Wd0.length + 1)), .int 0]), zI G 60, .inr (0, [.ref (G.2.2 + (Wd0.length + 3)), .int 0]), zI G 60, oD G (Wd0.length + 5), aM G (Wd0.length + 5), zM, zM, zM, zM, zM, zM, zM, .inr (2, [.ref (G.2.2 + (Wd0.length + 14)), .int 0]), rD G 8 (fun j => some (G.2.2 + ((Wd0.length + 14) + 1 + 9 * j))), oD G (Wd0.length + 16), aM G (Wd0.length + 16), zM, zM, zM, zM, zM, zM, zM, oD G (Wd0.length + 25), aM G (Wd0.length + 25), zM, zM, zM, zM, zM, zM, zM, oD G (Wd0.length + 34), aM G (Wd0.length + 34), zM, zM, zM, zM, zM, zM, zM, oD G (Wd0.length + 43), aM G (Wd0.length + 43), zM, zM, zM, zM, zM, zM, zM, oD G (Wd0.length + 52), aM G (Wd0.length + 52), zM, zM, zM, zM, zM, zM, zM, oD G (Wd0.length + 61), aM G (Wd0.length + 61), zM, zM, zM, zM, zM, zM, zM, oD G (Wd0.length + 70), aM G (Wd0.length + 70), zM, zM, zM, zM, zM, zM, zM, oD G (Wd0.length + 79), aM G (Wd0.length + 79), zM, zM, zM, zM, zM, zM, zM, rD G 2 (fun _ => none), zZ G 2, .inr (5, [.ref (G.2.2 + ((Wd0.length + 90) + 0)), .ref (G.2.2 + ((Wd0.length + 90) + 1)), .ref (G.2.2 + ((Wd0.length + 90) + 2)), .ref (G.2.2 + ((Wd0.length + 90) + 3)), .ref (G.2.2 + ((Wd0.length + 90) + 4)), .ref (G.2.2 + ((Wd0.length + 90) + 5)), .int 0, .int 0]), zI G 4096, zI G 4096, zJ G 4096, zI G 18, zI G 18, zI G 18, .inr (4, [.null, .int 0])]) s.heap H locs := S
  refine W.widen (k := 97) (n := 12958) (Nat.le_of_ble_eq_true rfl) (Nat.le_of_ble_eq_true rfl) ?_
  refine lv_dup C.1 C.2.1 dX6_init_78 rfl ?_
  refine d_call (k := Wd0.length + 96) (rest := [.ref (G.2.2 + (Wd0.length + 96)), .ref (G.2.2 + k0)]) (mc := 1) (ms := 4096) C hml hao (c_X4_init l G _ (Wd0.length + 96) (Wd0.length + 97) (c_ln rfl) (c_l2 rfl)) kM_X4_init im_X4_init rfl (Or.inl nm_X6_50) ⟨rfl, rfl⟩ ⟨(Nat.le_of_ble_eq_true rfl), (Nat.le_of_ble_eq_true rfl)⟩ ⟨(Nat.le_of_ble_eq_true rfl), (Nat.le_of_ble_eq_true rfl)⟩ S hl.1 (Nat.le_of_ble_eq_true rfl) dX6_init_79 (fun H locs S => ?_)
  have S : c_St G (c_w Wd0 k0 (.inr (6, [.ref (G.2.2 + (Wd0.length + 0)), .ref (G.2.2 + (Wd0.length + 2)), .ref (G.2.2 + (Wd0.length + 4)), .ref (G.2.2 + (Wd0.length + 13)), .ref (G.2.2 + (Wd0.length + 87)), .ref (G.2.2 + (Wd0.length + 88)), .ref (G.2.2 + (Wd0.length + 89)), .null])) [.inr (0, [.ref (G.2.2 + (Wd0.length + 1)), .int 0]), zI G 60, .inr (0, [.ref (G.2.2 + (Wd0.length + 3)), .int 0]), zI G 60, oD G (Wd0.length + 5), aM G (Wd0.length + 5), zM, zM, zM, zM, zM, zM, zM, .inr (2, [.ref (G.2.2 + (Wd0.length + 14)), .int 0]), rD G 8 (fun j => some (G.2.2 + ((Wd0.length + 14) + 1 + 9 * j))), oD G (Wd0.length + 16), aM G (Wd0.length + 16), zM, zM, zM, zM, zM, zM, zM, oD G (Wd0.length + 25), aM G (Wd0.length + 25), zM, zM, zM, zM, zM, zM, zM, oD G (Wd0.length + 34), aM G (Wd0.length + 34), zM, zM, zM, zM, zM, zM, zM, oD G (Wd0.length + 43), aM G (Wd0.length + 43), zM, zM, zM, zM, zM, zM, zM, oD G (Wd0.length + 52), aM G (Wd0.length + 52), zM, zM, zM, zM, zM, zM, zM, oD G (Wd0.length + 61), aM G (Wd0.length + 61), zM, zM, zM, zM, zM, zM, zM, oD G (Wd0.length + 70), aM G (Wd0.length + 70), zM, zM, zM, zM, zM, zM, zM, oD G (Wd0.length + 79), aM G (Wd0.length + 79), zM, zM, zM, zM, zM, zM, zM, rD G 2 (fun _ => none), zZ G 2, .inr (5, [.ref (G.2.2 + ((Wd0.length + 90) + 0)), .ref (G.2.2 + ((Wd0.length + 90) + 1)), .ref (G.2.2 + ((Wd0.length + 90) + 2)), .ref (G.2.2 + ((Wd0.length + 90) + 3)), .ref (G.2.2 + ((Wd0.length + 90) + 4)), .ref (G.2.2 + ((Wd0.length + 90) + 5)), .int 0, .int 0]), zI G 4096, zI G 4096, zJ G 4096, zI G 18, zI G 18, zI G 18, .inr (4, [.ref (G.2.2 + (Wd0.length + 97)), .int (-2)]), zJ G 4096]) s.heap H locs := by
    rw [d_conv (E1 := [.inr (0, [.ref (G.2.2 + (Wd0.length + 1)), .int 0]), zI G 60, .inr (0, [.ref (G.2.2 + (Wd0.length + 3)), .int 0]), zI G 60, oD G (Wd0.length + 5), aM G (Wd0.length + 5), zM, zM, zM, zM, zM, zM, zM, .inr (2, [.ref (G.2.2 + (Wd0.length + 14)), .int 0]), rD G 8 (fun j => some (G.2.2 + ((Wd0.length + 14) + 1 + 9 * j))), oD G (Wd0.length + 16), aM G (Wd0.length + 16), zM, zM, zM, zM, zM, zM, zM, oD G (Wd0.length + 25), aM G (Wd0.length + 25), zM, zM, zM, zM, zM, zM, zM, oD G (Wd0.length + 34), aM G (Wd0.length + 34), zM, zM, zM, zM, zM, zM, zM, oD G (Wd0.length + 43), aM G (Wd0.length + 43), zM, zM, zM, zM, zM, zM, zM, oD G (Wd0.length + 52), aM G (Wd0.length + 52), zM, zM, zM, zM, zM, zM, zM, oD G (Wd0.length + 61), aM G (Wd0.length + 61), zM, zM, zM, zM, zM, zM, zM, oD G (Wd0.length + 70), aM G (Wd0.length + 70), zM, zM, zM, zM, zM, zM, zM, oD G (Wd0.length + 79), aM G (Wd0.length + 79), zM, zM, zM, zM, zM, zM, zM, rD G 2 (fun _ => none), zZ G 2, .inr (5, [.ref (G.2.2 + ((Wd0.length + 90) + 0)), .ref (G.2.2 + ((Wd0.length + 90) + 1)), .ref (G.2.2 + ((Wd0.length + 90) + 2)), .ref (G.2.2 + ((Wd0.length + 90) + 3)), .ref (G.2.2 + ((Wd0.length + 90) + 4)), .ref (G.2.2 + ((Wd0.length + 90) + 5)), .int 0, .int 0]), zI G 4096, zI G 4096, zJ G 4096, zI G 18, zI G 18, zI G 18, .inr (4, [.ref (G.2.2 + (Wd0.length + 97)), .int (-2)]), zJ G 4096]) rfl] at S
    exact S
  refine W.widen (k := 98) (n := 17054) (Nat.le_of_ble_eq_true rfl) (Nat.le_of_ble_eq_true rfl) ?_
  refine d_putF (ci := 6) (C := RX6) (T := TX6) (N := 8) (ty := tyX6 7) (fs1 := [.ref (G.2.2 + (Wd0.length + 0)), .ref (G.2.2 + (Wd0.length + 2)), .ref (G.2.2 + (Wd0.length + 4)), .ref (G.2.2 + (Wd0.length + 13)), .ref (G.2.2 + (Wd0.length + 87)), .ref (G.2.2 + (Wd0.length + 88)), .ref (G.2.2 + (Wd0.length + 89)), .ref (G.2.2 + (Wd0.length + 96))]) (v := .ref (G.2.2 + (Wd0.length + 96))) C inlX6 tyX6_ok nmX6 rfl 7 (by decide) fl_X6_51 rfl hin rfl (by decide +kernel) rfl rfl (Nat.le_of_ble_eq_true rfl) rfl hk0 S dX6_init_82 (fun H locs S => ?_)
  have S : c_St G (c_w Wd0 k0 (.inr (6, [.ref (G.2.2 + (Wd0.length + 0)), .ref (G.2.2 + (Wd0.length + 2)), .ref (G.2.2 + (Wd0.length + 4)), .ref (G.2.2 + (Wd0.length + 13)), .ref (G.2.2 + (Wd0.length + 87)), .ref (G.2.2 + (Wd0.length + 88)), .ref (G.2.2 + (Wd0.length + 89)), .ref (G.2.2 + (Wd0.length + 96))])) [.inr (0, [.ref (G.2.2 + (Wd0.length + 1)), .int 0]), zI G 60, .inr (0, [.ref (G.2.2 + (Wd0.length + 3)), .int 0]), zI G 60, oD G (Wd0.length + 5), aM G (Wd0.length + 5), zM, zM, zM, zM, zM, zM, zM, .inr (2, [.ref (G.2.2 + (Wd0.length + 14)), .int 0]), rD G 8 (fun j => some (G.2.2 + ((Wd0.length + 14) + 1 + 9 * j))), oD G (Wd0.length + 16), aM G (Wd0.length + 16), zM, zM, zM, zM, zM, zM, zM, oD G (Wd0.length + 25), aM G (Wd0.length + 25), zM, zM, zM, zM, zM, zM, zM, oD G (Wd0.length + 34), aM G (Wd0.length + 34), zM, zM, zM, zM, zM, zM, zM, oD G (Wd0.length + 43), aM G (Wd0.length + 43), zM, zM, zM, zM, zM, zM, zM, oD G (Wd0.length + 52), aM G (Wd0.length + 52), zM, zM, zM, zM, zM, zM, zM, oD G (Wd0.length + 61), aM G (Wd0.length + 61), zM, zM, zM, zM, zM, zM, zM, oD G (Wd0.length + 70), aM G (Wd0.length + 70), zM, zM, zM, zM, zM, zM, zM, oD G (Wd0.length + 79), aM G (Wd0.length + 79), zM, zM, zM, zM, zM, zM, zM, rD G 2 (fun _ => none), zZ G 2, .inr (5, [.ref (G.2.2 + ((Wd0.length + 90) + 0)), .ref (G.2.2 + ((Wd0.length + 90) + 1)), .ref (G.2.2 + ((Wd0.length + 90) + 2)), .ref (G.2.2 + ((Wd0.length + 90) + 3)), .ref (G.2.2 + ((Wd0.length + 90) + 4)), .ref (G.2.2 + ((Wd0.length + 90) + 5)), .int 0, .int 0]), zI G 4096, zI G 4096, zJ G 4096, zI G 18, zI G 18, zI G 18, .inr (4, [.ref (G.2.2 + (Wd0.length + 97)), .int (-2)]), zJ G 4096]) s.heap H locs := S
  refine lv_iconst (v := (0 : Int32)) C.1 C.2.1 dX6_init_85 (by decide) ?_
  refine lv_istore_n (lv' := [(1, .int (0 : Int32)), (0, .ref (G.2.2 + k0))]) C.1 C.2.1 dX6_init_86 rfl hl (by decide) rfl (fun ls hl => ?_)
  refine lv_iload_n C.1 C.2.1 dX6_init_87 rfl (lv_at hl 0 rfl) ?_
  refine lv_aload_n C.1 C.2.1 dX6_init_88 rfl (lv_at hl 1 rfl) ?_
  refine d_get (ci := 6) (C := RX6) (T := TX6) (N := 8) (v := .ref (G.2.2 + (Wd0.length + 87))) C inlX6 rfl 4 (by decide) fl_X6_33 rfl hk0 S dX6_init_89 ?_
  refine d_alen 4 (v := (2 : Int32)) C S rfl rfl rfl dX6_init_92 ?_
  refine lv_icmp_ge (tgt := 115) C.1 C.2.1 dX6_init_93 (by decide) (fun h => absurd h (by decide)) (fun _ => ?_)
  refine lv_aload_n C.1 C.2.1 dX6_init_96 rfl (lv_at hl 1 rfl) ?_
  refine d_get (ci := 6) (C := RX6) (T := TX6) (N := 8) (v := .ref (G.2.2 + (Wd0.length + 87))) C inlX6 rfl 4 (by decide) fl_X6_33 rfl hk0 S dX6_init_97 ?_
  refine lv_iload_n C.1 C.2.1 dX6_init_100 rfl (lv_at hl 0 rfl) ?_
  refine d_new (j := 98) (ci := 1) (C := RX1) (T := TX1) (N := 4) (fs := [.null, .null, .int 0, .int 0]) C inlX1 tyX1_ok kl_X6_19 ia_X1 in_X1 rfl (fun j hj => by rcases (show j = 0 ∨ j = 1 ∨ j = 2 ∨ j = 3 by omega) with rfl | rfl | rfl | rfl <;> rfl) S rfl (Nat.le_of_ble_eq_true rfl) (Nat.le_of_ble_eq_true rfl) dX6_init_101 (fun H S => ?_)
  have S : c_St G (c_w Wd0 k0 (.inr (6, [.ref (G.2.2 + (Wd0.length + 0)), .ref (G.2.2 + (Wd0.length + 2)), .ref (G.2.2 + (Wd0.length + 4)), .ref (G.2.2 + (Wd0.length + 13)), .ref (G.2.2 + (Wd0.length + 87)), .ref (G.2.2 + (Wd0.length + 88)), .ref (G.2.2 + (Wd0.length + 89)), .ref (G.2.2 + (Wd0.length + 96))])) [.inr (0, [.ref (G.2.2 + (Wd0.length + 1)), .int 0]), zI G 60, .inr (0, [.ref (G.2.2 + (Wd0.length + 3)), .int 0]), zI G 60, oD G (Wd0.length + 5), aM G (Wd0.length + 5), zM, zM, zM, zM, zM, zM, zM, .inr (2, [.ref (G.2.2 + (Wd0.length + 14)), .int 0]), rD G 8 (fun j => some (G.2.2 + ((Wd0.length + 14) + 1 + 9 * j))), oD G (Wd0.length + 16), aM G (Wd0.length + 16), zM, zM, zM, zM, zM, zM, zM, oD G (Wd0.length + 25), aM G (Wd0.length + 25), zM, zM, zM, zM, zM, zM, zM, oD G (Wd0.length + 34), aM G (Wd0.length + 34), zM, zM, zM, zM, zM, zM, zM, oD G (Wd0.length + 43), aM G (Wd0.length + 43), zM, zM, zM, zM, zM, zM, zM, oD G (Wd0.length + 52), aM G (Wd0.length + 52), zM, zM, zM, zM, zM, zM, zM, oD G (Wd0.length + 61), aM G (Wd0.length + 61), zM, zM, zM, zM, zM, zM, zM, oD G (Wd0.length + 70), aM G (Wd0.length + 70), zM, zM, zM, zM, zM, zM, zM, oD G (Wd0.length + 79), aM G (Wd0.length + 79), zM, zM, zM, zM, zM, zM, zM, rD G 2 (fun _ => none), zZ G 2, .inr (5, [.ref (G.2.2 + ((Wd0.length + 90) + 0)), .ref (G.2.2 + ((Wd0.length + 90) + 1)), .ref (G.2.2 + ((Wd0.length + 90) + 2)), .ref (G.2.2 + ((Wd0.length + 90) + 3)), .ref (G.2.2 + ((Wd0.length + 90) + 4)), .ref (G.2.2 + ((Wd0.length + 90) + 5)), .int 0, .int 0]), zI G 4096, zI G 4096, zJ G 4096, zI G 18, zI G 18, zI G 18, .inr (4, [.ref (G.2.2 + (Wd0.length + 97)), .int (-2)]), zJ G 4096, zD]) s.heap H locs := S
  refine W.widen (k := 99) (n := 17058) (Nat.le_of_ble_eq_true rfl) (Nat.le_of_ble_eq_true rfl) ?_
  refine lv_dup C.1 C.2.1 dX6_init_104 rfl ?_
  refine d_call (k := Wd0.length + 98) (rest := [.ref (G.2.2 + (Wd0.length + 98)), .int (0 : Int32), .ref (G.2.2 + (Wd0.length + 87))]) (mc := 8) (ms := 48) C hml hao (c_X1_init l G _ (Wd0.length + 98) (Wd0.length + 99) (c_ln rfl) (c_l2 rfl)) kM_X1_init im_X1_init rfl (Or.inl nm_X6_21) ⟨rfl, rfl⟩ ⟨(Nat.le_of_ble_eq_true rfl), (Nat.le_of_ble_eq_true rfl)⟩ ⟨(Nat.le_of_ble_eq_true rfl), (Nat.le_of_ble_eq_true rfl)⟩ S hl.1 (Nat.le_of_ble_eq_true rfl) dX6_init_105 (fun H locs S => ?_)
  have S : c_St G (c_w Wd0 k0 (.inr (6, [.ref (G.2.2 + (Wd0.length + 0)), .ref (G.2.2 + (Wd0.length + 2)), .ref (G.2.2 + (Wd0.length + 4)), .ref (G.2.2 + (Wd0.length + 13)), .ref (G.2.2 + (Wd0.length + 87)), .ref (G.2.2 + (Wd0.length + 88)), .ref (G.2.2 + (Wd0.length + 89)), .ref (G.2.2 + (Wd0.length + 96))])) [.inr (0, [.ref (G.2.2 + (Wd0.length + 1)), .int 0]), zI G 60, .inr (0, [.ref (G.2.2 + (Wd0.length + 3)), .int 0]), zI G 60, oD G (Wd0.length + 5), aM G (Wd0.length + 5), zM, zM, zM, zM, zM, zM, zM, .inr (2, [.ref (G.2.2 + (Wd0.length + 14)), .int 0]), rD G 8 (fun j => some (G.2.2 + ((Wd0.length + 14) + 1 + 9 * j))), oD G (Wd0.length + 16), aM G (Wd0.length + 16), zM, zM, zM, zM, zM, zM, zM, oD G (Wd0.length + 25), aM G (Wd0.length + 25), zM, zM, zM, zM, zM, zM, zM, oD G (Wd0.length + 34), aM G (Wd0.length + 34), zM, zM, zM, zM, zM, zM, zM, oD G (Wd0.length + 43), aM G (Wd0.length + 43), zM, zM, zM, zM, zM, zM, zM, oD G (Wd0.length + 52), aM G (Wd0.length + 52), zM, zM, zM, zM, zM, zM, zM, oD G (Wd0.length + 61), aM G (Wd0.length + 61), zM, zM, zM, zM, zM, zM, zM, oD G (Wd0.length + 70), aM G (Wd0.length + 70), zM, zM, zM, zM, zM, zM, zM, oD G (Wd0.length + 79), aM G (Wd0.length + 79), zM, zM, zM, zM, zM, zM, zM, rD G 2 (fun _ => none), zZ G 2, .inr (5, [.ref (G.2.2 + ((Wd0.length + 90) + 0)), .ref (G.2.2 + ((Wd0.length + 90) + 1)), .ref (G.2.2 + ((Wd0.length + 90) + 2)), .ref (G.2.2 + ((Wd0.length + 90) + 3)), .ref (G.2.2 + ((Wd0.length + 90) + 4)), .ref (G.2.2 + ((Wd0.length + 90) + 5)), .int 0, .int 0]), zI G 4096, zI G 4096, zJ G 4096, zI G 18, zI G 18, zI G 18, .inr (4, [.ref (G.2.2 + (Wd0.length + 97)), .int (-2)]), zJ G 4096, oD G (Wd0.length + 99), aM G (Wd0.length + 99), zM, zM, zM, zM, zM, zM, zM]) s.heap H locs := by
    rw [d_conv (E1 := [.inr (0, [.ref (G.2.2 + (Wd0.length + 1)), .int 0]), zI G 60, .inr (0, [.ref (G.2.2 + (Wd0.length + 3)), .int 0]), zI G 60, oD G (Wd0.length + 5), aM G (Wd0.length + 5), zM, zM, zM, zM, zM, zM, zM, .inr (2, [.ref (G.2.2 + (Wd0.length + 14)), .int 0]), rD G 8 (fun j => some (G.2.2 + ((Wd0.length + 14) + 1 + 9 * j))), oD G (Wd0.length + 16), aM G (Wd0.length + 16), zM, zM, zM, zM, zM, zM, zM, oD G (Wd0.length + 25), aM G (Wd0.length + 25), zM, zM, zM, zM, zM, zM, zM, oD G (Wd0.length + 34), aM G (Wd0.length + 34), zM, zM, zM, zM, zM, zM, zM, oD G (Wd0.length + 43), aM G (Wd0.length + 43), zM, zM, zM, zM, zM, zM, zM, oD G (Wd0.length + 52), aM G (Wd0.length + 52), zM, zM, zM, zM, zM, zM, zM, oD G (Wd0.length + 61), aM G (Wd0.length + 61), zM, zM, zM, zM, zM, zM, zM, oD G (Wd0.length + 70), aM G (Wd0.length + 70), zM, zM, zM, zM, zM, zM, zM, oD G (Wd0.length + 79), aM G (Wd0.length + 79), zM, zM, zM, zM, zM, zM, zM, rD G 2 (fun _ => none), zZ G 2, .inr (5, [.ref (G.2.2 + ((Wd0.length + 90) + 0)), .ref (G.2.2 + ((Wd0.length + 90) + 1)), .ref (G.2.2 + ((Wd0.length + 90) + 2)), .ref (G.2.2 + ((Wd0.length + 90) + 3)), .ref (G.2.2 + ((Wd0.length + 90) + 4)), .ref (G.2.2 + ((Wd0.length + 90) + 5)), .int 0, .int 0]), zI G 4096, zI G 4096, zJ G 4096, zI G 18, zI G 18, zI G 18, .inr (4, [.ref (G.2.2 + (Wd0.length + 97)), .int (-2)]), zJ G 4096, oD G (Wd0.length + 99), aM G (Wd0.length + 99), zM, zM, zM, zM, zM, zM, zM]) rfl] at S
    exact S
  refine W.widen (k := 107) (n := 17106) (Nat.le_of_ble_eq_true rfl) (Nat.le_of_ble_eq_true rfl) ?_
  refine d_aast (ci := 1) (r := (RX1, TX1, 4)) (E1 := [.inr (0, [.ref (G.2.2 + (Wd0.length + 1)), .int 0]), zI G 60, .inr (0, [.ref (G.2.2 + (Wd0.length + 3)), .int 0]), zI G 60, oD G (Wd0.length + 5), aM G (Wd0.length + 5), zM, zM, zM, zM, zM, zM, zM, .inr (2, [.ref (G.2.2 + (Wd0.length + 14)), .int 0]), rD G 8 (fun j => some (G.2.2 + ((Wd0.length + 14) + 1 + 9 * j))), oD G (Wd0.length + 16), aM G (Wd0.length + 16), zM, zM, zM, zM, zM, zM, zM, oD G (Wd0.length + 25), aM G (Wd0.length + 25), zM, zM, zM, zM, zM, zM, zM, oD G (Wd0.length + 34), aM G (Wd0.length + 34), zM, zM, zM, zM, zM, zM, zM, oD G (Wd0.length + 43), aM G (Wd0.length + 43), zM, zM, zM, zM, zM, zM, zM, oD G (Wd0.length + 52), aM G (Wd0.length + 52), zM, zM, zM, zM, zM, zM, zM, oD G (Wd0.length + 61), aM G (Wd0.length + 61), zM, zM, zM, zM, zM, zM, zM, oD G (Wd0.length + 70), aM G (Wd0.length + 70), zM, zM, zM, zM, zM, zM, zM, oD G (Wd0.length + 79), aM G (Wd0.length + 79), zM, zM, zM, zM, zM, zM, zM, rD G 2 (va_up (fun _ => none) 0 (some (G.2.2 + (Wd0.length + 98)))), zZ G 2, .inr (5, [.ref (G.2.2 + ((Wd0.length + 90) + 0)), .ref (G.2.2 + ((Wd0.length + 90) + 1)), .ref (G.2.2 + ((Wd0.length + 90) + 2)), .ref (G.2.2 + ((Wd0.length + 90) + 3)), .ref (G.2.2 + ((Wd0.length + 90) + 4)), .ref (G.2.2 + ((Wd0.length + 90) + 5)), .int 0, .int 0]), zI G 4096, zI G 4096, zJ G 4096, zI G 18, zI G 18, zI G 18, .inr (4, [.ref (G.2.2 + (Wd0.length + 97)), .int (-2)]), zJ G 4096, oD G (Wd0.length + 99), aM G (Wd0.length + 99), zM, zM, zM, zM, zM, zM, zM]) 4 C S rfl rfl rfl rfl (vp_in_nI (n := 0) (by decide) (by decide)) rfl dX6_init_108 (fun H locs S => ?_)
  refine lv_iinc (v := (1 : Int32)) (lv' := [(1, .int (1 : Int32)), (0, .ref (G.2.2 + k0))]) C.1 C.2.1 dX6_init_109 hl (k := 0) rfl (by decide) (by decide) rfl (fun ls hl => ?_)
  refine lv_goto (tgt := 87) C.1 C.2.1 dX6_init_112 (by decide) ?_
  refine lv_iload_n C.1 C.2.1 dX6_init_87 rfl (lv_at hl 0 rfl) ?_
  refine lv_aload_n C.1 C.2.1 dX6_init_88 rfl (lv_at hl 1 rfl) ?_
  refine d_get (ci := 6) (C := RX6) (T := TX6) (N := 8) (v := .ref (G.2.2 + (Wd0.length + 87))) C inlX6 rfl 4 (by decide) fl_X6_33 rfl hk0 S dX6_init_89 ?_
  refine d_alen 4 (v := (2 : Int32)) C S rfl rfl rfl dX6_init_92 ?_
  refine lv_icmp_ge (tgt := 115) C.1 C.2.1 dX6_init_93 (by decide) (fun h => absurd h (by decide)) (fun _ => ?_)
  refine lv_aload_n C.1 C.2.1 dX6_init_96 rfl (lv_at hl 1 rfl) ?_
  refine d_get (ci := 6) (C := RX6) (T := TX6) (N := 8) (v := .ref (G.2.2 + (Wd0.length + 87))) C inlX6 rfl 4 (by decide) fl_X6_33 rfl hk0 S dX6_init_97 ?_
  refine lv_iload_n C.1 C.2.1 dX6_init_100 rfl (lv_at hl 0 rfl) ?_
  refine d_new (j := 107) (ci := 1) (C := RX1) (T := TX1) (N := 4) (fs := [.null, .null, .int 0, .int 0]) C inlX1 tyX1_ok kl_X6_19 ia_X1 in_X1 rfl (fun j hj => by rcases (show j = 0 ∨ j = 1 ∨ j = 2 ∨ j = 3 by omega) with rfl | rfl | rfl | rfl <;> rfl) S rfl (Nat.le_of_ble_eq_true rfl) (Nat.le_of_ble_eq_true rfl) dX6_init_101 (fun H S => ?_)
  have S : c_St G (c_w Wd0 k0 (.inr (6, [.ref (G.2.2 + (Wd0.length + 0)), .ref (G.2.2 + (Wd0.length + 2)), .ref (G.2.2 + (Wd0.length + 4)), .ref (G.2.2 + (Wd0.length + 13)), .ref (G.2.2 + (Wd0.length + 87)), .ref (G.2.2 + (Wd0.length + 88)), .ref (G.2.2 + (Wd0.length + 89)), .ref (G.2.2 + (Wd0.length + 96))])) [.inr (0, [.ref (G.2.2 + (Wd0.length + 1)), .int 0]), zI G 60, .inr (0, [.ref (G.2.2 + (Wd0.length + 3)), .int 0]), zI G 60, oD G (Wd0.length + 5), aM G (Wd0.length + 5), zM, zM, zM, zM, zM, zM, zM, .inr (2, [.ref (G.2.2 + (Wd0.length + 14)), .int 0]), rD G 8 (fun j => some (G.2.2 + ((Wd0.length + 14) + 1 + 9 * j))), oD G (Wd0.length + 16), aM G (Wd0.length + 16), zM, zM, zM, zM, zM, zM, zM, oD G (Wd0.length + 25), aM G (Wd0.length + 25), zM, zM, zM, zM, zM, zM, zM, oD G (Wd0.length + 34), aM G (Wd0.length + 34), zM, zM, zM, zM, zM, zM, zM, oD G (Wd0.length + 43), aM G (Wd0.length + 43), zM, zM, zM, zM, zM, zM, zM, oD G (Wd0.length + 52), aM G (Wd0.length + 52), zM, zM, zM, zM, zM, zM, zM, oD G (Wd0.length + 61), aM G (Wd0.length + 61), zM, zM, zM, zM, zM, zM, zM, oD G (Wd0.length + 70), aM G (Wd0.length + 70), zM, zM, zM, zM, zM, zM, zM, oD G (Wd0.length + 79), aM G (Wd0.length + 79), zM, zM, zM, zM, zM, zM, zM, rD G 2 (va_up (fun _ => none) 0 (some (G.2.2 + (Wd0.length + 98)))), zZ G 2, .inr (5, [.ref (G.2.2 + ((Wd0.length + 90) + 0)), .ref (G.2.2 + ((Wd0.length + 90) + 1)), .ref (G.2.2 + ((Wd0.length + 90) + 2)), .ref (G.2.2 + ((Wd0.length + 90) + 3)), .ref (G.2.2 + ((Wd0.length + 90) + 4)), .ref (G.2.2 + ((Wd0.length + 90) + 5)), .int 0, .int 0]), zI G 4096, zI G 4096, zJ G 4096, zI G 18, zI G 18, zI G 18, .inr (4, [.ref (G.2.2 + (Wd0.length + 97)), .int (-2)]), zJ G 4096, oD G (Wd0.length + 99), aM G (Wd0.length + 99), zM, zM, zM, zM, zM, zM, zM, zD]) s.heap H locs := S
  refine W.widen (k := 108) (n := 17110) (Nat.le_of_ble_eq_true rfl) (Nat.le_of_ble_eq_true rfl) ?_
  refine lv_dup C.1 C.2.1 dX6_init_104 rfl ?_
  refine d_call (k := Wd0.length + 107) (rest := [.ref (G.2.2 + (Wd0.length + 107)), .int (1 : Int32), .ref (G.2.2 + (Wd0.length + 87))]) (mc := 8) (ms := 48) C hml hao (c_X1_init l G _ (Wd0.length + 107) (Wd0.length + 108) (c_ln rfl) (c_l2 rfl)) kM_X1_init im_X1_init rfl (Or.inl nm_X6_21) ⟨rfl, rfl⟩ ⟨(Nat.le_of_ble_eq_true rfl), (Nat.le_of_ble_eq_true rfl)⟩ ⟨(Nat.le_of_ble_eq_true rfl), (Nat.le_of_ble_eq_true rfl)⟩ S hl.1 (Nat.le_of_ble_eq_true rfl) dX6_init_105 (fun H locs S => ?_)
  have S : c_St G (c_w Wd0 k0 (.inr (6, [.ref (G.2.2 + (Wd0.length + 0)), .ref (G.2.2 + (Wd0.length + 2)), .ref (G.2.2 + (Wd0.length + 4)), .ref (G.2.2 + (Wd0.length + 13)), .ref (G.2.2 + (Wd0.length + 87)), .ref (G.2.2 + (Wd0.length + 88)), .ref (G.2.2 + (Wd0.length + 89)), .ref (G.2.2 + (Wd0.length + 96))])) [.inr (0, [.ref (G.2.2 + (Wd0.length + 1)), .int 0]), zI G 60, .inr (0, [.ref (G.2.2 + (Wd0.length + 3)), .int 0]), zI G 60, oD G (Wd0.length + 5), aM G (Wd0.length + 5), zM, zM, zM, zM, zM, zM, zM, .inr (2, [.ref (G.2.2 + (Wd0.length + 14)), .int 0]), rD G 8 (fun j => some (G.2.2 + ((Wd0.length + 14) + 1 + 9 * j))), oD G (Wd0.length + 16), aM G (Wd0.length + 16), zM, zM, zM, zM, zM, zM, zM, oD G (Wd0.length + 25), aM G (Wd0.length + 25), zM, zM, zM, zM, zM, zM, zM, oD G (Wd0.length + 34), aM G (Wd0.length + 34), zM, zM, zM, zM, zM, zM, zM, oD G (Wd0.length + 43), aM G (Wd0.length + 43), zM, zM, zM, zM, zM, zM, zM, oD G (Wd0.length + 52), aM G (Wd0.length + 52), zM, zM, zM, zM, zM, zM, zM, oD G (Wd0.length + 61), aM G (Wd0.length + 61), zM, zM, zM, zM, zM, zM, zM, oD G (Wd0.length + 70), aM G (Wd0.length + 70), zM, zM, zM, zM, zM, zM, zM, oD G (Wd0.length + 79), aM G (Wd0.length + 79), zM, zM, zM, zM, zM, zM, zM, rD G 2 (va_up (fun _ => none) 0 (some (G.2.2 + (Wd0.length + 98)))), zZ G 2, .inr (5, [.ref (G.2.2 + ((Wd0.length + 90) + 0)), .ref (G.2.2 + ((Wd0.length + 90) + 1)), .ref (G.2.2 + ((Wd0.length + 90) + 2)), .ref (G.2.2 + ((Wd0.length + 90) + 3)), .ref (G.2.2 + ((Wd0.length + 90) + 4)), .ref (G.2.2 + ((Wd0.length + 90) + 5)), .int 0, .int 0]), zI G 4096, zI G 4096, zJ G 4096, zI G 18, zI G 18, zI G 18, .inr (4, [.ref (G.2.2 + (Wd0.length + 97)), .int (-2)]), zJ G 4096, oD G (Wd0.length + 99), aM G (Wd0.length + 99), zM, zM, zM, zM, zM, zM, zM, oD G (Wd0.length + 108), aM G (Wd0.length + 108), zM, zM, zM, zM, zM, zM, zM]) s.heap H locs := by
    rw [d_conv (E1 := [.inr (0, [.ref (G.2.2 + (Wd0.length + 1)), .int 0]), zI G 60, .inr (0, [.ref (G.2.2 + (Wd0.length + 3)), .int 0]), zI G 60, oD G (Wd0.length + 5), aM G (Wd0.length + 5), zM, zM, zM, zM, zM, zM, zM, .inr (2, [.ref (G.2.2 + (Wd0.length + 14)), .int 0]), rD G 8 (fun j => some (G.2.2 + ((Wd0.length + 14) + 1 + 9 * j))), oD G (Wd0.length + 16), aM G (Wd0.length + 16), zM, zM, zM, zM, zM, zM, zM, oD G (Wd0.length + 25), aM G (Wd0.length + 25), zM, zM, zM, zM, zM, zM, zM, oD G (Wd0.length + 34), aM G (Wd0.length + 34), zM, zM, zM, zM, zM, zM, zM, oD G (Wd0.length + 43), aM G (Wd0.length + 43), zM, zM, zM, zM, zM, zM, zM, oD G (Wd0.length + 52), aM G (Wd0.length + 52), zM, zM, zM, zM, zM, zM, zM, oD G (Wd0.length + 61), aM G (Wd0.length + 61), zM, zM, zM, zM, zM, zM, zM, oD G (Wd0.length + 70), aM G (Wd0.length + 70), zM, zM, zM, zM, zM, zM, zM, oD G (Wd0.length + 79), aM G (Wd0.length + 79), zM, zM, zM, zM, zM, zM, zM, rD G 2 (va_up (fun _ => none) 0 (some (G.2.2 + (Wd0.length + 98)))), zZ G 2, .inr (5, [.ref (G.2.2 + ((Wd0.length + 90) + 0)), .ref (G.2.2 + ((Wd0.length + 90) + 1)), .ref (G.2.2 + ((Wd0.length + 90) + 2)), .ref (G.2.2 + ((Wd0.length + 90) + 3)), .ref (G.2.2 + ((Wd0.length + 90) + 4)), .ref (G.2.2 + ((Wd0.length + 90) + 5)), .int 0, .int 0]), zI G 4096, zI G 4096, zJ G 4096, zI G 18, zI G 18, zI G 18, .inr (4, [.ref (G.2.2 + (Wd0.length + 97)), .int (-2)]), zJ G 4096, oD G (Wd0.length + 99), aM G (Wd0.length + 99), zM, zM, zM, zM, zM, zM, zM, oD G (Wd0.length + 108), aM G (Wd0.length + 108), zM, zM, zM, zM, zM, zM, zM]) rfl] at S
    exact S
  refine W.widen (k := 116) (n := 17158) (Nat.le_of_ble_eq_true rfl) (Nat.le_of_ble_eq_true rfl) ?_
  refine d_aast (ci := 1) (r := (RX1, TX1, 4)) (E1 := [.inr (0, [.ref (G.2.2 + (Wd0.length + 1)), .int 0]), zI G 60, .inr (0, [.ref (G.2.2 + (Wd0.length + 3)), .int 0]), zI G 60, oD G (Wd0.length + 5), aM G (Wd0.length + 5), zM, zM, zM, zM, zM, zM, zM, .inr (2, [.ref (G.2.2 + (Wd0.length + 14)), .int 0]), rD G 8 (fun j => some (G.2.2 + ((Wd0.length + 14) + 1 + 9 * j))), oD G (Wd0.length + 16), aM G (Wd0.length + 16), zM, zM, zM, zM, zM, zM, zM, oD G (Wd0.length + 25), aM G (Wd0.length + 25), zM, zM, zM, zM, zM, zM, zM, oD G (Wd0.length + 34), aM G (Wd0.length + 34), zM, zM, zM, zM, zM, zM, zM, oD G (Wd0.length + 43), aM G (Wd0.length + 43), zM, zM, zM, zM, zM, zM, zM, oD G (Wd0.length + 52), aM G (Wd0.length + 52), zM, zM, zM, zM, zM, zM, zM, oD G (Wd0.length + 61), aM G (Wd0.length + 61), zM, zM, zM, zM, zM, zM, zM, oD G (Wd0.length + 70), aM G (Wd0.length + 70), zM, zM, zM, zM, zM, zM, zM, oD G (Wd0.length + 79), aM G (Wd0.length + 79), zM, zM, zM, zM, zM, zM, zM, rD G 2 (va_up (va_up (fun _ => none) 0 (some (G.2.2 + (Wd0.length + 98)))) 1 (some (G.2.2 + (Wd0.length + 107)))), zZ G 2, .inr (5, [.ref (G.2.2 + ((Wd0.length + 90) + 0)), .ref (G.2.2 + ((Wd0.length + 90) + 1)), .ref (G.2.2 + ((Wd0.length + 90) + 2)), .ref (G.2.2 + ((Wd0.length + 90) + 3)), .ref (G.2.2 + ((Wd0.length + 90) + 4)), .ref (G.2.2 + ((Wd0.length + 90) + 5)), .int 0, .int 0]), zI G 4096, zI G 4096, zJ G 4096, zI G 18, zI G 18, zI G 18, .inr (4, [.ref (G.2.2 + (Wd0.length + 97)), .int (-2)]), zJ G 4096, oD G (Wd0.length + 99), aM G (Wd0.length + 99), zM, zM, zM, zM, zM, zM, zM, oD G (Wd0.length + 108), aM G (Wd0.length + 108), zM, zM, zM, zM, zM, zM, zM]) 4 C S rfl rfl rfl rfl (vp_in_nI (n := 1) (by decide) (by decide)) rfl dX6_init_108 (fun H locs S => ?_)
  refine lv_iinc (v := (2 : Int32)) (lv' := [(1, .int (2 : Int32)), (0, .ref (G.2.2 + k0))]) C.1 C.2.1 dX6_init_109 hl (k := 0) rfl (by decide) (by decide) rfl (fun ls hl => ?_)
  refine lv_goto (tgt := 87) C.1 C.2.1 dX6_init_112 (by decide) ?_
  refine lv_iload_n C.1 C.2.1 dX6_init_87 rfl (lv_at hl 0 rfl) ?_
  refine lv_aload_n C.1 C.2.1 dX6_init_88 rfl (lv_at hl 1 rfl) ?_
  refine d_get (ci := 6) (C := RX6) (T := TX6) (N := 8) (v := .ref (G.2.2 + (Wd0.length + 87))) C inlX6 rfl 4 (by decide) fl_X6_33 rfl hk0 S dX6_init_89 ?_
  refine d_alen 4 (v := (2 : Int32)) C S rfl rfl rfl dX6_init_92 ?_
  refine lv_icmp_ge (tgt := 115) C.1 C.2.1 dX6_init_93 (by decide) (fun _ => ?_) (fun h => absurd (by decide) h)
  have S := d_same (j := 87) (f1 := fun j => some (G.2.2 + (Wd0.length + 98 + 9 * j))) S rfl (dfs_2 _ rfl rfl) rfl
  subst hn
  have S : c_St G (Wd0.set k0 (.inr (6, [.ref (G.2.2 + (Wd0.length + 0)), .ref (G.2.2 + (Wd0.length + 2)), .ref (G.2.2 + (Wd0.length + 4)), .ref (G.2.2 + (Wd0.length + 13)), .ref (G.2.2 + (Wd0.length + 87)), .ref (G.2.2 + (Wd0.length + 88)), .ref (G.2.2 + (Wd0.length + 89)), .ref (G.2.2 + (Wd0.length + 96))])) ++ [.inr (0, [.ref (G.2.2 + (Wd0.length + 1)), .int 0]), zI G 60, .inr (0, [.ref (G.2.2 + (Wd0.length + 3)), .int 0]), zI G 60, oD G (Wd0.length + 5), aM G (Wd0.length + 5), zM, zM, zM, zM, zM, zM, zM, .inr (2, [.ref (G.2.2 + (Wd0.length + 14)), .int 0]), rD G 8 (fun j => some (G.2.2 + ((Wd0.length + 14) + 1 + 9 * j))), oD G (Wd0.length + 16), aM G (Wd0.length + 16), zM, zM, zM, zM, zM, zM, zM, oD G (Wd0.length + 25), aM G (Wd0.length + 25), zM, zM, zM, zM, zM, zM, zM, oD G (Wd0.length + 34), aM G (Wd0.length + 34), zM, zM, zM, zM, zM, zM, zM, oD G (Wd0.length + 43), aM G (Wd0.length + 43), zM, zM, zM, zM, zM, zM, zM, oD G (Wd0.length + 52), aM G (Wd0.length + 52), zM, zM, zM, zM, zM, zM, zM, oD G (Wd0.length + 61), aM G (Wd0.length + 61), zM, zM, zM, zM, zM, zM, zM, oD G (Wd0.length + 70), aM G (Wd0.length + 70), zM, zM, zM, zM, zM, zM, zM, oD G (Wd0.length + 79), aM G (Wd0.length + 79), zM, zM, zM, zM, zM, zM, zM, rD G 2 (fun j => some (G.2.2 + (Wd0.length + 98 + 9 * j))), zZ G 2, .inr (5, [.ref (G.2.2 + ((Wd0.length + 90) + 0)), .ref (G.2.2 + ((Wd0.length + 90) + 1)), .ref (G.2.2 + ((Wd0.length + 90) + 2)), .ref (G.2.2 + ((Wd0.length + 90) + 3)), .ref (G.2.2 + ((Wd0.length + 90) + 4)), .ref (G.2.2 + ((Wd0.length + 90) + 5)), .int 0, .int 0]), zI G 4096, zI G 4096, zJ G 4096, zI G 18, zI G 18, zI G 18, .inr (4, [.ref (G.2.2 + (Wd0.length + 97)), .int (-2)]), zJ G 4096, oD G (Wd0.length + 99), aM G (Wd0.length + 99), zM, zM, zM, zM, zM, zM, zM, oD G (Wd0.length + 108), aM G (Wd0.length + 108), zM, zM, zM, zM, zM, zM, zM]) s.heap H locs := S
  refine W.widen (k := 116) (n := 17158) (Nat.le_of_ble_eq_true rfl) (Nat.le_of_ble_eq_true rfl) ?_
  exact d_ret C hr hlocks dX6_init_115 S
