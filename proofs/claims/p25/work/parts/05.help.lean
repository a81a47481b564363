/-! helpers of the walks -/
theorem kd_0 : s_kd 0 = 6 := by decide
theorem kd_1 : s_kd 1 = 0 := by decide
theorem kd_3 : s_kd 3 = 0 := by decide
theorem kd_5 : s_kd 5 = 1 := by decide
theorem kd_14 : s_kd 14 = 2 := by decide
theorem kd_15 : s_kd 15 = 12 := by decide
theorem kd_88 : s_kd 88 = 12 := by decide
theorem kd_89 : s_kd 89 = 10 := by decide
theorem kd_90 : s_kd 90 = 5 := by decide
theorem kd_91 : s_kd 91 = 8 := by decide
theorem kd_92 : s_kd 92 = 8 := by decide
theorem kd_93 : s_kd 93 = 9 := by decide
theorem kd_94 : s_kd 94 = 8 := by decide
theorem kd_95 : s_kd 95 = 8 := by decide
theorem kd_96 : s_kd 96 = 8 := by decide
theorem kd_97 : s_kd 97 = 4 := by decide
theorem kd_98 : s_kd 98 = 9 := by decide
theorem fn_0_0 : s_fin 0 0 = 1 := by decide
theorem fn_0_1 : s_fin 0 1 = 3 := by decide
theorem fn_0_2 : s_fin 0 2 = 5 := by decide
theorem fn_0_3 : s_fin 0 3 = 14 := by decide
theorem fn_0_4 : s_fin 0 4 = 88 := by decide
theorem fn_0_5 : s_fin 0 5 = 89 := by decide
theorem fn_0_6 : s_fin 0 6 = 90 := by decide
theorem fn_0_7 : s_fin 0 7 = 97 := by decide
theorem fn_14_0 : s_fin 14 0 = 15 := by decide
theorem fn_90_0 : s_fin 90 0 = 91 := by decide
theorem fn_90_1 : s_fin 90 1 = 92 := by decide
theorem fn_90_2 : s_fin 90 2 = 93 := by decide
theorem fn_90_3 : s_fin 90 3 = 94 := by decide
theorem fn_90_4 : s_fin 90 4 = 95 := by decide
theorem fn_90_5 : s_fin 90 5 = 96 := by decide
theorem fn_97_0 : s_fin 97 0 = 98 := by decide
theorem ln_15 : s_len 15 = 8 := by decide
theorem ln_88 : s_len 88 = 2 := by decide
theorem ln_89 : s_len 89 = 2 := by decide
theorem ln_91 : s_len 91 = 4096 := by decide
theorem ln_92 : s_len 92 = 4096 := by decide
theorem ln_93 : s_len 93 = 4096 := by decide
theorem ln_94 : s_len 94 = 18 := by decide
theorem ln_95 : s_len 95 = 18 := by decide
theorem ln_96 : s_len 96 = 18 := by decide
theorem ln_98 : s_len 98 = 4096 := by decide
theorem kdf_X0_0 {k : Nat} (h : s_kd k = 0) : s_kd (s_fin k 0) = 8 := (by decide +kernel : ∀ k, k < 117 → s_kd k = 0 → s_kd (s_fin k 0) = 8) k (s_kd_lt h (by decide)) h
theorem kdf_X1_0 {k : Nat} (h : s_kd k = 1) : s_kd (s_fin k 0) = 11 := (by decide +kernel : ∀ k, k < 117 → s_kd k = 1 → s_kd (s_fin k 0) = 11) k (s_kd_lt h (by decide)) h
theorem kdf_X1_1 {k : Nat} (h : s_kd k = 1) : s_kd (s_fin k 1) = 3 := (by decide +kernel : ∀ k, k < 117 → s_kd k = 1 → s_kd (s_fin k 1) = 3) k (s_kd_lt h (by decide)) h
theorem lnf_X0_0 {k : Nat} (h : s_kd k = 0) : s_len (s_fin k 0) = 60 := (by decide +kernel : ∀ k, k < 117 → s_kd k = 0 → s_len (s_fin k 0) = 60) k (s_kd_lt h (by decide)) h
theorem lnf_X1_0 {k : Nat} (h : s_kd k = 1) : s_len (s_fin k 0) = 6 := (by decide +kernel : ∀ k, k < 117 → s_kd k = 1 → s_len (s_fin k 0) = 6) k (s_kd_lt h (by decide)) h
theorem st_max : Cond.static Lib.Math.max.name ∈ wL := wL_of (tb_3 _ (List.mem_of_getElem? (i := 58) rfl)) rfl
theorem co_max : Cond.code Lib.Math.max.name Lib.Math.max.code 2 (some .int) ∈ wL := wL_of (tb_3 _ (List.mem_of_getElem? (i := 59) (by decide +kernel))) rfl
theorem st_min : Cond.static Lib.Math.min.name ∈ wL := wL_of (tb_2 _ (List.mem_of_getElem? (i := 152) rfl)) rfl
theorem co_min : Cond.code Lib.Math.min.name Lib.Math.min.code 2 (some .int) ∈ wL := wL_of (tb_2 _ (List.mem_of_getElem? (i := 153) (by decide +kernel))) rfl
theorem st_minl : Cond.static Lib.MathLoose.min_long.x ∈ wL := wL_of (tb_3 _ (List.mem_of_getElem? (i := 38) rfl)) rfl
theorem co_minl : Cond.code Lib.MathLoose.min_long.x Lib.MathLoose.min_long.code 4 (some .long) ∈ wL := wL_of (tb_3 _ (List.mem_of_getElem? (i := 39) (by decide +kernel))) rfl
theorem in_math : Cond.initialized "java/lang/Math" ∈ wL := in_J9
theorem vp_lt {k n : Nat} {i : Int32} (hn : s_len k = n) (h : vp_in i n) : i.toNatClampNeg < s_len k := by rw [hn]; exact Nat.not_le.mp fun q => h (Or.inr q)
theorem sw_0_2 (x : Int32) : (x.toInt < 0 ∨ 2 < x.toInt) ∨ x = 0 ∨ x = 1 ∨ x = 2 := by
  by_cases h1 : x.toInt < 0
  · exact Or.inl (Or.inl h1)
  by_cases h2 : 2 < x.toInt
  · exact Or.inl (Or.inr h2)
  refine Or.inr ?_
  have h : x.toInt = 0 ∨ x.toInt = 1 ∨ x.toInt = 2 := by omega
  rcases h with h | h | h
  · exact Or.inl (Int32.toInt_inj.mp h)
  · exact Or.inr (Or.inl (Int32.toInt_inj.mp h))
  · exact Or.inr (Or.inr (Int32.toInt_inj.mp h))
theorem sw_0_3 (x : Int32) : (x.toInt < 0 ∨ 3 < x.toInt) ∨ x = 0 ∨ x = 1 ∨ x = 2 ∨ x = 3 := by
  by_cases h1 : x.toInt < 0
  · exact Or.inl (Or.inl h1)
  by_cases h2 : 3 < x.toInt
  · exact Or.inl (Or.inr h2)
  refine Or.inr ?_
  have h : x.toInt = 0 ∨ x.toInt = 1 ∨ x.toInt = 2 ∨ x.toInt = 3 := by omega
  rcases h with h | h | h | h
  · exact Or.inl (Int32.toInt_inj.mp h)
  · exact Or.inr (Or.inl (Int32.toInt_inj.mp h))
  · exact Or.inr (Or.inr (Or.inl (Int32.toInt_inj.mp h)))
  · exact Or.inr (Or.inr (Or.inr (Int32.toInt_inj.mp h)))
theorem sw_0_7 (x : Int32) : (x.toInt < 0 ∨ 7 < x.toInt) ∨ x = 0 ∨ x = 1 ∨ x = 2 ∨ x = 3 ∨ x = 4 ∨ x = 5 ∨ x = 6 ∨ x = 7 := by
  by_cases h1 : x.toInt < 0
  · exact Or.inl (Or.inl h1)
  by_cases h2 : 7 < x.toInt
  · exact Or.inl (Or.inr h2)
  refine Or.inr ?_
  have h : x.toInt = 0 ∨ x.toInt = 1 ∨ x.toInt = 2 ∨ x.toInt = 3 ∨ x.toInt = 4 ∨ x.toInt = 5 ∨ x.toInt = 6 ∨ x.toInt = 7 := by omega
  rcases h with h | h | h | h | h | h | h | h
  · exact Or.inl (Int32.toInt_inj.mp h)
  · exact Or.inr (Or.inl (Int32.toInt_inj.mp h))
  · exact Or.inr (Or.inr (Or.inl (Int32.toInt_inj.mp h)))
  · exact Or.inr (Or.inr (Or.inr (Or.inl (Int32.toInt_inj.mp h))))
  · exact Or.inr (Or.inr (Or.inr (Or.inr (Or.inl (Int32.toInt_inj.mp h)))))
  · exact Or.inr (Or.inr (Or.inr (Or.inr (Or.inr (Or.inl (Int32.toInt_inj.mp h))))))
  · exact Or.inr (Or.inr (Or.inr (Or.inr (Or.inr (Or.inr (Or.inl (Int32.toInt_inj.mp h)))))))
  · exact Or.inr (Or.inr (Or.inr (Or.inr (Or.inr (Or.inr (Or.inr (Int32.toInt_inj.mp h)))))))
theorem sw_0_10 (x : Int32) : (x.toInt < 0 ∨ 10 < x.toInt) ∨ x = 0 ∨ x = 1 ∨ x = 2 ∨ x = 3 ∨ x = 4 ∨ x = 5 ∨ x = 6 ∨ x = 7 ∨ x = 8 ∨ x = 9 ∨ x = 10 := by
  by_cases h1 : x.toInt < 0
  · exact Or.inl (Or.inl h1)
  by_cases h2 : 10 < x.toInt
  · exact Or.inl (Or.inr h2)
  refine Or.inr ?_
  have h : x.toInt = 0 ∨ x.toInt = 1 ∨ x.toInt = 2 ∨ x.toInt = 3 ∨ x.toInt = 4 ∨ x.toInt = 5 ∨ x.toInt = 6 ∨ x.toInt = 7 ∨ x.toInt = 8 ∨ x.toInt = 9 ∨ x.toInt = 10 := by omega
  rcases h with h | h | h | h | h | h | h | h | h | h | h
  · exact Or.inl (Int32.toInt_inj.mp h)
  · exact Or.inr (Or.inl (Int32.toInt_inj.mp h))
  · exact Or.inr (Or.inr (Or.inl (Int32.toInt_inj.mp h)))
  · exact Or.inr (Or.inr (Or.inr (Or.inl (Int32.toInt_inj.mp h))))
  · exact Or.inr (Or.inr (Or.inr (Or.inr (Or.inl (Int32.toInt_inj.mp h)))))
  · exact Or.inr (Or.inr (Or.inr (Or.inr (Or.inr (Or.inl (Int32.toInt_inj.mp h))))))
  · exact Or.inr (Or.inr (Or.inr (Or.inr (Or.inr (Or.inr (Or.inl (Int32.toInt_inj.mp h)))))))
  · exact Or.inr (Or.inr (Or.inr (Or.inr (Or.inr (Or.inr (Or.inr (Or.inl (Int32.toInt_inj.mp h))))))))
  · exact Or.inr (Or.inr (Or.inr (Or.inr (Or.inr (Or.inr (Or.inr (Or.inr (Or.inl (Int32.toInt_inj.mp h)))))))))
  · exact Or.inr (Or.inr (Or.inr (Or.inr (Or.inr (Or.inr (Or.inr (Or.inr (Or.inr (Or.inl (Int32.toInt_inj.mp h))))))))))
  · exact Or.inr (Or.inr (Or.inr (Or.inr (Or.inr (Or.inr (Or.inr (Or.inr (Or.inr (Or.inr (Int32.toInt_inj.mp h))))))))))
theorem sw_4_9 (x : Int32) : (x.toInt < 4 ∨ 9 < x.toInt) ∨ x = 4 ∨ x = 5 ∨ x = 6 ∨ x = 7 ∨ x = 8 ∨ x = 9 := by
  by_cases h1 : x.toInt < 4
  · exact Or.inl (Or.inl h1)
  by_cases h2 : 9 < x.toInt
  · exact Or.inl (Or.inr h2)
  refine Or.inr ?_
  have h : x.toInt = 4 ∨ x.toInt = 5 ∨ x.toInt = 6 ∨ x.toInt = 7 ∨ x.toInt = 8 ∨ x.toInt = 9 := by omega
  rcases h with h | h | h | h | h | h
  · exact Or.inl (Int32.toInt_inj.mp h)
  · exact Or.inr (Or.inl (Int32.toInt_inj.mp h))
  · exact Or.inr (Or.inr (Or.inl (Int32.toInt_inj.mp h)))
  · exact Or.inr (Or.inr (Or.inr (Or.inl (Int32.toInt_inj.mp h))))
  · exact Or.inr (Or.inr (Or.inr (Or.inr (Or.inl (Int32.toInt_inj.mp h)))))
  · exact Or.inr (Or.inr (Or.inr (Or.inr (Or.inr (Int32.toInt_inj.mp h)))))
theorem lk_0_1 (x : Int32) : (¬ x = 0 ∧ ¬ x = 1) ∨ x = 0 ∨ x = 1 := by
  by_cases h0 : x = 0
  · exact Or.inr (Or.inl h0)
  by_cases h1 : x = 1
  · exact Or.inr (Or.inr h1)
  exact Or.inl ⟨h0, h1⟩
theorem lkd_0_1 {x : Int32} {d o0 o1 : Int} (h : ¬ x = 0 ∧ ¬ x = 1) : Op.lookupswitch.offset [(0, o0), (1, o1)] d x.toInt = d := by
  have a0 : ¬ (0 : Int) = x.toInt := fun q => h.1 (Int32.toInt_inj.mp q.symm)
  have a1 : ¬ (1 : Int) = x.toInt := fun q => h.2 (Int32.toInt_inj.mp q.symm)
  rw [Op.lookupswitch.offset_cons, if_neg a0, Op.lookupswitch.offset_cons, if_neg a1, Op.lookupswitch.offset_nil]
section RET
variable {p : Program} {l : Launch} {e : Env} {R : Room} {s : State} {m : MethodId} {args : Array Value} {below : List Frame} {meth : Method} {c : Code} {H : Heap} {locs : List Loc} {cells slots : Nat}
variable {cc : ByteArray} {pc : Nat} {ls : Array Slot} {G : s_G} {σ : Sg} {own : String}
theorem ret_i (C : s_C G p s args m c own cc) (hr : meth.sig.returnType = some .int) (hlocks : meth.locks = false) {v : Int32} {post : Int32 → Sg → Prop} (hdg : decode cc pc = .ok (.ireturn, 1)) (hp : post v σ) (S : s_St G σ s.heap H locs) : W p l e R s m args below meth c H locs cells slots (MQ below (va_Qi post (s_B G) (s_A G.2.2)) args s cells slots (s_A G.2.2)) (F0 m pc ls [.int v]) :=
  W.iret (v := v) C.1 C.2.1 hr (fun t ht hW => ⟨⟨v, σ, rfl, hp, by rw [ht]; exact S.1, S.2.2⟩, S.2.1.F ht⟩) S.2.1.2.2 hdg hlocks
theorem ret_z (C : s_C G p s args m c own cc) (hr : meth.sig.returnType = some .boolean) (hlocks : meth.locks = false) {v : Int32} {post : Int32 → Sg → Prop} (hdg : decode cc pc = .ok (.ireturn, 1)) (hn : narrow .boolean (.int v) = .int v) (hp : post v σ) (S : s_St G σ s.heap H locs) : W p l e R s m args below meth c H locs cells slots (MQ below (va_Qi post (s_B G) (s_A G.2.2)) args s cells slots (s_A G.2.2)) (F0 m pc ls [.int v]) :=
  W.zret (v := v) C.1 C.2.1 hr hn (fun t ht hW => ⟨⟨v, σ, rfl, hp, by rw [ht]; exact S.1, S.2.2⟩, S.2.1.F ht⟩) S.2.1.2.2 hdg hlocks
theorem ret_l (C : s_C G p s args m c own cc) (hr : meth.sig.returnType = some .long) (hlocks : meth.locks = false) {v : Int64} {post : Int64 → Sg → Prop} (hdg : decode cc pc = .ok (.lreturn, 1)) (hp : post v σ) (S : s_St G σ s.heap H locs) : W p l e R s m args below meth c H locs cells slots (MQ below (va_Ql post (s_B G) (s_A G.2.2)) args s cells slots (s_A G.2.2)) (F0 m pc ls [.long v]) :=
  W.lret (v := v) C.1 C.2.1 hr (fun t ht hW => ⟨⟨v, σ, rfl, hp, by rw [ht]; exact S.1, S.2.2⟩, S.2.1.F ht⟩) S.2.1.2.2 hdg hlocks
theorem ret_v (C : s_C G p s args m c own cc) (hr : meth.sig.returnType = none) (hlocks : meth.locks = false) {post : Sg → Prop} (hdg : decode cc pc = .ok (.return_, 1)) (hp : post σ) (S : s_St G σ s.heap H locs) : W p l e R s m args below meth c H locs cells slots (MQ below (va_Qv post (s_B G) (s_A G.2.2)) args s cells slots (s_A G.2.2)) (F0 m pc ls []) :=
  W.vret C.1 C.2.1 hr (fun t ht hW => ⟨⟨σ, rfl, hp, by rw [ht]; exact S.1, S.2.2⟩, S.2.1.F ht⟩) S.2.1.2.2 hdg hlocks
theorem ret_r (C : s_C G p s args m c own cc) {cn : String} (hr : meth.sig.returnType = some (.object cn)) (hlocks : meth.locks = false) {v : Nat} {post : Nat → Sg → Prop} (hdg : decode cc pc = .ok (.areturn, 1)) (hq : s_kd v = 3) (hp : post v σ) (S : s_St G σ s.heap H locs) : W p l e R s m args below meth c H locs cells slots (MQ below (va_Qr (fun u : Nat × Sg => post u.1 u.2) (s_Br G 3) (s_A G.2.2)) args s cells slots (s_A G.2.2)) (F0 m pc ls [.ref (G.2.2 + v)]) :=
  W.aret (v := .ref (G.2.2 + v)) C.1 C.2.1 hr (Or.inl ⟨_, rfl⟩) (Or.inr ⟨_, rfl⟩) (fun t ht hW => ⟨⟨(v, σ), G.2.2 + v, rfl, hp, rfl, hq, by rw [ht]; exact S.1, S.2.2⟩, S.2.1.F ht⟩) S.2.1.2.2 hdg hlocks
theorem ret2_z (C : s_C G p s args m c own cc) (hr : meth.sig.returnType = some .boolean) (hlocks : meth.locks = false) {v : Int32} {σ : Sg2} {post : Int32 → Sg2 → Prop} (hdg : decode cc pc = .ok (.ireturn, 1)) (hn : narrow .boolean (.int v) = .int v) (hp : post v σ) (S : t_St G σ s.heap H locs) : W p l e R s m args below meth c H locs cells slots (MQ below (va_Qi post (t_B G) (c_A G.2.2)) args s cells slots (c_A G.2.2)) (F0 m pc ls [.int v]) :=
  W.zret (v := v) C.1 C.2.1 hr hn (fun t ht hW => ⟨⟨v, σ, rfl, hp, by rw [ht]; exact S.1, by rw [ht]; exact S.2.1⟩, S.2.2.F ht⟩) S.2.2.2.2 hdg hlocks
end RET
theorem s_C.q {G : s_G} {p : Program} {s : State} {args : Array Value} {m : MethodId} {c : Code} {own : String} {cc : ByteArray} (h : s_C G p s args m c own cc) : s_C (gq G) p s args m c own cc := h
abbrev rm_L_cell : Room := { frames := 0, cells := 0, slots := 0, locals := 0 }
theorem kM_L_cell : s_M yL_cell cL_cell 2 (some .int) 2 := ⟨co_L_cell, in_L, by decide, by decide, by decide +kernel⟩
theorem c_L_cell (l : Launch) (k : Int32) {b L : Nat} {xs : Nat → Int32} (h : k < nI L → vp_in k L) : Met l yL_cell (wsU yL_cell cL_cell 2 (some .int)) rm_L_cell (va_Pc [.ref b, .int k] (x_Pre b L xs)) (va_Qi (fun q (_ : Unit) => q = cellV L xs k) (fun _ _ => True) (fun _ => False)) 0 0 (fun _ => False) := by
  refine Met.ofW (cc := cL_cell) (maxL := 2) (ret := (some .int)) (by decide) rfl ?_
  intro p e s m args below meth c s₁ B hml hv
  obtain ⟨rfl, hX⟩ := hv
  have hw : ∀ w ∈ wL, w.before (([.ref b, .int k] : List Value).toArray) s = true := fun w hw => atoms_spec (ws := wsU yL_cell cL_cell 2 (some .int)) B.pre w (List.mem_cons_of_mem _ hw)
  have hr := B.returns
  have hlocks := B.notSynchronized
  have hX : va_X b L xs s s.heap := hX
  have hS : va_S (fun _ => False) s.heap s.heap [] := va_S.rf
  have hbl : b < s.heap.size := by
    obtain ⟨scr, h1, -⟩ := hX
    exact (Array.getElem?_eq_some_iff.mp h1).1
  have hl := lv_entry ([.ref b, .int k]) (n := 2) (Nat.le_of_ble_eq_true rfl)
  rw [lg_entry_eq]
  generalize (lg_sl ([.ref b, .int k]) ++ List.replicate (2 - (lg_sl ([.ref b, .int k])).length) Slot.unset).toArray = ls at hl ⊢
  have hl : lv_has ls 2 [(0, .ref b), (1, .int k)] := hl
  have fin : ∀ v : Int32, v = cellV L xs k → W p l e rm_L_cell s m (([.ref b, .int k] : List Value).toArray) below meth c s.heap [] 0 0 (MQ below (va_Qi (fun q (_ : Unit) => q = cellV L xs k) (fun _ _ => True) (fun _ => False)) (([.ref b, .int k] : List Value).toArray) s 0 0 (fun _ => False)) (F0 m 18 ls [.int v]) := fun v hv =>
    W.iret (v := v) B.exec B.bytes hr (fun t ht hW => ⟨⟨v, (), rfl, hv, trivial⟩, hS.F ht⟩) hS.2.2 dL_cell_18 hlocks
  refine lv_iload_n B.exec B.bytes dL_cell_0 rfl (lv_at hl 1 rfl) ?_
  refine lv_aload_n B.exec B.bytes dL_cell_1 rfl (lv_at hl 0 rfl) ?_
  refine va_slen B.exec B.bytes hX hbl (fun h => h) hS dL_cell_2 ?_
  refine W.eq (g2 := F0 m 3 ls [.int (nI L), .int k]) rfl ?_
  refine lv_icmp_ge (tgt := 12) B.exec B.bytes dL_cell_3 (by decide) (fun c1 => ?_) (fun c1 => ?_)
  · refine lv_ldc (v := (747796405 : Int32)) B.exec B.bytes (findClass_of_methodNamed B.named) (hw _ ct_L_7) dL_cell_12 ?_
    refine lv_iload_n B.exec B.bytes dL_cell_14 rfl (lv_at hl 1 rfl) ?_
    refine lv_iconst (v := (1 : Int32)) B.exec B.bytes dL_cell_15 (by decide) ?_
    refine lv_iadd B.exec B.bytes dL_cell_16 ?_
    refine lv_imul B.exec B.bytes dL_cell_17 ?_
    exact fin _ (by unfold cellV; rw [if_neg (fun q => absurd c1 (by rw [Int32.not_le]; exact q))])
  · have c2 : k < nI L := by rw [Int32.not_le] at c1; exact c1
    refine lv_aload_n B.exec B.bytes dL_cell_6 rfl (lv_at hl 0 rfl) ?_
    refine lv_iload_n B.exec B.bytes dL_cell_7 rfl (lv_at hl 1 rfl) ?_
    refine va_sld B.exec B.bytes hX hbl (fun h => h) hS (h c2) dL_cell_8 ?_
    refine lv_goto (tgt := 18) B.exec B.bytes dL_cell_9 (by decide) ?_
    exact fin _ (by unfold cellV; rw [if_pos c2])
