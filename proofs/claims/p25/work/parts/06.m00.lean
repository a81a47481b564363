section M0
variable {p : Program} {l : Launch} {e : Env} {R : Room} {s : State} {m : MethodId} {args : Array Value} {below : List Frame} {meth : Method} {c : Code} {H0 : Heap} {cells slots : Nat} {Q : State → Prop} {G : s_G}
/-! J6_bitCount_0f7a4 -/
abbrev rm_J6_bitCount_0f7a4 : Room := { frames := 0, cells := 0, slots := 0, locals := 0 }
def wpJ6_bitCount_0f7a4 (x0 : Int32) (σ : Sg) (post : Int32 → Sg → Prop) : Prop := post (((((((((x0 - ((((x0).toUInt32 >>> (((1 : Int32)).toUInt32 &&& Int32.toUInt32 31)).toInt32) &&& (1431655765 : Int32))) &&& (858993459 : Int32)) + (((((x0 - ((((x0).toUInt32 >>> (((1 : Int32)).toUInt32 &&& Int32.toUInt32 31)).toInt32) &&& (1431655765 : Int32)))).toUInt32 >>> (((2 : Int32)).toUInt32 &&& Int32.toUInt32 31)).toInt32) &&& (858993459 : Int32))) + ((((((x0 - ((((x0).toUInt32 >>> (((1 : Int32)).toUInt32 &&& Int32.toUInt32 31)).toInt32) &&& (1431655765 : Int32))) &&& (858993459 : Int32)) + (((((x0 - ((((x0).toUInt32 >>> (((1 : Int32)).toUInt32 &&& Int32.toUInt32 31)).toInt32) &&& (1431655765 : Int32)))).toUInt32 >>> (((2 : Int32)).toUInt32 &&& Int32.toUInt32 31)).toInt32) &&& (858993459 : Int32)))).toUInt32 >>> (((4 : Int32)).toUInt32 &&& Int32.toUInt32 31)).toInt32)) &&& (252645135 : Int32)) + ((((((((x0 - ((((x0).toUInt32 >>> (((1 : Int32)).toUInt32 &&& Int32.toUInt32 31)).toInt32) &&& (1431655765 : Int32))) &&& (858993459 : Int32)) + (((((x0 - ((((x0).toUInt32 >>> (((1 : Int32)).toUInt32 &&& Int32.toUInt32 31)).toInt32) &&& (1431655765 : Int32)))).toUInt32 >>> (((2 : Int32)).toUInt32 &&& Int32.toUInt32 31)).toInt32) &&& (858993459 : Int32))) + ((((((x0 - ((((x0).toUInt32 >>> (((1 : Int32)).toUInt32 &&& Int32.toUInt32 31)).toInt32) &&& (1431655765 : Int32))) &&& (858993459 : Int32)) + (((((x0 - ((((x0).toUInt32 >>> (((1 : Int32)).toUInt32 &&& Int32.toUInt32 31)).toInt32) &&& (1431655765 : Int32)))).toUInt32 >>> (((2 : Int32)).toUInt32 &&& Int32.toUInt32 31)).toInt32) &&& (858993459 : Int32)))).toUInt32 >>> (((4 : Int32)).toUInt32 &&& Int32.toUInt32 31)).toInt32)) &&& (252645135 : Int32))).toUInt32 >>> (((8 : Int32)).toUInt32 &&& Int32.toUInt32 31)).toInt32)) + (((((((((x0 - ((((x0).toUInt32 >>> (((1 : Int32)).toUInt32 &&& Int32.toUInt32 31)).toInt32) &&& (1431655765 : Int32))) &&& (858993459 : Int32)) + (((((x0 - ((((x0).toUInt32 >>> (((1 : Int32)).toUInt32 &&& Int32.toUInt32 31)).toInt32) &&& (1431655765 : Int32)))).toUInt32 >>> (((2 : Int32)).toUInt32 &&& Int32.toUInt32 31)).toInt32) &&& (858993459 : Int32))) + ((((((x0 - ((((x0).toUInt32 >>> (((1 : Int32)).toUInt32 &&& Int32.toUInt32 31)).toInt32) &&& (1431655765 : Int32))) &&& (858993459 : Int32)) + (((((x0 - ((((x0).toUInt32 >>> (((1 : Int32)).toUInt32 &&& Int32.toUInt32 31)).toInt32) &&& (1431655765 : Int32)))).toUInt32 >>> (((2 : Int32)).toUInt32 &&& Int32.toUInt32 31)).toInt32) &&& (858993459 : Int32)))).toUInt32 >>> (((4 : Int32)).toUInt32 &&& Int32.toUInt32 31)).toInt32)) &&& (252645135 : Int32)) + ((((((((x0 - ((((x0).toUInt32 >>> (((1 : Int32)).toUInt32 &&& Int32.toUInt32 31)).toInt32) &&& (1431655765 : Int32))) &&& (858993459 : Int32)) + (((((x0 - ((((x0).toUInt32 >>> (((1 : Int32)).toUInt32 &&& Int32.toUInt32 31)).toInt32) &&& (1431655765 : Int32)))).toUInt32 >>> (((2 : Int32)).toUInt32 &&& Int32.toUInt32 31)).toInt32) &&& (858993459 : Int32))) + ((((((x0 - ((((x0).toUInt32 >>> (((1 : Int32)).toUInt32 &&& Int32.toUInt32 31)).toInt32) &&& (1431655765 : Int32))) &&& (858993459 : Int32)) + (((((x0 - ((((x0).toUInt32 >>> (((1 : Int32)).toUInt32 &&& Int32.toUInt32 31)).toInt32) &&& (1431655765 : Int32)))).toUInt32 >>> (((2 : Int32)).toUInt32 &&& Int32.toUInt32 31)).toInt32) &&& (858993459 : Int32)))).toUInt32 >>> (((4 : Int32)).toUInt32 &&& Int32.toUInt32 31)).toInt32)) &&& (252645135 : Int32))).toUInt32 >>> (((8 : Int32)).toUInt32 &&& Int32.toUInt32 31)).toInt32))).toUInt32 >>> (((16 : Int32)).toUInt32 &&& Int32.toUInt32 31)).toInt32)) &&& (63 : Int32))) σ
theorem kM_J6_bitCount_0f7a4 : s_M yJ6_bitCount_0f7a4 cJ6_bitCount_0f7a4 1 (some .int) 1 := ⟨co_J6_bitCount_0f7a4, in_J6, by decide, by decide, by decide +kernel⟩
set_option maxHeartbeats 4000000 in
set_option maxRecDepth 100000 in
theorem c_J6_bitCount_0f7a4 (l : Launch) (G : s_G) (x0 : Int32) (σ : Sg) (post : Int32 → Sg → Prop) (h : wpJ6_bitCount_0f7a4 x0 σ post) : Met l yJ6_bitCount_0f7a4 (wsU yJ6_bitCount_0f7a4 cJ6_bitCount_0f7a4 1 (some .int)) rm_J6_bitCount_0f7a4 (va_Pc [.int x0] (s_Pre G σ)) (va_Qi post (s_B G) (s_A G.2.2)) 0 0 (s_A G.2.2) := by
  refine Met.ofW (cc := cJ6_bitCount_0f7a4) (maxL := 1) (ret := (some .int)) (by decide) rfl ?_
  intro p e s m args below meth c s₁ B hml hv
  obtain ⟨rfl, hP, hrok, hK, hN⟩ := hv
  have C : s_C G p s (([.int x0] : List Value).toArray) m c RJ6 cJ6_bitCount_0f7a4 := ⟨B.exec, B.bytes, findClass_of_methodNamed B.named, fun w hw => atoms_spec (ws := wsU yJ6_bitCount_0f7a4 cJ6_bitCount_0f7a4 1 (some .int)) B.pre w (List.mem_cons_of_mem _ hw), hK, hN⟩
  have hr := B.returns
  have hlocks := B.notSynchronized
  have S : s_St G σ s.heap s.heap [] := ⟨hP, va_S.rf, hrok⟩
  have hcs : 0 ≤ (rm_J6_bitCount_0f7a4).cells ∧ 0 ≤ (rm_J6_bitCount_0f7a4).slots := ⟨Nat.le_refl 0, Nat.le_refl 0⟩
  have hR : ∀ (r : Int32) (σ1 : Sg) (H : Heap) (locs : List Loc) (pc : Nat) (ls : Array Slot), decode cJ6_bitCount_0f7a4 pc = .ok (.ireturn, 1) → post r σ1 → s_St G σ1 s.heap H locs → W p l e rm_J6_bitCount_0f7a4 s m ([.int x0] : List Value).toArray below meth c H locs 0 0 (MQ below (va_Qi post (s_B G) (s_A G.2.2)) ([.int x0] : List Value).toArray s 0 0 (s_A G.2.2)) (F0 m pc ls [.int r]) := fun _ _ _ _ _ _ hd hp S => ret_i C hr hlocks hd hp S
  have hl := lv_entry ([.int x0]) (n := 1) (Nat.le_of_ble_eq_true rfl)
  rw [lg_entry_eq]
  generalize (lg_sl ([.int x0]) ++ List.replicate (1 - (lg_sl ([.int x0])).length) Slot.unset).toArray = ls at hl ⊢
  have hl : lv_has ls 1 [(0, .int x0)] := hl
  unfold wpJ6_bitCount_0f7a4 at h
  refine lv_iload_n C.1 C.2.1 dJ6_bitCount_0f7a4_0 rfl (lv_at hl 0 rfl) ?_
  refine lv_iload_n C.1 C.2.1 dJ6_bitCount_0f7a4_1 rfl (lv_at hl 0 rfl) ?_
  refine lv_iconst (v := (1 : Int32)) C.1 C.2.1 dJ6_bitCount_0f7a4_2 (by decide) ?_
  refine lv_iushr C.1 C.2.1 dJ6_bitCount_0f7a4_3 rfl ?_
  refine lv_ldcw (v := (1431655765 : Int32)) C.1 C.2.1 C.2.2.1 (C.2.2.2.1 _ ct_J6_265) dJ6_bitCount_0f7a4_4 ?_
  refine lv_iand C.1 C.2.1 dJ6_bitCount_0f7a4_7 ?_
  refine lv_isub C.1 C.2.1 dJ6_bitCount_0f7a4_8 ?_
  refine lv_istore_n (lv' := [(0, .int (x0 - ((((x0).toUInt32 >>> (((1 : Int32)).toUInt32 &&& Int32.toUInt32 31)).toInt32) &&& (1431655765 : Int32))))]) C.1 C.2.1 dJ6_bitCount_0f7a4_9 rfl hl (by decide) rfl (fun ls hl => ?_)
  refine lv_iload_n C.1 C.2.1 dJ6_bitCount_0f7a4_10 rfl (lv_at hl 0 rfl) ?_
  refine lv_ldcw (v := (858993459 : Int32)) C.1 C.2.1 C.2.2.1 (C.2.2.2.1 _ ct_J6_266) dJ6_bitCount_0f7a4_11 ?_
  refine lv_iand C.1 C.2.1 dJ6_bitCount_0f7a4_14 ?_
  refine lv_iload_n C.1 C.2.1 dJ6_bitCount_0f7a4_15 rfl (lv_at hl 0 rfl) ?_
  refine lv_iconst (v := (2 : Int32)) C.1 C.2.1 dJ6_bitCount_0f7a4_16 (by decide) ?_
  refine lv_iushr C.1 C.2.1 dJ6_bitCount_0f7a4_17 rfl ?_
  refine lv_ldcw (v := (858993459 : Int32)) C.1 C.2.1 C.2.2.1 (C.2.2.2.1 _ ct_J6_266) dJ6_bitCount_0f7a4_18 ?_
  refine lv_iand C.1 C.2.1 dJ6_bitCount_0f7a4_21 ?_
  refine lv_iadd C.1 C.2.1 dJ6_bitCount_0f7a4_22 ?_
  refine lv_istore_n (lv' := [(0, .int (((x0 - ((((x0).toUInt32 >>> (((1 : Int32)).toUInt32 &&& Int32.toUInt32 31)).toInt32) &&& (1431655765 : Int32))) &&& (858993459 : Int32)) + (((((x0 - ((((x0).toUInt32 >>> (((1 : Int32)).toUInt32 &&& Int32.toUInt32 31)).toInt32) &&& (1431655765 : Int32)))).toUInt32 >>> (((2 : Int32)).toUInt32 &&& Int32.toUInt32 31)).toInt32) &&& (858993459 : Int32))))]) C.1 C.2.1 dJ6_bitCount_0f7a4_23 rfl hl (by decide) rfl (fun ls hl => ?_)
  refine lv_iload_n C.1 C.2.1 dJ6_bitCount_0f7a4_24 rfl (lv_at hl 0 rfl) ?_
  refine lv_iload_n C.1 C.2.1 dJ6_bitCount_0f7a4_25 rfl (lv_at hl 0 rfl) ?_
  refine lv_iconst (v := (4 : Int32)) C.1 C.2.1 dJ6_bitCount_0f7a4_26 (by decide) ?_
  refine lv_iushr C.1 C.2.1 dJ6_bitCount_0f7a4_27 rfl ?_
  refine lv_iadd C.1 C.2.1 dJ6_bitCount_0f7a4_28 ?_
  refine lv_ldcw (v := (252645135 : Int32)) C.1 C.2.1 C.2.2.1 (C.2.2.2.1 _ ct_J6_267) dJ6_bitCount_0f7a4_29 ?_
  refine lv_iand C.1 C.2.1 dJ6_bitCount_0f7a4_32 ?_
  refine lv_istore_n (lv' := [(0, .int (((((x0 - ((((x0).toUInt32 >>> (((1 : Int32)).toUInt32 &&& Int32.toUInt32 31)).toInt32) &&& (1431655765 : Int32))) &&& (858993459 : Int32)) + (((((x0 - ((((x0).toUInt32 >>> (((1 : Int32)).toUInt32 &&& Int32.toUInt32 31)).toInt32) &&& (1431655765 : Int32)))).toUInt32 >>> (((2 : Int32)).toUInt32 &&& Int32.toUInt32 31)).toInt32) &&& (858993459 : Int32))) + ((((((x0 - ((((x0).toUInt32 >>> (((1 : Int32)).toUInt32 &&& Int32.toUInt32 31)).toInt32) &&& (1431655765 : Int32))) &&& (858993459 : Int32)) + (((((x0 - ((((x0).toUInt32 >>> (((1 : Int32)).toUInt32 &&& Int32.toUInt32 31)).toInt32) &&& (1431655765 : Int32)))).toUInt32 >>> (((2 : Int32)).toUInt32 &&& Int32.toUInt32 31)).toInt32) &&& (858993459 : Int32)))).toUInt32 >>> (((4 : Int32)).toUInt32 &&& Int32.toUInt32 31)).toInt32)) &&& (252645135 : Int32)))]) C.1 C.2.1 dJ6_bitCount_0f7a4_33 rfl hl (by decide) rfl (fun ls hl => ?_)
  refine lv_iload_n C.1 C.2.1 dJ6_bitCount_0f7a4_34 rfl (lv_at hl 0 rfl) ?_
  refine lv_iload_n C.1 C.2.1 dJ6_bitCount_0f7a4_35 rfl (lv_at hl 0 rfl) ?_
  refine lv_bipush (v := (8 : Int32)) C.1 C.2.1 dJ6_bitCount_0f7a4_36 (by decide) ?_
  refine lv_iushr C.1 C.2.1 dJ6_bitCount_0f7a4_38 rfl ?_
  refine lv_iadd C.1 C.2.1 dJ6_bitCount_0f7a4_39 ?_
  refine lv_istore_n (lv' := [(0, .int ((((((x0 - ((((x0).toUInt32 >>> (((1 : Int32)).toUInt32 &&& Int32.toUInt32 31)).toInt32) &&& (1431655765 : Int32))) &&& (858993459 : Int32)) + (((((x0 - ((((x0).toUInt32 >>> (((1 : Int32)).toUInt32 &&& Int32.toUInt32 31)).toInt32) &&& (1431655765 : Int32)))).toUInt32 >>> (((2 : Int32)).toUInt32 &&& Int32.toUInt32 31)).toInt32) &&& (858993459 : Int32))) + ((((((x0 - ((((x0).toUInt32 >>> (((1 : Int32)).toUInt32 &&& Int32.toUInt32 31)).toInt32) &&& (1431655765 : Int32))) &&& (858993459 : Int32)) + (((((x0 - ((((x0).toUInt32 >>> (((1 : Int32)).toUInt32 &&& Int32.toUInt32 31)).toInt32) &&& (1431655765 : Int32)))).toUInt32 >>> (((2 : Int32)).toUInt32 &&& Int32.toUInt32 31)).toInt32) &&& (858993459 : Int32)))).toUInt32 >>> (((4 : Int32)).toUInt32 &&& Int32.toUInt32 31)).toInt32)) &&& (252645135 : Int32)) + ((((((((x0 - ((((x0).toUInt32 >>> (((1 : Int32)).toUInt32 &&& Int32.toUInt32 31)).toInt32) &&& (1431655765 : Int32))) &&& (858993459 : Int32)) + (((((x0 - ((((x0).toUInt32 >>> (((1 : Int32)).toUInt32 &&& Int32.toUInt32 31)).toInt32) &&& (1431655765 : Int32)))).toUInt32 >>> (((2 : Int32)).toUInt32 &&& Int32.toUInt32 31)).toInt32) &&& (858993459 : Int32))) + ((((((x0 - ((((x0).toUInt32 >>> (((1 : Int32)).toUInt32 &&& Int32.toUInt32 31)).toInt32) &&& (1431655765 : Int32))) &&& (858993459 : Int32)) + (((((x0 - ((((x0).toUInt32 >>> (((1 : Int32)).toUInt32 &&& Int32.toUInt32 31)).toInt32) &&& (1431655765 : Int32)))).toUInt32 >>> (((2 : Int32)).toUInt32 &&& Int32.toUInt32 31)).toInt32) &&& (858993459 : Int32)))).toUInt32 >>> (((4 : Int32)).toUInt32 &&& Int32.toUInt32 31)).toInt32)) &&& (252645135 : Int32))).toUInt32 >>> (((8 : Int32)).toUInt32 &&& Int32.toUInt32 31)).toInt32)))]) C.1 C.2.1 dJ6_bitCount_0f7a4_40 rfl hl (by decide) rfl (fun ls hl => ?_)
  refine lv_iload_n C.1 C.2.1 dJ6_bitCount_0f7a4_41 rfl (lv_at hl 0 rfl) ?_
  refine lv_iload_n C.1 C.2.1 dJ6_bitCount_0f7a4_42 rfl (lv_at hl 0 rfl) ?_
  refine lv_bipush (v := (16 : Int32)) C.1 C.2.1 dJ6_bitCount_0f7a4_43 (by decide) ?_
  refine lv_iushr C.1 C.2.1 dJ6_bitCount_0f7a4_45 rfl ?_
  refine lv_iadd C.1 C.2.1 dJ6_bitCount_0f7a4_46 ?_
  refine lv_istore_n (lv' := [(0, .int (((((((x0 - ((((x0).toUInt32 >>> (((1 : Int32)).toUInt32 &&& Int32.toUInt32 31)).toInt32) &&& (1431655765 : Int32))) &&& (858993459 : Int32)) + (((((x0 - ((((x0).toUInt32 >>> (((1 : Int32)).toUInt32 &&& Int32.toUInt32 31)).toInt32) &&& (1431655765 : Int32)))).toUInt32 >>> (((2 : Int32)).toUInt32 &&& Int32.toUInt32 31)).toInt32) &&& (858993459 : Int32))) + ((((((x0 - ((((x0).toUInt32 >>> (((1 : Int32)).toUInt32 &&& Int32.toUInt32 31)).toInt32) &&& (1431655765 : Int32))) &&& (858993459 : Int32)) + (((((x0 - ((((x0).toUInt32 >>> (((1 : Int32)).toUInt32 &&& Int32.toUInt32 31)).toInt32) &&& (1431655765 : Int32)))).toUInt32 >>> (((2 : Int32)).toUInt32 &&& Int32.toUInt32 31)).toInt32) &&& (858993459 : Int32)))).toUInt32 >>> (((4 : Int32)).toUInt32 &&& Int32.toUInt32 31)).toInt32)) &&& (252645135 : Int32)) + ((((((((x0 - ((((x0).toUInt32 >>> (((1 : Int32)).toUInt32 &&& Int32.toUInt32 31)).toInt32) &&& (1431655765 : Int32))) &&& (858993459 : Int32)) + (((((x0 - ((((x0).toUInt32 >>> (((1 : Int32)).toUInt32 &&& Int32.toUInt32 31)).toInt32) &&& (1431655765 : Int32)))).toUInt32 >>> (((2 : Int32)).toUInt32 &&& Int32.toUInt32 31)).toInt32) &&& (858993459 : Int32))) + ((((((x0 - ((((x0).toUInt32 >>> (((1 : Int32)).toUInt32 &&& Int32.toUInt32 31)).toInt32) &&& (1431655765 : Int32))) &&& (858993459 : Int32)) + (((((x0 - ((((x0).toUInt32 >>> (((1 : Int32)).toUInt32 &&& Int32.toUInt32 31)).toInt32) &&& (1431655765 : Int32)))).toUInt32 >>> (((2 : Int32)).toUInt32 &&& Int32.toUInt32 31)).toInt32) &&& (858993459 : Int32)))).toUInt32 >>> (((4 : Int32)).toUInt32 &&& Int32.toUInt32 31)).toInt32)) &&& (252645135 : Int32))).toUInt32 >>> (((8 : Int32)).toUInt32 &&& Int32.toUInt32 31)).toInt32)) + (((((((((x0 - ((((x0).toUInt32 >>> (((1 : Int32)).toUInt32 &&& Int32.toUInt32 31)).toInt32) &&& (1431655765 : Int32))) &&& (858993459 : Int32)) + (((((x0 - ((((x0).toUInt32 >>> (((1 : Int32)).toUInt32 &&& Int32.toUInt32 31)).toInt32) &&& (1431655765 : Int32)))).toUInt32 >>> (((2 : Int32)).toUInt32 &&& Int32.toUInt32 31)).toInt32) &&& (858993459 : Int32))) + ((((((x0 - ((((x0).toUInt32 >>> (((1 : Int32)).toUInt32 &&& Int32.toUInt32 31)).toInt32) &&& (1431655765 : Int32))) &&& (858993459 : Int32)) + (((((x0 - ((((x0).toUInt32 >>> (((1 : Int32)).toUInt32 &&& Int32.toUInt32 31)).toInt32) &&& (1431655765 : Int32)))).toUInt32 >>> (((2 : Int32)).toUInt32 &&& Int32.toUInt32 31)).toInt32) &&& (858993459 : Int32)))).toUInt32 >>> (((4 : Int32)).toUInt32 &&& Int32.toUInt32 31)).toInt32)) &&& (252645135 : Int32)) + ((((((((x0 - ((((x0).toUInt32 >>> (((1 : Int32)).toUInt32 &&& Int32.toUInt32 31)).toInt32) &&& (1431655765 : Int32))) &&& (858993459 : Int32)) + (((((x0 - ((((x0).toUInt32 >>> (((1 : Int32)).toUInt32 &&& Int32.toUInt32 31)).toInt32) &&& (1431655765 : Int32)))).toUInt32 >>> (((2 : Int32)).toUInt32 &&& Int32.toUInt32 31)).toInt32) &&& (858993459 : Int32))) + ((((((x0 - ((((x0).toUInt32 >>> (((1 : Int32)).toUInt32 &&& Int32.toUInt32 31)).toInt32) &&& (1431655765 : Int32))) &&& (858993459 : Int32)) + (((((x0 - ((((x0).toUInt32 >>> (((1 : Int32)).toUInt32 &&& Int32.toUInt32 31)).toInt32) &&& (1431655765 : Int32)))).toUInt32 >>> (((2 : Int32)).toUInt32 &&& Int32.toUInt32 31)).toInt32) &&& (858993459 : Int32)))).toUInt32 >>> (((4 : Int32)).toUInt32 &&& Int32.toUInt32 31)).toInt32)) &&& (252645135 : Int32))).toUInt32 >>> (((8 : Int32)).toUInt32 &&& Int32.toUInt32 31)).toInt32))).toUInt32 >>> (((16 : Int32)).toUInt32 &&& Int32.toUInt32 31)).toInt32)))]) C.1 C.2.1 dJ6_bitCount_0f7a4_47 rfl hl (by decide) rfl (fun ls hl => ?_)
  refine lv_iload_n C.1 C.2.1 dJ6_bitCount_0f7a4_48 rfl (lv_at hl 0 rfl) ?_
  refine lv_bipush (v := (63 : Int32)) C.1 C.2.1 dJ6_bitCount_0f7a4_49 (by decide) ?_
  refine lv_iand C.1 C.2.1 dJ6_bitCount_0f7a4_51 ?_
  exact hR _ _ _ _ _ _ dJ6_bitCount_0f7a4_52 h S
/-! X5_waysFrom -/
abbrev rm_X5_waysFrom : Room := { frames := 0, cells := 0, slots := 0, locals := 0 }
def wpX5_waysFrom (x1 : Int32) (σ : Sg) (post : Int64 → Sg → Prop) : Prop := (((x1 < 0) → post ((0 : Int64)) σ) ∧ ((¬ x1 < 0) → ((((4096 : Int32) ≤ x1) → post ((0 : Int64)) σ) ∧ ((¬ (4096 : Int32) ≤ x1) → (vp_in x1 4096 ∧ post ((σ.2.1 93 (x1).toNatClampNeg)) σ)))))
theorem kM_X5_waysFrom : s_M yX5_waysFrom cX5_waysFrom 2 (some .long) 1 := ⟨co_X5_waysFrom, in_X5, by decide, by decide, by decide +kernel⟩
set_option maxHeartbeats 4000000 in
set_option maxRecDepth 100000 in
theorem c_X5_waysFrom (l : Launch) (G : s_G) (x1 : Int32) (σ : Sg) (post : Int64 → Sg → Prop) (h : wpX5_waysFrom x1 σ post) : Met l yX5_waysFrom (wsU yX5_waysFrom cX5_waysFrom 2 (some .long)) rm_X5_waysFrom (va_Pc [.ref (G.2.2 + 90), .int x1] (s_Pre G σ)) (va_Ql post (s_B G) (s_A G.2.2)) 0 0 (s_A G.2.2) := by
  refine Met.ofW (cc := cX5_waysFrom) (maxL := 2) (ret := (some .long)) (by decide) rfl ?_
  intro p e s m args below meth c s₁ B hml hv
  obtain ⟨rfl, hP, hrok, hK, hN⟩ := hv
  have C : s_C G p s (([.ref (G.2.2 + 90), .int x1] : List Value).toArray) m c RX5 cX5_waysFrom := ⟨B.exec, B.bytes, findClass_of_methodNamed B.named, fun w hw => atoms_spec (ws := wsU yX5_waysFrom cX5_waysFrom 2 (some .long)) B.pre w (List.mem_cons_of_mem _ hw), hK, hN⟩
  have hr := B.returns
  have hlocks := B.notSynchronized
  have S : s_St G σ s.heap s.heap [] := ⟨hP, va_S.rf, hrok⟩
  have hcs : 0 ≤ (rm_X5_waysFrom).cells ∧ 0 ≤ (rm_X5_waysFrom).slots := ⟨Nat.le_refl 0, Nat.le_refl 0⟩
  have hR : ∀ (r : Int64) (σ1 : Sg) (H : Heap) (locs : List Loc) (pc : Nat) (ls : Array Slot), decode cX5_waysFrom pc = .ok (.lreturn, 1) → post r σ1 → s_St G σ1 s.heap H locs → W p l e rm_X5_waysFrom s m ([.ref (G.2.2 + 90), .int x1] : List Value).toArray below meth c H locs 0 0 (MQ below (va_Ql post (s_B G) (s_A G.2.2)) ([.ref (G.2.2 + 90), .int x1] : List Value).toArray s 0 0 (s_A G.2.2)) (F0 m pc ls [.long r]) := fun _ _ _ _ _ _ hd hp S => ret_l C hr hlocks hd hp S
  have hl := lv_entry ([.ref (G.2.2 + 90), .int x1]) (n := 2) (Nat.le_of_ble_eq_true rfl)
  rw [lg_entry_eq]
  generalize (lg_sl ([.ref (G.2.2 + 90), .int x1]) ++ List.replicate (2 - (lg_sl ([.ref (G.2.2 + 90), .int x1])).length) Slot.unset).toArray = ls at hl ⊢
  have hl : lv_has ls 2 [(0, .ref (G.2.2 + 90)), (1, .int x1)] := hl
  unfold wpX5_waysFrom at h
  refine lv_iload_n C.1 C.2.1 dX5_waysFrom_0 rfl (lv_at hl 1 rfl) ?_
  refine lv_if_lt (tgt := 22) C.1 C.2.1 dX5_waysFrom_1 (by decide) (fun c1 => ?_) (fun c1 => ?_)
  · replace h := h.1 c1
    refine lv_lconst (v := (0 : Int64)) C.1 C.2.1 dX5_waysFrom_22 (by decide) ?_
    exact hR _ _ _ _ _ _ dX5_waysFrom_23 h S
  · replace h := h.2 c1
    refine lv_iload_n C.1 C.2.1 dX5_waysFrom_4 rfl (lv_at hl 1 rfl) ?_
    refine lv_aload_n C.1 C.2.1 dX5_waysFrom_5 rfl (lv_at hl 0 rfl) ?_
    refine g_X5_2 C fl_X5_18 kd_90 S fn_90_2 dX5_waysFrom_6 ?_
    refine a_len9 C kd_93 S (v := (4096 : Int32)) (by rw [ln_93]; rfl) dX5_waysFrom_9 ?_
    refine lv_icmp_ge (tgt := 22) C.1 C.2.1 dX5_waysFrom_10 (by decide) (fun c2 => ?_) (fun c2 => ?_)
    · replace h := h.1 c2
      refine lv_lconst (v := (0 : Int64)) C.1 C.2.1 dX5_waysFrom_22 (by decide) ?_
      exact hR _ _ _ _ _ _ dX5_waysFrom_23 h S
    · replace h := h.2 c2
      refine lv_aload_n C.1 C.2.1 dX5_waysFrom_13 rfl (lv_at hl 0 rfl) ?_
      refine g_X5_2 C fl_X5_18 kd_90 S fn_90_2 dX5_waysFrom_14 ?_
      refine lv_iload_n C.1 C.2.1 dX5_waysFrom_17 rfl (lv_at hl 1 rfl) ?_
      refine a_lld C kd_93 S ln_93 h.1 dX5_waysFrom_18 ?_
      replace h := h.2
      refine lv_goto (tgt := 23) C.1 C.2.1 dX5_waysFrom_19 (by decide) ?_
      exact hR _ _ _ _ _ _ dX5_waysFrom_23 h S
/-! X5_exists -/
abbrev rm_X5_exists : Room := { frames := 1, cells := 0, slots := 0, locals := 21 }
def wpX5_exists  (σ : Sg) (post : Int32 → Sg → Prop) : Prop := wpX5_waysFrom ((0 : Int32)) σ (fun r2 σ1 => ((((lg_cmp r2 (0 : Int64)) ≤ 0) → post (0 : Int32) σ1) ∧ ((¬ (lg_cmp r2 (0 : Int64)) ≤ 0) → post (1 : Int32) σ1)))
theorem kM_X5_exists : s_M yX5_exists cX5_exists 1 (some .boolean) 0 := ⟨co_X5_exists, in_X5, by decide, by decide, by decide +kernel⟩
set_option maxHeartbeats 4000000 in
set_option maxRecDepth 100000 in
theorem c_X5_exists (l : Launch) (G : s_G)  (σ : Sg) (post : Int32 → Sg → Prop) (h : wpX5_exists σ post) : Met l yX5_exists (wsU yX5_exists cX5_exists 1 (some .boolean)) rm_X5_exists (va_Pc [.ref (G.2.2 + 90)] (s_Pre G σ)) (va_Qi post (s_B G) (s_A G.2.2)) 0 0 (s_A G.2.2) := by
  refine Met.ofW (cc := cX5_exists) (maxL := 1) (ret := (some .boolean)) (by decide) rfl ?_
  intro p e s m args below meth c s₁ B hml hv
  obtain ⟨rfl, hP, hrok, hK, hN⟩ := hv
  have C : s_C G p s (([.ref (G.2.2 + 90)] : List Value).toArray) m c RX5 cX5_exists := ⟨B.exec, B.bytes, findClass_of_methodNamed B.named, fun w hw => atoms_spec (ws := wsU yX5_exists cX5_exists 1 (some .boolean)) B.pre w (List.mem_cons_of_mem _ hw), hK, hN⟩
  have hr := B.returns
  have hlocks := B.notSynchronized
  have S : s_St G σ s.heap s.heap [] := ⟨hP, va_S.rf, hrok⟩
  have hcs : 0 ≤ (rm_X5_exists).cells ∧ 0 ≤ (rm_X5_exists).slots := ⟨Nat.le_refl 0, Nat.le_refl 0⟩
  have hR : ∀ (r : Int32) (σ1 : Sg) (H : Heap) (locs : List Loc) (pc : Nat) (ls : Array Slot), decode cX5_exists pc = .ok (.ireturn, 1) → narrow .boolean (.int r) = .int r → post r σ1 → s_St G σ1 s.heap H locs → W p l e rm_X5_exists s m ([.ref (G.2.2 + 90)] : List Value).toArray below meth c H locs 0 0 (MQ below (va_Qi post (s_B G) (s_A G.2.2)) ([.ref (G.2.2 + 90)] : List Value).toArray s 0 0 (s_A G.2.2)) (F0 m pc ls [.int r]) := fun _ _ _ _ _ _ hd hn hp S => ret_z C hr hlocks hd hn hp S
  have hl := lv_entry ([.ref (G.2.2 + 90)]) (n := 1) (Nat.le_of_ble_eq_true rfl)
  rw [lg_entry_eq]
  generalize (lg_sl ([.ref (G.2.2 + 90)]) ++ List.replicate (1 - (lg_sl ([.ref (G.2.2 + 90)])).length) Slot.unset).toArray = ls at hl ⊢
  have hl : lv_has ls 1 [(0, .ref (G.2.2 + 90))] := hl
  unfold wpX5_exists at h
  refine lv_aload_n C.1 C.2.1 dX5_exists_0 rfl (lv_at hl 0 rfl) ?_
  refine lv_iconst (v := (0 : Int32)) C.1 C.2.1 dX5_exists_1 (by decide) ?_
  refine k_l (r_V (As := [.int (0 : Int32)]) (rest := []) C hml (c_X5_waysFrom l G ((0 : Int32)) σ _ h) kM_X5_waysFrom im_X5_waysFrom se_X5_waysFrom ml_X5_45 ⟨rfl, rfl⟩ ⟨Nat.le_of_ble_eq_true rfl, Nat.le_of_ble_eq_true rfl⟩ hcs S.v kd_90 (by decide) (T := TX5) (N := 8) rfl rfl hl.1 rfl (Nat.le_of_ble_eq_true rfl) dX5_exists_2) S (fun r2 σ1 H locs h S => ?_)
  refine lv_lconst (v := (0 : Int64)) C.1 C.2.1 dX5_exists_5 (by decide) ?_
  refine W.lcmp C.1 C.2.1 dX5_exists_6 ?_
  refine lv_if_le (tgt := 14) C.1 C.2.1 dX5_exists_7 (by decide) (fun c3 => ?_) (fun c3 => ?_)
  · replace h := h.1 c3
    refine lv_iconst (v := (0 : Int32)) C.1 C.2.1 dX5_exists_14 (by decide) ?_
    exact hR _ _ _ _ _ _ dX5_exists_15 rfl h S
  · replace h := h.2 c3
    refine lv_iconst (v := (1 : Int32)) C.1 C.2.1 dX5_exists_10 (by decide) ?_
    refine lv_goto (tgt := 15) C.1 C.2.1 dX5_exists_11 (by decide) ?_
    exact hR _ _ _ _ _ _ dX5_exists_15 rfl h S
/-! X1_tallies -/
abbrev rm_X1_tallies : Room := { frames := 0, cells := 0, slots := 0, locals := 0 }
def wpX1_tallies (k0 : Nat) (σ : Sg) (post : Int32 → Sg → Prop) : Prop := post (((1 : Int32) <<< (((2 : Int32) * (σ.1 k0 2)) &&& 31))) σ
theorem kM_X1_tallies : s_M yX1_tallies cX1_tallies 1 (some .int) 0 := ⟨co_X1_tallies, in_X1, by decide, by decide, by decide +kernel⟩
set_option maxHeartbeats 4000000 in
set_option maxRecDepth 100000 in
theorem c_X1_tallies (l : Launch) (G : s_G) (k0 : Nat) (σ : Sg) (post : Int32 → Sg → Prop) (hk0 : s_kd k0 = 1) (h : wpX1_tallies k0 σ post) : Met l yX1_tallies (wsU yX1_tallies cX1_tallies 1 (some .int)) rm_X1_tallies (va_Pc [.ref (G.2.2 + k0)] (s_Pre G σ)) (va_Qi post (s_B G) (s_A G.2.2)) 0 0 (s_A G.2.2) := by
  refine Met.ofW (cc := cX1_tallies) (maxL := 1) (ret := (some .int)) (by decide) rfl ?_
  intro p e s m args below meth c s₁ B hml hv
  obtain ⟨rfl, hP, hrok, hK, hN⟩ := hv
  have C : s_C G p s (([.ref (G.2.2 + k0)] : List Value).toArray) m c RX1 cX1_tallies := ⟨B.exec, B.bytes, findClass_of_methodNamed B.named, fun w hw => atoms_spec (ws := wsU yX1_tallies cX1_tallies 1 (some .int)) B.pre w (List.mem_cons_of_mem _ hw), hK, hN⟩
  have hr := B.returns
  have hlocks := B.notSynchronized
  have S : s_St G σ s.heap s.heap [] := ⟨hP, va_S.rf, hrok⟩
  have hcs : 0 ≤ (rm_X1_tallies).cells ∧ 0 ≤ (rm_X1_tallies).slots := ⟨Nat.le_refl 0, Nat.le_refl 0⟩
  have hR : ∀ (r : Int32) (σ1 : Sg) (H : Heap) (locs : List Loc) (pc : Nat) (ls : Array Slot), decode cX1_tallies pc = .ok (.ireturn, 1) → post r σ1 → s_St G σ1 s.heap H locs → W p l e rm_X1_tallies s m ([.ref (G.2.2 + k0)] : List Value).toArray below meth c H locs 0 0 (MQ below (va_Qi post (s_B G) (s_A G.2.2)) ([.ref (G.2.2 + k0)] : List Value).toArray s 0 0 (s_A G.2.2)) (F0 m pc ls [.int r]) := fun _ _ _ _ _ _ hd hp S => ret_i C hr hlocks hd hp S
  have hl := lv_entry ([.ref (G.2.2 + k0)]) (n := 1) (Nat.le_of_ble_eq_true rfl)
  rw [lg_entry_eq]
  generalize (lg_sl ([.ref (G.2.2 + k0)]) ++ List.replicate (1 - (lg_sl ([.ref (G.2.2 + k0)])).length) Slot.unset).toArray = ls at hl ⊢
  have hl : lv_has ls 1 [(0, .ref (G.2.2 + k0))] := hl
  unfold wpX1_tallies at h
  refine lv_iconst (v := (1 : Int32)) C.1 C.2.1 dX1_tallies_0 (by decide) ?_
  refine lv_iconst (v := (2 : Int32)) C.1 C.2.1 dX1_tallies_1 (by decide) ?_
  refine lv_aload_n C.1 C.2.1 dX1_tallies_2 rfl (lv_at hl 0 rfl) ?_
  refine g_X1_2 C fl_X1_22 hk0 S dX1_tallies_3 ?_
  refine lv_imul C.1 C.2.1 dX1_tallies_6 ?_
  refine lv_ishl C.1 C.2.1 dX1_tallies_7 ?_
  exact hR _ _ _ _ _ _ dX1_tallies_8 h S
/-! X5_endOf -/
abbrev rm_X5_endOf : Room := { frames := 0, cells := 0, slots := 0, locals := 0 }
def wpX5_endOf (x1 : Int32) (σ : Sg) (post : Int32 → Sg → Prop) : Prop := (((x1 < 0) → post ((-9 : Int32)) σ) ∧ ((¬ x1 < 0) → ((((4096 : Int32) ≤ x1) → post ((-9 : Int32)) σ) ∧ ((¬ (4096 : Int32) ≤ x1) → (vp_in x1 4096 ∧ post ((σ.1 91 (x1).toNatClampNeg)) σ)))))
theorem kM_X5_endOf : s_M yX5_endOf cX5_endOf 2 (some .int) 1 := ⟨co_X5_endOf, in_X5, by decide, by decide, by decide +kernel⟩
set_option maxHeartbeats 4000000 in
set_option maxRecDepth 100000 in
theorem c_X5_endOf (l : Launch) (G : s_G) (x1 : Int32) (σ : Sg) (post : Int32 → Sg → Prop) (h : wpX5_endOf x1 σ post) : Met l yX5_endOf (wsU yX5_endOf cX5_endOf 2 (some .int)) rm_X5_endOf (va_Pc [.ref (G.2.2 + 90), .int x1] (s_Pre G σ)) (va_Qi post (s_B G) (s_A G.2.2)) 0 0 (s_A G.2.2) := by
  refine Met.ofW (cc := cX5_endOf) (maxL := 2) (ret := (some .int)) (by decide) rfl ?_
  intro p e s m args below meth c s₁ B hml hv
  obtain ⟨rfl, hP, hrok, hK, hN⟩ := hv
  have C : s_C G p s (([.ref (G.2.2 + 90), .int x1] : List Value).toArray) m c RX5 cX5_endOf := ⟨B.exec, B.bytes, findClass_of_methodNamed B.named, fun w hw => atoms_spec (ws := wsU yX5_endOf cX5_endOf 2 (some .int)) B.pre w (List.mem_cons_of_mem _ hw), hK, hN⟩
  have hr := B.returns
  have hlocks := B.notSynchronized
  have S : s_St G σ s.heap s.heap [] := ⟨hP, va_S.rf, hrok⟩
  have hcs : 0 ≤ (rm_X5_endOf).cells ∧ 0 ≤ (rm_X5_endOf).slots := ⟨Nat.le_refl 0, Nat.le_refl 0⟩
  have hR : ∀ (r : Int32) (σ1 : Sg) (H : Heap) (locs : List Loc) (pc : Nat) (ls : Array Slot), decode cX5_endOf pc = .ok (.ireturn, 1) → post r σ1 → s_St G σ1 s.heap H locs → W p l e rm_X5_endOf s m ([.ref (G.2.2 + 90), .int x1] : List Value).toArray below meth c H locs 0 0 (MQ below (va_Qi post (s_B G) (s_A G.2.2)) ([.ref (G.2.2 + 90), .int x1] : List Value).toArray s 0 0 (s_A G.2.2)) (F0 m pc ls [.int r]) := fun _ _ _ _ _ _ hd hp S => ret_i C hr hlocks hd hp S
  have hl := lv_entry ([.ref (G.2.2 + 90), .int x1]) (n := 2) (Nat.le_of_ble_eq_true rfl)
  rw [lg_entry_eq]
  generalize (lg_sl ([.ref (G.2.2 + 90), .int x1]) ++ List.replicate (2 - (lg_sl ([.ref (G.2.2 + 90), .int x1])).length) Slot.unset).toArray = ls at hl ⊢
  have hl : lv_has ls 2 [(0, .ref (G.2.2 + 90)), (1, .int x1)] := hl
  unfold wpX5_endOf at h
  refine lv_iload_n C.1 C.2.1 dX5_endOf_0 rfl (lv_at hl 1 rfl) ?_
  refine lv_if_lt (tgt := 22) C.1 C.2.1 dX5_endOf_1 (by decide) (fun c1 => ?_) (fun c1 => ?_)
  · replace h := h.1 c1
    refine lv_bipush (v := (-9 : Int32)) C.1 C.2.1 dX5_endOf_22 (by decide) ?_
    exact hR _ _ _ _ _ _ dX5_endOf_24 h S
  · replace h := h.2 c1
    refine lv_iload_n C.1 C.2.1 dX5_endOf_4 rfl (lv_at hl 1 rfl) ?_
    refine lv_aload_n C.1 C.2.1 dX5_endOf_5 rfl (lv_at hl 0 rfl) ?_
    refine g_X5_0 C fl_X5_9 kd_90 S fn_90_0 dX5_endOf_6 ?_
    refine a_len8 C kd_91 S (v := (4096 : Int32)) (by rw [ln_91]; rfl) dX5_endOf_9 ?_
    refine lv_icmp_ge (tgt := 22) C.1 C.2.1 dX5_endOf_10 (by decide) (fun c2 => ?_) (fun c2 => ?_)
    · replace h := h.1 c2
      refine lv_bipush (v := (-9 : Int32)) C.1 C.2.1 dX5_endOf_22 (by decide) ?_
      exact hR _ _ _ _ _ _ dX5_endOf_24 h S
    · replace h := h.2 c2
      refine lv_aload_n C.1 C.2.1 dX5_endOf_13 rfl (lv_at hl 0 rfl) ?_
      refine g_X5_0 C fl_X5_9 kd_90 S fn_90_0 dX5_endOf_14 ?_
      refine lv_iload_n C.1 C.2.1 dX5_endOf_17 rfl (lv_at hl 1 rfl) ?_
      refine a_ild C kd_91 S ln_91 h.1 dX5_endOf_18 ?_
      replace h := h.2
      refine lv_goto (tgt := 24) C.1 C.2.1 dX5_endOf_19 (by decide) ?_
      exact hR _ _ _ _ _ _ dX5_endOf_24 h S
/-! X0_at -/
abbrev rm_X0_at : Room := { frames := 0, cells := 0, slots := 0, locals := 0 }
def wpX0_at (k0 : Nat) (x1 : Int32) (σ : Sg) (post : Int32 → Sg → Prop) : Prop := (((x1 < 0) → post ((-9 : Int32)) σ) ∧ ((¬ x1 < 0) → ((((σ.1 k0 1) ≤ x1) → post ((-9 : Int32)) σ) ∧ ((¬ (σ.1 k0 1) ≤ x1) → ((((60 : Int32) ≤ x1) → post ((-9 : Int32)) σ) ∧ ((¬ (60 : Int32) ≤ x1) → (vp_in x1 60 ∧ post ((σ.1 (s_fin k0 0) (x1).toNatClampNeg)) σ)))))))
theorem kM_X0_at : s_M yX0_at cX0_at 2 (some .int) 1 := ⟨co_X0_at, in_X0, by decide, by decide, by decide +kernel⟩
set_option maxHeartbeats 4000000 in
set_option maxRecDepth 100000 in
theorem c_X0_at (l : Launch) (G : s_G) (k0 : Nat) (x1 : Int32) (σ : Sg) (post : Int32 → Sg → Prop) (hk0 : s_kd k0 = 0) (h : wpX0_at k0 x1 σ post) : Met l yX0_at (wsU yX0_at cX0_at 2 (some .int)) rm_X0_at (va_Pc [.ref (G.2.2 + k0), .int x1] (s_Pre G σ)) (va_Qi post (s_B G) (s_A G.2.2)) 0 0 (s_A G.2.2) := by
  refine Met.ofW (cc := cX0_at) (maxL := 2) (ret := (some .int)) (by decide) rfl ?_
  intro p e s m args below meth c s₁ B hml hv
  obtain ⟨rfl, hP, hrok, hK, hN⟩ := hv
  have C : s_C G p s (([.ref (G.2.2 + k0), .int x1] : List Value).toArray) m c RX0 cX0_at := ⟨B.exec, B.bytes, findClass_of_methodNamed B.named, fun w hw => atoms_spec (ws := wsU yX0_at cX0_at 2 (some .int)) B.pre w (List.mem_cons_of_mem _ hw), hK, hN⟩
  have hr := B.returns
  have hlocks := B.notSynchronized
  have S : s_St G σ s.heap s.heap [] := ⟨hP, va_S.rf, hrok⟩
  have hcs : 0 ≤ (rm_X0_at).cells ∧ 0 ≤ (rm_X0_at).slots := ⟨Nat.le_refl 0, Nat.le_refl 0⟩
  have hR : ∀ (r : Int32) (σ1 : Sg) (H : Heap) (locs : List Loc) (pc : Nat) (ls : Array Slot), decode cX0_at pc = .ok (.ireturn, 1) → post r σ1 → s_St G σ1 s.heap H locs → W p l e rm_X0_at s m ([.ref (G.2.2 + k0), .int x1] : List Value).toArray below meth c H locs 0 0 (MQ below (va_Qi post (s_B G) (s_A G.2.2)) ([.ref (G.2.2 + k0), .int x1] : List Value).toArray s 0 0 (s_A G.2.2)) (F0 m pc ls [.int r]) := fun _ _ _ _ _ _ hd hp S => ret_i C hr hlocks hd hp S
  have hl := lv_entry ([.ref (G.2.2 + k0), .int x1]) (n := 2) (Nat.le_of_ble_eq_true rfl)
  rw [lg_entry_eq]
  generalize (lg_sl ([.ref (G.2.2 + k0), .int x1]) ++ List.replicate (2 - (lg_sl ([.ref (G.2.2 + k0), .int x1])).length) Slot.unset).toArray = ls at hl ⊢
  have hl : lv_has ls 2 [(0, .ref (G.2.2 + k0)), (1, .int x1)] := hl
  unfold wpX0_at at h
  refine lv_iload_n C.1 C.2.1 dX0_at_0 rfl (lv_at hl 1 rfl) ?_
  refine lv_if_lt (tgt := 30) C.1 C.2.1 dX0_at_1 (by decide) (fun c1 => ?_) (fun c1 => ?_)
  · replace h := h.1 c1
    refine lv_bipush (v := (-9 : Int32)) C.1 C.2.1 dX0_at_30 (by decide) ?_
    exact hR _ _ _ _ _ _ dX0_at_32 h S
  · replace h := h.2 c1
    refine lv_iload_n C.1 C.2.1 dX0_at_4 rfl (lv_at hl 1 rfl) ?_
    refine lv_aload_n C.1 C.2.1 dX0_at_5 rfl (lv_at hl 0 rfl) ?_
    refine g_X0_1 C fl_X0_15 hk0 S dX0_at_6 ?_
    refine lv_icmp_ge (tgt := 30) C.1 C.2.1 dX0_at_9 (by decide) (fun c2 => ?_) (fun c2 => ?_)
    · replace h := h.1 c2
      refine lv_bipush (v := (-9 : Int32)) C.1 C.2.1 dX0_at_30 (by decide) ?_
      exact hR _ _ _ _ _ _ dX0_at_32 h S
    · replace h := h.2 c2
      refine lv_iload_n C.1 C.2.1 dX0_at_12 rfl (lv_at hl 1 rfl) ?_
      refine lv_aload_n C.1 C.2.1 dX0_at_13 rfl (lv_at hl 0 rfl) ?_
      refine g_X0_0 C fl_X0_9 hk0 S rfl dX0_at_14 ?_
      refine a_len8 C ((kdf_X0_0 hk0)) S (v := (60 : Int32)) (by rw [(lnf_X0_0 hk0)]; rfl) dX0_at_17 ?_
      refine lv_icmp_ge (tgt := 30) C.1 C.2.1 dX0_at_18 (by decide) (fun c3 => ?_) (fun c3 => ?_)
      · replace h := h.1 c3
        refine lv_bipush (v := (-9 : Int32)) C.1 C.2.1 dX0_at_30 (by decide) ?_
        exact hR _ _ _ _ _ _ dX0_at_32 h S
      · replace h := h.2 c3
        refine lv_aload_n C.1 C.2.1 dX0_at_21 rfl (lv_at hl 0 rfl) ?_
        refine g_X0_0 C fl_X0_9 hk0 S rfl dX0_at_22 ?_
        refine lv_iload_n C.1 C.2.1 dX0_at_25 rfl (lv_at hl 1 rfl) ?_
        refine a_ild C ((kdf_X0_0 hk0)) S (lnf_X0_0 hk0) h.1 dX0_at_26 ?_
        replace h := h.2
        refine lv_goto (tgt := 32) C.1 C.2.1 dX0_at_27 (by decide) ?_
        exact hR _ _ _ _ _ _ dX0_at_32 h S
/-! X3_letter -/
abbrev rm_X3_letter : Room := { frames := 0, cells := 0, slots := 0, locals := 0 }
def BX3_letter_25 (k0 : Nat) (x1 : Int32) (post : Int32 → Sg → Prop)  (σ : Sg) : Prop := (((¬ (0 : Int32) = 0) → post ((0 : Int32)) σ) ∧ (((0 : Int32) = 0) → post ((-9 : Int32)) σ))
def wpX3_letter (k0 : Nat) (x1 : Int32) (σ : Sg) (post : Int32 → Sg → Prop) : Prop := (((x1 < 0) → BX3_letter_25 k0 x1 post σ) ∧ ((¬ x1 < 0) → ((((3 : Int32) ≤ x1) → BX3_letter_25 k0 x1 post σ) ∧ ((¬ (3 : Int32) ≤ x1) → (((¬ (((σ.1 k0 0) >>> (((8 : Int32) * x1) &&& 31)) &&& (255 : Int32)) = 0) → post ((((σ.1 k0 0) >>> (((8 : Int32) * x1) &&& 31)) &&& (255 : Int32))) σ) ∧ (((((σ.1 k0 0) >>> (((8 : Int32) * x1) &&& 31)) &&& (255 : Int32)) = 0) → post ((-9 : Int32)) σ))))))
set_option maxHeartbeats 4000000 in
set_option maxRecDepth 100000 in
theorem TX3_letter_25 (C : s_C G p s args m c RX3 cX3_letter) (hml : c.maxLocals = 3) (hcs : cells ≤ (rm_X3_letter).cells ∧ slots ≤ (rm_X3_letter).slots) {k0 : Nat} {x1 : Int32} (hk0 : s_kd k0 = 3) {post : Int32 → Sg → Prop} (hR : ∀ (r : Int32) (σ1 : Sg) (H : Heap) (locs : List Loc) (pc : Nat) (ls : Array Slot), decode cX3_letter pc = .ok (.ireturn, 1) → post r σ1 → s_St G σ1 H0 H locs → W p l e rm_X3_letter s m args below meth c H locs cells slots Q (F0 m pc ls [.int r])) : ∀ {σ : Sg} {H : Heap} {locs : List Loc} {ls : Array Slot}, s_St G σ H0 H locs → lv_has ls 3 [] → BX3_letter_25 k0 x1 post σ → W p l e rm_X3_letter s m args below meth c H locs cells slots Q (F0 m 25 ls []) := by
  intro   σ H locs ls S hl h
  unfold BX3_letter_25 at h
  refine lv_iconst (v := (0 : Int32)) C.1 C.2.1 dX3_letter_25 (by decide) ?_
  refine lv_istore_n (lv' := [(2, .int (0 : Int32))]) C.1 C.2.1 dX3_letter_26 rfl hl (by decide) rfl (fun ls hl => ?_)
  refine lv_iload_n C.1 C.2.1 dX3_letter_27 rfl (lv_at hl 0 rfl) ?_
  refine lv_if_ne (tgt := 36) C.1 C.2.1 dX3_letter_28 (by decide) (fun c1 => ?_) (fun c1 => ?_)
  · replace h := h.1 c1
    refine lv_iload_n C.1 C.2.1 dX3_letter_36 rfl (lv_at hl 0 rfl) ?_
    exact hR _ _ _ _ _ _ dX3_letter_37 h S
  · replace h := h.2 c1
    refine lv_bipush (v := (-9 : Int32)) C.1 C.2.1 dX3_letter_31 (by decide) ?_
    refine lv_goto (tgt := 37) C.1 C.2.1 dX3_letter_33 (by decide) ?_
    exact hR _ _ _ _ _ _ dX3_letter_37 h S
theorem kM_X3_letter : s_M yX3_letter cX3_letter 3 (some .int) 1 := ⟨co_X3_letter, in_X3, by decide, by decide, by decide +kernel⟩
set_option maxHeartbeats 4000000 in
set_option maxRecDepth 100000 in
theorem c_X3_letter (l : Launch) (G : s_G) (k0 : Nat) (x1 : Int32) (σ : Sg) (post : Int32 → Sg → Prop) (hk0 : s_kd k0 = 3) (h : wpX3_letter k0 x1 σ post) : Met l yX3_letter (wsU yX3_letter cX3_letter 3 (some .int)) rm_X3_letter (va_Pc [.ref (G.2.2 + k0), .int x1] (s_Pre G σ)) (va_Qi post (s_B G) (s_A G.2.2)) 0 0 (s_A G.2.2) := by
  refine Met.ofW (cc := cX3_letter) (maxL := 3) (ret := (some .int)) (by decide) rfl ?_
  intro p e s m args below meth c s₁ B hml hv
  obtain ⟨rfl, hP, hrok, hK, hN⟩ := hv
  have C : s_C G p s (([.ref (G.2.2 + k0), .int x1] : List Value).toArray) m c RX3 cX3_letter := ⟨B.exec, B.bytes, findClass_of_methodNamed B.named, fun w hw => atoms_spec (ws := wsU yX3_letter cX3_letter 3 (some .int)) B.pre w (List.mem_cons_of_mem _ hw), hK, hN⟩
  have hr := B.returns
  have hlocks := B.notSynchronized
  have S : s_St G σ s.heap s.heap [] := ⟨hP, va_S.rf, hrok⟩
  have hcs : 0 ≤ (rm_X3_letter).cells ∧ 0 ≤ (rm_X3_letter).slots := ⟨Nat.le_refl 0, Nat.le_refl 0⟩
  have hR : ∀ (r : Int32) (σ1 : Sg) (H : Heap) (locs : List Loc) (pc : Nat) (ls : Array Slot), decode cX3_letter pc = .ok (.ireturn, 1) → post r σ1 → s_St G σ1 s.heap H locs → W p l e rm_X3_letter s m ([.ref (G.2.2 + k0), .int x1] : List Value).toArray below meth c H locs 0 0 (MQ below (va_Qi post (s_B G) (s_A G.2.2)) ([.ref (G.2.2 + k0), .int x1] : List Value).toArray s 0 0 (s_A G.2.2)) (F0 m pc ls [.int r]) := fun _ _ _ _ _ _ hd hp S => ret_i C hr hlocks hd hp S
  have hl := lv_entry ([.ref (G.2.2 + k0), .int x1]) (n := 3) (Nat.le_of_ble_eq_true rfl)
  rw [lg_entry_eq]
  generalize (lg_sl ([.ref (G.2.2 + k0), .int x1]) ++ List.replicate (3 - (lg_sl ([.ref (G.2.2 + k0), .int x1])).length) Slot.unset).toArray = ls at hl ⊢
  have hl : lv_has ls 3 [(0, .ref (G.2.2 + k0)), (1, .int x1)] := hl
  unfold wpX3_letter at h
  refine lv_iload_n C.1 C.2.1 dX3_letter_0 rfl (lv_at hl 1 rfl) ?_
  refine lv_if_lt (tgt := 25) C.1 C.2.1 dX3_letter_1 (by decide) (fun c2 => ?_) (fun c2 => ?_)
  · replace h := h.1 c2
    exact TX3_letter_25 C hml hcs hk0 hR S (lv_sub hl [] rfl) h
  · replace h := h.2 c2
    refine lv_iload_n C.1 C.2.1 dX3_letter_4 rfl (lv_at hl 1 rfl) ?_
    refine lv_iconst (v := (3 : Int32)) C.1 C.2.1 dX3_letter_5 (by decide) ?_
    refine lv_icmp_ge (tgt := 25) C.1 C.2.1 dX3_letter_6 (by decide) (fun c3 => ?_) (fun c3 => ?_)
    · replace h := h.1 c3
      exact TX3_letter_25 C hml hcs hk0 hR S (lv_sub hl [] rfl) h
    · replace h := h.2 c3
      refine lv_aload_n C.1 C.2.1 dX3_letter_9 rfl (lv_at hl 0 rfl) ?_
      refine g_X3_0 C fl_X3_9 hk0 S dX3_letter_10 ?_
      refine lv_bipush (v := (8 : Int32)) C.1 C.2.1 dX3_letter_13 (by decide) ?_
      refine lv_iload_n C.1 C.2.1 dX3_letter_15 rfl (lv_at hl 1 rfl) ?_
      refine lv_imul C.1 C.2.1 dX3_letter_16 ?_
      refine lv_ishr C.1 C.2.1 dX3_letter_17 ?_
      refine lv_sipush (v := (255 : Int32)) C.1 C.2.1 dX3_letter_18 (by decide) ?_
      refine lv_iand C.1 C.2.1 dX3_letter_21 ?_
      refine lv_goto (tgt := 26) C.1 C.2.1 dX3_letter_22 (by decide) ?_
      refine lv_istore_n (lv' := [(2, .int (((σ.1 k0 0) >>> (((8 : Int32) * x1) &&& 31)) &&& (255 : Int32))), (0, .ref (G.2.2 + k0)), (1, .int x1)]) C.1 C.2.1 dX3_letter_26 rfl hl (by decide) rfl (fun ls hl => ?_)
      refine lv_iload_n C.1 C.2.1 dX3_letter_27 rfl (lv_at hl 0 rfl) ?_
      refine lv_if_ne (tgt := 36) C.1 C.2.1 dX3_letter_28 (by decide) (fun c4 => ?_) (fun c4 => ?_)
      · replace h := h.1 c4
        refine lv_iload_n C.1 C.2.1 dX3_letter_36 rfl (lv_at hl 0 rfl) ?_
        exact hR _ _ _ _ _ _ dX3_letter_37 h S
      · replace h := h.2 c4
        refine lv_bipush (v := (-9 : Int32)) C.1 C.2.1 dX3_letter_31 (by decide) ?_
        refine lv_goto (tgt := 37) C.1 C.2.1 dX3_letter_33 (by decide) ?_
        exact hR _ _ _ _ _ _ dX3_letter_37 h S
/-! X3_wordLength -/
abbrev rm_X3_wordLength : Room := { frames := 0, cells := 0, slots := 0, locals := 0 }
def wpX3_wordLength (k0 : Nat) (σ : Sg) (post : Int32 → Sg → Prop) : Prop := ((((σ.1 k0 0) ≤ (65535 : Int32)) → ((((σ.1 k0 0) ≤ (255 : Int32)) → ((((σ.1 k0 0) ≤ 0) → post ((0 : Int32)) σ) ∧ ((¬ (σ.1 k0 0) ≤ 0) → post ((1 : Int32)) σ))) ∧ ((¬ (σ.1 k0 0) ≤ (255 : Int32)) → post ((2 : Int32)) σ))) ∧ ((¬ (σ.1 k0 0) ≤ (65535 : Int32)) → post ((3 : Int32)) σ))
theorem kM_X3_wordLength : s_M yX3_wordLength cX3_wordLength 1 (some .int) 0 := ⟨co_X3_wordLength, in_X3, by decide, by decide, by decide +kernel⟩
set_option maxHeartbeats 4000000 in
set_option maxRecDepth 100000 in
theorem c_X3_wordLength (l : Launch) (G : s_G) (k0 : Nat) (σ : Sg) (post : Int32 → Sg → Prop) (hk0 : s_kd k0 = 3) (h : wpX3_wordLength k0 σ post) : Met l yX3_wordLength (wsU yX3_wordLength cX3_wordLength 1 (some .int)) rm_X3_wordLength (va_Pc [.ref (G.2.2 + k0)] (s_Pre G σ)) (va_Qi post (s_B G) (s_A G.2.2)) 0 0 (s_A G.2.2) := by
  refine Met.ofW (cc := cX3_wordLength) (maxL := 1) (ret := (some .int)) (by decide) rfl ?_
  intro p e s m args below meth c s₁ B hml hv
  obtain ⟨rfl, hP, hrok, hK, hN⟩ := hv
  have C : s_C G p s (([.ref (G.2.2 + k0)] : List Value).toArray) m c RX3 cX3_wordLength := ⟨B.exec, B.bytes, findClass_of_methodNamed B.named, fun w hw => atoms_spec (ws := wsU yX3_wordLength cX3_wordLength 1 (some .int)) B.pre w (List.mem_cons_of_mem _ hw), hK, hN⟩
  have hr := B.returns
  have hlocks := B.notSynchronized
  have S : s_St G σ s.heap s.heap [] := ⟨hP, va_S.rf, hrok⟩
  have hcs : 0 ≤ (rm_X3_wordLength).cells ∧ 0 ≤ (rm_X3_wordLength).slots := ⟨Nat.le_refl 0, Nat.le_refl 0⟩
  have hR : ∀ (r : Int32) (σ1 : Sg) (H : Heap) (locs : List Loc) (pc : Nat) (ls : Array Slot), decode cX3_wordLength pc = .ok (.ireturn, 1) → post r σ1 → s_St G σ1 s.heap H locs → W p l e rm_X3_wordLength s m ([.ref (G.2.2 + k0)] : List Value).toArray below meth c H locs 0 0 (MQ below (va_Qi post (s_B G) (s_A G.2.2)) ([.ref (G.2.2 + k0)] : List Value).toArray s 0 0 (s_A G.2.2)) (F0 m pc ls [.int r]) := fun _ _ _ _ _ _ hd hp S => ret_i C hr hlocks hd hp S
  have hl := lv_entry ([.ref (G.2.2 + k0)]) (n := 1) (Nat.le_of_ble_eq_true rfl)
  rw [lg_entry_eq]
  generalize (lg_sl ([.ref (G.2.2 + k0)]) ++ List.replicate (1 - (lg_sl ([.ref (G.2.2 + k0)])).length) Slot.unset).toArray = ls at hl ⊢
  have hl : lv_has ls 1 [(0, .ref (G.2.2 + k0))] := hl
  unfold wpX3_wordLength at h
  refine lv_aload_n C.1 C.2.1 dX3_wordLength_0 rfl (lv_at hl 0 rfl) ?_
  refine g_X3_0 C fl_X3_9 hk0 S dX3_wordLength_1 ?_
  refine lv_ldc (v := (65535 : Int32)) C.1 C.2.1 C.2.2.1 (C.2.2.2.1 _ ct_X3_30) dX3_wordLength_4 ?_
  refine lv_icmp_le (tgt := 11) C.1 C.2.1 dX3_wordLength_6 (by decide) (fun c1 => ?_) (fun c1 => ?_)
  · replace h := h.1 c1
    refine lv_aload_n C.1 C.2.1 dX3_wordLength_11 rfl (lv_at hl 0 rfl) ?_
    refine g_X3_0 C fl_X3_9 hk0 S dX3_wordLength_12 ?_
    refine lv_sipush (v := (255 : Int32)) C.1 C.2.1 dX3_wordLength_15 (by decide) ?_
    refine lv_icmp_le (tgt := 25) C.1 C.2.1 dX3_wordLength_18 (by decide) (fun c2 => ?_) (fun c2 => ?_)
    · replace h := h.1 c2
      refine lv_aload_n C.1 C.2.1 dX3_wordLength_25 rfl (lv_at hl 0 rfl) ?_
      refine g_X3_0 C fl_X3_9 hk0 S dX3_wordLength_26 ?_
      refine lv_if_le (tgt := 36) C.1 C.2.1 dX3_wordLength_29 (by decide) (fun c3 => ?_) (fun c3 => ?_)
      · replace h := h.1 c3
        refine lv_iconst (v := (0 : Int32)) C.1 C.2.1 dX3_wordLength_36 (by decide) ?_
        exact hR _ _ _ _ _ _ dX3_wordLength_37 h S
      · replace h := h.2 c3
        refine lv_iconst (v := (1 : Int32)) C.1 C.2.1 dX3_wordLength_32 (by decide) ?_
        refine lv_goto (tgt := 37) C.1 C.2.1 dX3_wordLength_33 (by decide) ?_
        exact hR _ _ _ _ _ _ dX3_wordLength_37 h S
    · replace h := h.2 c2
      refine lv_iconst (v := (2 : Int32)) C.1 C.2.1 dX3_wordLength_21 (by decide) ?_
      refine lv_goto (tgt := 37) C.1 C.2.1 dX3_wordLength_22 (by decide) ?_
      exact hR _ _ _ _ _ _ dX3_wordLength_37 h S
  · replace h := h.2 c1
    refine lv_iconst (v := (3 : Int32)) C.1 C.2.1 dX3_wordLength_9 (by decide) ?_
    exact hR _ _ _ _ _ _ dX3_wordLength_10 h S
/-! X0_lettersMatched -/
abbrev rm_X0_lettersMatched : Room := { frames := 1, cells := 0, slots := 0, locals := 22 }
def BX0_lettersMatched_2 (k0 : Nat) (k1 : Nat) (x2 : Int32) (post : Int32 → Sg → Prop) : Nat → Int32 → Sg → Prop
  | 0, _, _ => False
  | n + 1, x3, σ => wpX3_wordLength k1 σ (fun r2 σ1 => (((r2 ≤ x3) → post x3 σ1) ∧ ((¬ r2 ≤ x3) → wpX0_at k0 ((x2 + x3)) σ1 (fun r5 σ4 => wpX3_letter k1 x3 σ4 (fun r7 σ6 => (((¬ r5 = r7) → post x3 σ6) ∧ ((r5 = r7) → BX0_lettersMatched_2 k0 k1 x2 post n ((x3 + 1)) σ6)))))))
def wpX0_lettersMatched (k0 : Nat) (k1 : Nat) (x2 : Int32) (σ : Sg) (post : Int32 → Sg → Prop) : Prop := ∃ nf, BX0_lettersMatched_2 k0 k1 x2 post nf ((0 : Int32)) σ
set_option maxHeartbeats 4000000 in
set_option maxRecDepth 100000 in
theorem TX0_lettersMatched_2 (C : s_C G p s args m c RX0 cX0_lettersMatched) (hml : c.maxLocals = 4) (hcs : cells ≤ (rm_X0_lettersMatched).cells ∧ slots ≤ (rm_X0_lettersMatched).slots) {k0 : Nat} {k1 : Nat} {x2 : Int32} (hk0 : s_kd k0 = 0) (hk1 : s_kd k1 = 3) {post : Int32 → Sg → Prop} (hR : ∀ (r : Int32) (σ1 : Sg) (H : Heap) (locs : List Loc) (pc : Nat) (ls : Array Slot), decode cX0_lettersMatched pc = .ok (.ireturn, 1) → post r σ1 → s_St G σ1 H0 H locs → W p l e rm_X0_lettersMatched s m args below meth c H locs cells slots Q (F0 m pc ls [.int r])) : ∀ (n : Nat) (x3 : Int32), ∀ {σ : Sg} {H : Heap} {locs : List Loc} {ls : Array Slot}, s_St G σ H0 H locs → lv_has ls 4 [(0, .ref (G.2.2 + k0)), (1, .ref (G.2.2 + k1)), (2, .int x2), (3, .int x3)] → BX0_lettersMatched_2 k0 k1 x2 post n x3 σ → W p l e rm_X0_lettersMatched s m args below meth c H locs cells slots Q (F0 m 2 ls []) := by
  intro n
  induction n with
  | zero =>
    intro x3  σ H locs ls S hl h
    exact absurd h (fun h => h)
  | succ n ih0 =>
    have ih : ∀ (x3 : Int32), ∀ (σ : Sg) (H : Heap) (locs : List Loc) (ls : Array Slot), s_St G σ H0 H locs → lv_has ls 4 [(0, .ref (G.2.2 + k0)), (1, .ref (G.2.2 + k1)), (2, .int x2), (3, .int x3)] → BX0_lettersMatched_2 k0 k1 x2 post n x3 σ → W p l e rm_X0_lettersMatched s m args below meth c H locs cells slots Q (F0 m 2 ls []) := fun x3  _ _ _ _ => ih0 x3 
    intro x3  σ H locs ls S hl h
    refine lv_iload_n C.1 C.2.1 dX0_lettersMatched_2 rfl (lv_at hl 3 rfl) ?_
    refine lv_aload_n C.1 C.2.1 dX0_lettersMatched_3 rfl (lv_at hl 1 rfl) ?_
    refine k_i (r_VN (As := []) (rest := [.int x3]) C hml (c_X3_wordLength l G k1 σ _ hk1 h) kM_X3_wordLength im_X3_wordLength se_X3_wordLength nm_X0_27 ⟨rfl, rfl⟩ ⟨Nat.le_of_ble_eq_true rfl, Nat.le_of_ble_eq_true rfl⟩ hcs S.v hk1 (by decide) (T := TX3) (N := 6) rfl rfl hl.1 rfl (Nat.le_of_ble_eq_true rfl) dX0_lettersMatched_4) S (fun r2 σ1 H locs h S => ?_)
    refine lv_icmp_ge (tgt := 31) C.1 C.2.1 dX0_lettersMatched_7 (by decide) (fun c3 => ?_) (fun c3 => ?_)
    · replace h := h.1 c3
      refine lv_iload_n C.1 C.2.1 dX0_lettersMatched_31 rfl (lv_at hl 3 rfl) ?_
      exact hR _ _ _ _ _ _ dX0_lettersMatched_32 h S
    · replace h := h.2 c3
      refine lv_aload_n C.1 C.2.1 dX0_lettersMatched_10 rfl (lv_at hl 0 rfl) ?_
      refine lv_iload_n C.1 C.2.1 dX0_lettersMatched_11 rfl (lv_at hl 2 rfl) ?_
      refine lv_iload_n C.1 C.2.1 dX0_lettersMatched_12 rfl (lv_at hl 3 rfl) ?_
      refine lv_iadd C.1 C.2.1 dX0_lettersMatched_13 ?_
      refine k_i (r_V (As := [.int (x2 + x3)]) (rest := []) C hml (c_X0_at l G k0 ((x2 + x3)) σ1 _ hk0 h) kM_X0_at im_X0_at se_X0_at ml_X0_19 ⟨rfl, rfl⟩ ⟨Nat.le_of_ble_eq_true rfl, Nat.le_of_ble_eq_true rfl⟩ hcs S.v hk0 (by decide) (T := TX0) (N := 2) rfl rfl hl.1 rfl (Nat.le_of_ble_eq_true rfl) dX0_lettersMatched_14) S (fun r5 σ4 H locs h S => ?_)
      refine lv_aload_n C.1 C.2.1 dX0_lettersMatched_17 rfl (lv_at hl 1 rfl) ?_
      refine lv_iload_n C.1 C.2.1 dX0_lettersMatched_18 rfl (lv_at hl 3 rfl) ?_
      refine k_i (r_VN (As := [.int x3]) (rest := [.int r5]) C hml (c_X3_letter l G k1 x3 σ4 _ hk1 h) kM_X3_letter im_X3_letter se_X3_letter nm_X0_33 ⟨rfl, rfl⟩ ⟨Nat.le_of_ble_eq_true rfl, Nat.le_of_ble_eq_true rfl⟩ hcs S.v hk1 (by decide) (T := TX3) (N := 6) rfl rfl hl.1 rfl (Nat.le_of_ble_eq_true rfl) dX0_lettersMatched_19) S (fun r7 σ6 H locs h S => ?_)
      refine lv_icmp_ne (tgt := 31) C.1 C.2.1 dX0_lettersMatched_22 (by decide) (fun c8 => ?_) (fun c8 => ?_)
      · replace h := h.1 c8
        refine lv_iload_n C.1 C.2.1 dX0_lettersMatched_31 rfl (lv_at hl 3 rfl) ?_
        exact hR _ _ _ _ _ _ dX0_lettersMatched_32 h S
      · replace h := h.2 c8
        refine lv_iinc (v := (x3 + 1)) (lv' := [(3, .int (x3 + 1)), (0, .ref (G.2.2 + k0)), (1, .ref (G.2.2 + k1)), (2, .int x2)]) C.1 C.2.1 dX0_lettersMatched_25 hl (k := 3) rfl rfl (by decide) rfl (fun ls hl => ?_)
        refine lv_goto (tgt := 2) C.1 C.2.1 dX0_lettersMatched_28 (by decide) ?_
        exact ih ((x3 + 1)) _ _ _ _ S (lv_sub hl [1, 2, 3, 0] rfl) h
theorem kM_X0_lettersMatched : s_M yX0_lettersMatched cX0_lettersMatched 4 (some .int) 2 := ⟨co_X0_lettersMatched, in_X0, by decide, by decide, by decide +kernel⟩
set_option maxHeartbeats 4000000 in
set_option maxRecDepth 100000 in
theorem c_X0_lettersMatched (l : Launch) (G : s_G) (k0 : Nat) (k1 : Nat) (x2 : Int32) (σ : Sg) (post : Int32 → Sg → Prop) (hk0 : s_kd k0 = 0) (hk1 : s_kd k1 = 3) (h : wpX0_lettersMatched k0 k1 x2 σ post) : Met l yX0_lettersMatched (wsU yX0_lettersMatched cX0_lettersMatched 4 (some .int)) rm_X0_lettersMatched (va_Pc [.ref (G.2.2 + k0), .ref (G.2.2 + k1), .int x2] (s_Pre G σ)) (va_Qi post (s_B G) (s_A G.2.2)) 0 0 (s_A G.2.2) := by
  refine Met.ofW (cc := cX0_lettersMatched) (maxL := 4) (ret := (some .int)) (by decide) rfl ?_
  intro p e s m args below meth c s₁ B hml hv
  obtain ⟨rfl, hP, hrok, hK, hN⟩ := hv
  have C : s_C G p s (([.ref (G.2.2 + k0), .ref (G.2.2 + k1), .int x2] : List Value).toArray) m c RX0 cX0_lettersMatched := ⟨B.exec, B.bytes, findClass_of_methodNamed B.named, fun w hw => atoms_spec (ws := wsU yX0_lettersMatched cX0_lettersMatched 4 (some .int)) B.pre w (List.mem_cons_of_mem _ hw), hK, hN⟩
  have hr := B.returns
  have hlocks := B.notSynchronized
  have S : s_St G σ s.heap s.heap [] := ⟨hP, va_S.rf, hrok⟩
  have hcs : 0 ≤ (rm_X0_lettersMatched).cells ∧ 0 ≤ (rm_X0_lettersMatched).slots := ⟨Nat.le_refl 0, Nat.le_refl 0⟩
  have hR : ∀ (r : Int32) (σ1 : Sg) (H : Heap) (locs : List Loc) (pc : Nat) (ls : Array Slot), decode cX0_lettersMatched pc = .ok (.ireturn, 1) → post r σ1 → s_St G σ1 s.heap H locs → W p l e rm_X0_lettersMatched s m ([.ref (G.2.2 + k0), .ref (G.2.2 + k1), .int x2] : List Value).toArray below meth c H locs 0 0 (MQ below (va_Qi post (s_B G) (s_A G.2.2)) ([.ref (G.2.2 + k0), .ref (G.2.2 + k1), .int x2] : List Value).toArray s 0 0 (s_A G.2.2)) (F0 m pc ls [.int r]) := fun _ _ _ _ _ _ hd hp S => ret_i C hr hlocks hd hp S
  have hl := lv_entry ([.ref (G.2.2 + k0), .ref (G.2.2 + k1), .int x2]) (n := 4) (Nat.le_of_ble_eq_true rfl)
  rw [lg_entry_eq]
  generalize (lg_sl ([.ref (G.2.2 + k0), .ref (G.2.2 + k1), .int x2]) ++ List.replicate (4 - (lg_sl ([.ref (G.2.2 + k0), .ref (G.2.2 + k1), .int x2])).length) Slot.unset).toArray = ls at hl ⊢
  have hl : lv_has ls 4 [(0, .ref (G.2.2 + k0)), (1, .ref (G.2.2 + k1)), (2, .int x2)] := hl
  unfold wpX0_lettersMatched at h
  refine lv_iconst (v := (0 : Int32)) C.1 C.2.1 dX0_lettersMatched_0 (by decide) ?_
  refine lv_istore_n (lv' := [(3, .int (0 : Int32)), (0, .ref (G.2.2 + k0)), (1, .ref (G.2.2 + k1)), (2, .int x2)]) C.1 C.2.1 dX0_lettersMatched_1 rfl hl (by decide) rfl (fun ls hl => ?_)
  obtain ⟨nf, h⟩ := h
  exact TX0_lettersMatched_2 C hml hcs hk0 hk1 hR nf ((0 : Int32)) S (lv_sub hl [1, 2, 3, 0] rfl) h
/-! X1_at -/
abbrev rm_X1_at : Room := { frames := 0, cells := 0, slots := 0, locals := 0 }
def wpX1_at (k0 : Nat) (x1 : Int32) (σ : Sg) (post : Nat → Sg → Prop) : Prop := (((x1 < 0) → post ((s_fin k0 1)) σ) ∧ ((¬ x1 < 0) → ((((6 : Int32) ≤ x1) → post ((s_fin k0 1)) σ) ∧ ((¬ (6 : Int32) ≤ x1) → (vp_in x1 6 ∧ (∀ q3 : Nat, q3 = (σ.2.2 (s_fin k0 0) (x1).toNatClampNeg) → post q3 σ))))))
theorem kM_X1_at : s_M yX1_at cX1_at 2 (some (.object "PhraseReader$Member")) 1 := ⟨co_X1_at, in_X1, by decide, by decide, by decide +kernel⟩
set_option maxHeartbeats 4000000 in
set_option maxRecDepth 100000 in
theorem c_X1_at (l : Launch) (G : s_G) (k0 : Nat) (x1 : Int32) (σ : Sg) (post : Nat → Sg → Prop) (hk0 : s_kd k0 = 1) (h : wpX1_at k0 x1 σ post) : Met l yX1_at (wsU yX1_at cX1_at 2 (some (.object "PhraseReader$Member"))) rm_X1_at (va_Pc [.ref (G.2.2 + k0), .int x1] (s_Pre G σ)) (va_Qr (fun u : Nat × Sg => post u.1 u.2) (s_Br G 3) (s_A G.2.2)) 0 0 (s_A G.2.2) := by
  refine Met.ofW (cc := cX1_at) (maxL := 2) (ret := (some (.object "PhraseReader$Member"))) (by decide) rfl ?_
  intro p e s m args below meth c s₁ B hml hv
  obtain ⟨rfl, hP, hrok, hK, hN⟩ := hv
  have C : s_C G p s (([.ref (G.2.2 + k0), .int x1] : List Value).toArray) m c RX1 cX1_at := ⟨B.exec, B.bytes, findClass_of_methodNamed B.named, fun w hw => atoms_spec (ws := wsU yX1_at cX1_at 2 (some (.object "PhraseReader$Member"))) B.pre w (List.mem_cons_of_mem _ hw), hK, hN⟩
  have hr := B.returns
  have hlocks := B.notSynchronized
  have S : s_St G σ s.heap s.heap [] := ⟨hP, va_S.rf, hrok⟩
  have hcs : 0 ≤ (rm_X1_at).cells ∧ 0 ≤ (rm_X1_at).slots := ⟨Nat.le_refl 0, Nat.le_refl 0⟩
  have hR : ∀ (r : Nat) (σ1 : Sg) (H : Heap) (locs : List Loc) (pc : Nat) (ls : Array Slot), decode cX1_at pc = .ok (.areturn, 1) → s_kd r = 3 → post r σ1 → s_St G σ1 s.heap H locs → W p l e rm_X1_at s m ([.ref (G.2.2 + k0), .int x1] : List Value).toArray below meth c H locs 0 0 (MQ below (va_Qr (fun u : Nat × Sg => post u.1 u.2) (s_Br G 3) (s_A G.2.2)) ([.ref (G.2.2 + k0), .int x1] : List Value).toArray s 0 0 (s_A G.2.2)) (F0 m pc ls [.ref (G.2.2 + r)]) := fun _ _ _ _ _ _ hd hq hp S => ret_r C hr hlocks hd hq hp S
  have hl := lv_entry ([.ref (G.2.2 + k0), .int x1]) (n := 2) (Nat.le_of_ble_eq_true rfl)
  rw [lg_entry_eq]
  generalize (lg_sl ([.ref (G.2.2 + k0), .int x1]) ++ List.replicate (2 - (lg_sl ([.ref (G.2.2 + k0), .int x1])).length) Slot.unset).toArray = ls at hl ⊢
  have hl : lv_has ls 2 [(0, .ref (G.2.2 + k0)), (1, .int x1)] := hl
  unfold wpX1_at at h
  refine lv_iload_n C.1 C.2.1 dX1_at_0 rfl (lv_at hl 1 rfl) ?_
  refine lv_if_lt (tgt := 22) C.1 C.2.1 dX1_at_1 (by decide) (fun c1 => ?_) (fun c1 => ?_)
  · replace h := h.1 c1
    refine lv_aload_n C.1 C.2.1 dX1_at_22 rfl (lv_at hl 0 rfl) ?_
    refine g_X1_1 C fl_X1_18 hk0 S rfl dX1_at_23 ?_
    exact hR _ _ _ _ _ _ dX1_at_26 ((kdf_X1_1 hk0)) h S
  · replace h := h.2 c1
    refine lv_iload_n C.1 C.2.1 dX1_at_4 rfl (lv_at hl 1 rfl) ?_
    refine lv_aload_n C.1 C.2.1 dX1_at_5 rfl (lv_at hl 0 rfl) ?_
    refine g_X1_0 C fl_X1_11 hk0 S rfl dX1_at_6 ?_
    refine a_len11 C ((kdf_X1_0 hk0)) S (v := (6 : Int32)) (by rw [(lnf_X1_0 hk0)]; rfl) dX1_at_9 ?_
    refine lv_icmp_ge (tgt := 22) C.1 C.2.1 dX1_at_10 (by decide) (fun c2 => ?_) (fun c2 => ?_)
    · replace h := h.1 c2
      refine lv_aload_n C.1 C.2.1 dX1_at_22 rfl (lv_at hl 0 rfl) ?_
      refine g_X1_1 C fl_X1_18 hk0 S rfl dX1_at_23 ?_
      exact hR _ _ _ _ _ _ dX1_at_26 ((kdf_X1_1 hk0)) h S
    · replace h := h.2 c2
      refine lv_aload_n C.1 C.2.1 dX1_at_13 rfl (lv_at hl 0 rfl) ?_
      refine g_X1_0 C fl_X1_11 hk0 S rfl dX1_at_14 ?_
      refine lv_iload_n C.1 C.2.1 dX1_at_17 rfl (lv_at hl 1 rfl) ?_
      have hq3 := (S.2.2 ((s_fin k0 0)) (x1).toNatClampNeg (vp_lt (lnf_X1_0 hk0) h.1)).1 ((kdf_X1_0 hk0))
      refine a_mld C ((kdf_X1_0 hk0)) S (lnf_X1_0 hk0) h.1 dX1_at_18 ?_
      replace h := h.2
      obtain ⟨q3, e4⟩ : ∃ z, z = (σ.2.2 (s_fin k0 0) (x1).toNatClampNeg) := ⟨_, rfl⟩
      rw [← e4] at hq3 ⊢
      replace h := h q3 e4
      refine lv_goto (tgt := 26) C.1 C.2.1 dX1_at_19 (by decide) ?_
      exact hR _ _ _ _ _ _ dX1_at_26 hq3 h S
/-! X6_timesIn -/
abbrev rm_X6_timesIn : Room := { frames := 0, cells := 0, slots := 0, locals := 0 }
def wpX6_timesIn (x0 : Int32) (x1 : Int32) (σ : Sg) (post : Int32 → Sg → Prop) : Prop := post (((x0 >>> (((2 : Int32) * x1) &&& 31)) &&& (3 : Int32))) σ
theorem kM_X6_timesIn : s_M yX6_timesIn cX6_timesIn 2 (some .int) 2 := ⟨co_X6_timesIn, in_X6, by decide, by decide, by decide +kernel⟩
set_option maxHeartbeats 4000000 in
set_option maxRecDepth 100000 in
theorem c_X6_timesIn (l : Launch) (G : s_G) (x0 : Int32) (x1 : Int32) (σ : Sg) (post : Int32 → Sg → Prop) (h : wpX6_timesIn x0 x1 σ post) : Met l yX6_timesIn (wsU yX6_timesIn cX6_timesIn 2 (some .int)) rm_X6_timesIn (va_Pc [.int x0, .int x1] (s_Pre G σ)) (va_Qi post (s_B G) (s_A G.2.2)) 0 0 (s_A G.2.2) := by
  refine Met.ofW (cc := cX6_timesIn) (maxL := 2) (ret := (some .int)) (by decide) rfl ?_
  intro p e s m args below meth c s₁ B hml hv
  obtain ⟨rfl, hP, hrok, hK, hN⟩ := hv
  have C : s_C G p s (([.int x0, .int x1] : List Value).toArray) m c RX6 cX6_timesIn := ⟨B.exec, B.bytes, findClass_of_methodNamed B.named, fun w hw => atoms_spec (ws := wsU yX6_timesIn cX6_timesIn 2 (some .int)) B.pre w (List.mem_cons_of_mem _ hw), hK, hN⟩
  have hr := B.returns
  have hlocks := B.notSynchronized
  have S : s_St G σ s.heap s.heap [] := ⟨hP, va_S.rf, hrok⟩
  have hcs : 0 ≤ (rm_X6_timesIn).cells ∧ 0 ≤ (rm_X6_timesIn).slots := ⟨Nat.le_refl 0, Nat.le_refl 0⟩
  have hR : ∀ (r : Int32) (σ1 : Sg) (H : Heap) (locs : List Loc) (pc : Nat) (ls : Array Slot), decode cX6_timesIn pc = .ok (.ireturn, 1) → post r σ1 → s_St G σ1 s.heap H locs → W p l e rm_X6_timesIn s m ([.int x0, .int x1] : List Value).toArray below meth c H locs 0 0 (MQ below (va_Qi post (s_B G) (s_A G.2.2)) ([.int x0, .int x1] : List Value).toArray s 0 0 (s_A G.2.2)) (F0 m pc ls [.int r]) := fun _ _ _ _ _ _ hd hp S => ret_i C hr hlocks hd hp S
  have hl := lv_entry ([.int x0, .int x1]) (n := 2) (Nat.le_of_ble_eq_true rfl)
  rw [lg_entry_eq]
  generalize (lg_sl ([.int x0, .int x1]) ++ List.replicate (2 - (lg_sl ([.int x0, .int x1])).length) Slot.unset).toArray = ls at hl ⊢
  have hl : lv_has ls 2 [(0, .int x0), (1, .int x1)] := hl
  unfold wpX6_timesIn at h
  refine lv_iload_n C.1 C.2.1 dX6_timesIn_0 rfl (lv_at hl 0 rfl) ?_
  refine lv_iconst (v := (2 : Int32)) C.1 C.2.1 dX6_timesIn_1 (by decide) ?_
  refine lv_iload_n C.1 C.2.1 dX6_timesIn_2 rfl (lv_at hl 1 rfl) ?_
  refine lv_imul C.1 C.2.1 dX6_timesIn_3 ?_
  refine lv_ishr C.1 C.2.1 dX6_timesIn_4 ?_
  refine lv_iconst (v := (3 : Int32)) C.1 C.2.1 dX6_timesIn_5 (by decide) ?_
  refine lv_iand C.1 C.2.1 dX6_timesIn_6 ?_
  exact hR _ _ _ _ _ _ dX6_timesIn_7 h S
/-! X1_presentIn -/
abbrev rm_X1_presentIn : Room := { frames := 1, cells := 0, slots := 0, locals := 21 }
def BX1_presentIn_4 (k0 : Nat) (x1 : Int32) (post : Int32 → Sg → Prop) : Nat → Int32 → Int32 → Sg → Prop
  | 0, _, _, _ => False
  | n + 1, x2, x3, σ => ((((σ.1 k0 2) ≤ x3) → post x2 σ) ∧ ((¬ (σ.1 k0 2) ≤ x3) → wpX6_timesIn x1 x3 σ (fun r3 σ2 => (((r3 ≤ 0) → BX1_presentIn_4 k0 x1 post n x2 ((x3 + 1)) σ2) ∧ ((¬ r3 ≤ 0) → BX1_presentIn_4 k0 x1 post n ((x2 ||| ((1 : Int32) <<< (x3 &&& 31)))) ((x3 + 1)) σ2)))))
def wpX1_presentIn (k0 : Nat) (x1 : Int32) (σ : Sg) (post : Int32 → Sg → Prop) : Prop := ∃ nf, BX1_presentIn_4 k0 x1 post nf ((0 : Int32)) ((0 : Int32)) σ
set_option maxHeartbeats 4000000 in
set_option maxRecDepth 100000 in
theorem TX1_presentIn_4 (C : s_C G p s args m c RX1 cX1_presentIn) (hml : c.maxLocals = 4) (hcs : cells ≤ (rm_X1_presentIn).cells ∧ slots ≤ (rm_X1_presentIn).slots) {k0 : Nat} {x1 : Int32} (hk0 : s_kd k0 = 1) {post : Int32 → Sg → Prop} (hR : ∀ (r : Int32) (σ1 : Sg) (H : Heap) (locs : List Loc) (pc : Nat) (ls : Array Slot), decode cX1_presentIn pc = .ok (.ireturn, 1) → post r σ1 → s_St G σ1 H0 H locs → W p l e rm_X1_presentIn s m args below meth c H locs cells slots Q (F0 m pc ls [.int r])) : ∀ (n : Nat) (x2 : Int32) (x3 : Int32), ∀ {σ : Sg} {H : Heap} {locs : List Loc} {ls : Array Slot}, s_St G σ H0 H locs → lv_has ls 4 [(0, .ref (G.2.2 + k0)), (1, .int x1), (2, .int x2), (3, .int x3)] → BX1_presentIn_4 k0 x1 post n x2 x3 σ → W p l e rm_X1_presentIn s m args below meth c H locs cells slots Q (F0 m 4 ls []) := by
  intro n
  induction n with
  | zero =>
    intro x2 x3  σ H locs ls S hl h
    exact absurd h (fun h => h)
  | succ n ih0 =>
    have ih : ∀ (x2 : Int32) (x3 : Int32), ∀ (σ : Sg) (H : Heap) (locs : List Loc) (ls : Array Slot), s_St G σ H0 H locs → lv_has ls 4 [(0, .ref (G.2.2 + k0)), (1, .int x1), (2, .int x2), (3, .int x3)] → BX1_presentIn_4 k0 x1 post n x2 x3 σ → W p l e rm_X1_presentIn s m args below meth c H locs cells slots Q (F0 m 4 ls []) := fun x2 x3  _ _ _ _ => ih0 x2 x3 
    intro x2 x3  σ H locs ls S hl h
    refine lv_iload_n C.1 C.2.1 dX1_presentIn_4 rfl (lv_at hl 3 rfl) ?_
    refine lv_aload_n C.1 C.2.1 dX1_presentIn_5 rfl (lv_at hl 0 rfl) ?_
    refine g_X1_2 C fl_X1_22 hk0 S dX1_presentIn_6 ?_
    refine lv_icmp_ge (tgt := 32) C.1 C.2.1 dX1_presentIn_9 (by decide) (fun c1 => ?_) (fun c1 => ?_)
    · replace h := h.1 c1
      refine lv_iload_n C.1 C.2.1 dX1_presentIn_32 rfl (lv_at hl 2 rfl) ?_
      exact hR _ _ _ _ _ _ dX1_presentIn_33 h S
    · replace h := h.2 c1
      refine lv_iload_n C.1 C.2.1 dX1_presentIn_12 rfl (lv_at hl 1 rfl) ?_
      refine lv_iload_n C.1 C.2.1 dX1_presentIn_13 rfl (lv_at hl 3 rfl) ?_
      refine k_i (r_SN (As := [.int x1, .int x3]) (rest := []) C hml (c_X6_timesIn l G x1 x3 σ _ h) kM_X6_timesIn st_X6_timesIn nm_X1_84 ⟨rfl, rfl⟩ ⟨Nat.le_of_ble_eq_true rfl, Nat.le_of_ble_eq_true rfl⟩ hcs S.v rfl hl.1 rfl (Nat.le_of_ble_eq_true rfl) dX1_presentIn_14) S (fun r3 σ2 H locs h S => ?_)
      refine lv_if_le (tgt := 26) C.1 C.2.1 dX1_presentIn_17 (by decide) (fun c4 => ?_) (fun c4 => ?_)
      · replace h := h.1 c4
        refine lv_iinc (v := (x3 + 1)) (lv' := [(3, .int (x3 + 1)), (0, .ref (G.2.2 + k0)), (1, .int x1), (2, .int x2)]) C.1 C.2.1 dX1_presentIn_26 hl (k := 3) rfl rfl (by decide) rfl (fun ls hl => ?_)
        refine lv_goto (tgt := 4) C.1 C.2.1 dX1_presentIn_29 (by decide) ?_
        exact ih x2 ((x3 + 1)) _ _ _ _ S (lv_sub hl [1, 2, 3, 0] rfl) h
      · replace h := h.2 c4
        refine lv_iload_n C.1 C.2.1 dX1_presentIn_20 rfl (lv_at hl 2 rfl) ?_
        refine lv_iconst (v := (1 : Int32)) C.1 C.2.1 dX1_presentIn_21 (by decide) ?_
        refine lv_iload_n C.1 C.2.1 dX1_presentIn_22 rfl (lv_at hl 3 rfl) ?_
        refine lv_ishl C.1 C.2.1 dX1_presentIn_23 ?_
        refine lv_ior C.1 C.2.1 dX1_presentIn_24 ?_
        refine lv_istore_n (lv' := [(2, .int (x2 ||| ((1 : Int32) <<< (x3 &&& 31)))), (0, .ref (G.2.2 + k0)), (1, .int x1), (3, .int x3)]) C.1 C.2.1 dX1_presentIn_25 rfl hl (by decide) rfl (fun ls hl => ?_)
        refine lv_iinc (v := (x3 + 1)) (lv' := [(3, .int (x3 + 1)), (2, .int (x2 ||| ((1 : Int32) <<< (x3 &&& 31)))), (0, .ref (G.2.2 + k0)), (1, .int x1)]) C.1 C.2.1 dX1_presentIn_26 hl (k := 3) rfl rfl (by decide) rfl (fun ls hl => ?_)
        refine lv_goto (tgt := 4) C.1 C.2.1 dX1_presentIn_29 (by decide) ?_
        exact ih ((x2 ||| ((1 : Int32) <<< (x3 &&& 31)))) ((x3 + 1)) _ _ _ _ S (lv_sub hl [2, 3, 1, 0] rfl) h
theorem kM_X1_presentIn : s_M yX1_presentIn cX1_presentIn 4 (some .int) 1 := ⟨co_X1_presentIn, in_X1, by decide, by decide, by decide +kernel⟩
set_option maxHeartbeats 4000000 in
set_option maxRecDepth 100000 in
theorem c_X1_presentIn (l : Launch) (G : s_G) (k0 : Nat) (x1 : Int32) (σ : Sg) (post : Int32 → Sg → Prop) (hk0 : s_kd k0 = 1) (h : wpX1_presentIn k0 x1 σ post) : Met l yX1_presentIn (wsU yX1_presentIn cX1_presentIn 4 (some .int)) rm_X1_presentIn (va_Pc [.ref (G.2.2 + k0), .int x1] (s_Pre G σ)) (va_Qi post (s_B G) (s_A G.2.2)) 0 0 (s_A G.2.2) := by
  refine Met.ofW (cc := cX1_presentIn) (maxL := 4) (ret := (some .int)) (by decide) rfl ?_
  intro p e s m args below meth c s₁ B hml hv
  obtain ⟨rfl, hP, hrok, hK, hN⟩ := hv
  have C : s_C G p s (([.ref (G.2.2 + k0), .int x1] : List Value).toArray) m c RX1 cX1_presentIn := ⟨B.exec, B.bytes, findClass_of_methodNamed B.named, fun w hw => atoms_spec (ws := wsU yX1_presentIn cX1_presentIn 4 (some .int)) B.pre w (List.mem_cons_of_mem _ hw), hK, hN⟩
  have hr := B.returns
  have hlocks := B.notSynchronized
  have S : s_St G σ s.heap s.heap [] := ⟨hP, va_S.rf, hrok⟩
  have hcs : 0 ≤ (rm_X1_presentIn).cells ∧ 0 ≤ (rm_X1_presentIn).slots := ⟨Nat.le_refl 0, Nat.le_refl 0⟩
  have hR : ∀ (r : Int32) (σ1 : Sg) (H : Heap) (locs : List Loc) (pc : Nat) (ls : Array Slot), decode cX1_presentIn pc = .ok (.ireturn, 1) → post r σ1 → s_St G σ1 s.heap H locs → W p l e rm_X1_presentIn s m ([.ref (G.2.2 + k0), .int x1] : List Value).toArray below meth c H locs 0 0 (MQ below (va_Qi post (s_B G) (s_A G.2.2)) ([.ref (G.2.2 + k0), .int x1] : List Value).toArray s 0 0 (s_A G.2.2)) (F0 m pc ls [.int r]) := fun _ _ _ _ _ _ hd hp S => ret_i C hr hlocks hd hp S
  have hl := lv_entry ([.ref (G.2.2 + k0), .int x1]) (n := 4) (Nat.le_of_ble_eq_true rfl)
  rw [lg_entry_eq]
  generalize (lg_sl ([.ref (G.2.2 + k0), .int x1]) ++ List.replicate (4 - (lg_sl ([.ref (G.2.2 + k0), .int x1])).length) Slot.unset).toArray = ls at hl ⊢
  have hl : lv_has ls 4 [(0, .ref (G.2.2 + k0)), (1, .int x1)] := hl
  unfold wpX1_presentIn at h
  refine lv_iconst (v := (0 : Int32)) C.1 C.2.1 dX1_presentIn_0 (by decide) ?_
  refine lv_istore_n (lv' := [(2, .int (0 : Int32)), (0, .ref (G.2.2 + k0)), (1, .int x1)]) C.1 C.2.1 dX1_presentIn_1 rfl hl (by decide) rfl (fun ls hl => ?_)
  refine lv_iconst (v := (0 : Int32)) C.1 C.2.1 dX1_presentIn_2 (by decide) ?_
  refine lv_istore_n (lv' := [(3, .int (0 : Int32)), (2, .int (0 : Int32)), (0, .ref (G.2.2 + k0)), (1, .int x1)]) C.1 C.2.1 dX1_presentIn_3 rfl hl (by decide) rfl (fun ls hl => ?_)
  obtain ⟨nf, h⟩ := h
  exact TX1_presentIn_4 C hml hcs hk0 hR nf ((0 : Int32)) ((0 : Int32)) S (lv_sub hl [2, 3, 1, 0] rfl) h
/-! X1_followers -/
abbrev rm_X1_followers : Room := { frames := 2, cells := 0, slots := 0, locals := 44 }
def BX1_followers_11 (k0 : Nat) (x1 : Int32) (post : Int32 → Sg → Prop) : Nat → Int32 → Int32 → Int32 → Sg → Prop
  | 0, _, _, _, _ => False
  | n + 1, x2, x3, x4, σ => ((((σ.1 k0 2) ≤ x4) → post x3 σ) ∧ ((¬ (σ.1 k0 2) ≤ x4) → wpX6_timesIn x1 x4 σ (fun r3 σ2 => wpX1_at k0 x4 σ2 (fun q5 σ4 => s_kd q5 = 3 → ((((σ4.1 q5 3) ≤ r3) → BX1_followers_11 k0 x1 post n x2 x3 ((x4 + 1)) σ4) ∧ ((¬ (σ4.1 q5 3) ≤ r3) → wpX1_at k0 x4 σ4 (fun q8 σ7 => s_kd q8 = 3 → (((¬ ((σ7.1 q8 5) &&& x2) = 0) → BX1_followers_11 k0 x1 post n x2 x3 ((x4 + 1)) σ7) ∧ ((((σ7.1 q8 5) &&& x2) = 0) → BX1_followers_11 k0 x1 post n x2 ((x3 ||| ((1 : Int32) <<< (x4 &&& 31)))) ((x4 + 1)) σ7)))))))))
def wpX1_followers (k0 : Nat) (x1 : Int32) (σ : Sg) (post : Int32 → Sg → Prop) : Prop := wpX1_presentIn k0 x1 σ (fun r11 σ10 => ∃ nf, BX1_followers_11 k0 x1 post nf r11 ((0 : Int32)) ((0 : Int32)) σ10)
set_option maxHeartbeats 4000000 in
set_option maxRecDepth 100000 in
theorem TX1_followers_11 (C : s_C G p s args m c RX1 cX1_followers) (hml : c.maxLocals = 5) (hcs : cells ≤ (rm_X1_followers).cells ∧ slots ≤ (rm_X1_followers).slots) {k0 : Nat} {x1 : Int32} (hk0 : s_kd k0 = 1) {post : Int32 → Sg → Prop} (hR : ∀ (r : Int32) (σ1 : Sg) (H : Heap) (locs : List Loc) (pc : Nat) (ls : Array Slot), decode cX1_followers pc = .ok (.ireturn, 1) → post r σ1 → s_St G σ1 H0 H locs → W p l e rm_X1_followers s m args below meth c H locs cells slots Q (F0 m pc ls [.int r])) : ∀ (n : Nat) (x2 : Int32) (x3 : Int32) (x4 : Int32), ∀ {σ : Sg} {H : Heap} {locs : List Loc} {ls : Array Slot}, s_St G σ H0 H locs → lv_has ls 5 [(0, .ref (G.2.2 + k0)), (1, .int x1), (2, .int x2), (3, .int x3), (4, .int x4)] → BX1_followers_11 k0 x1 post n x2 x3 x4 σ → W p l e rm_X1_followers s m args below meth c H locs cells slots Q (F0 m 11 ls []) := by
  intro n
  induction n with
  | zero =>
    intro x2 x3 x4  σ H locs ls S hl h
    exact absurd h (fun h => h)
  | succ n ih0 =>
    have ih : ∀ (x2 : Int32) (x3 : Int32) (x4 : Int32), ∀ (σ : Sg) (H : Heap) (locs : List Loc) (ls : Array Slot), s_St G σ H0 H locs → lv_has ls 5 [(0, .ref (G.2.2 + k0)), (1, .int x1), (2, .int x2), (3, .int x3), (4, .int x4)] → BX1_followers_11 k0 x1 post n x2 x3 x4 σ → W p l e rm_X1_followers s m args below meth c H locs cells slots Q (F0 m 11 ls []) := fun x2 x3 x4  _ _ _ _ => ih0 x2 x3 x4 
    intro x2 x3 x4  σ H locs ls S hl h
    refine lv_iload C.1 C.2.1 dX1_followers_11 (lv_at hl 4 rfl) ?_
    refine lv_aload_n C.1 C.2.1 dX1_followers_13 rfl (lv_at hl 0 rfl) ?_
    refine g_X1_2 C fl_X1_22 hk0 S dX1_followers_14 ?_
    refine lv_icmp_ge (tgt := 65) C.1 C.2.1 dX1_followers_17 (by decide) (fun c1 => ?_) (fun c1 => ?_)
    · replace h := h.1 c1
      refine lv_iload_n C.1 C.2.1 dX1_followers_65 rfl (lv_at hl 3 rfl) ?_
      exact hR _ _ _ _ _ _ dX1_followers_66 h S
    · replace h := h.2 c1
      refine lv_iload_n C.1 C.2.1 dX1_followers_20 rfl (lv_at hl 1 rfl) ?_
      refine lv_iload C.1 C.2.1 dX1_followers_21 (lv_at hl 4 rfl) ?_
      refine k_i (r_SN (As := [.int x1, .int x4]) (rest := []) C hml (c_X6_timesIn l G x1 x4 σ _ h) kM_X6_timesIn st_X6_timesIn nm_X1_84 ⟨rfl, rfl⟩ ⟨Nat.le_of_ble_eq_true rfl, Nat.le_of_ble_eq_true rfl⟩ hcs S.v rfl hl.1 rfl (Nat.le_of_ble_eq_true rfl) dX1_followers_23) S (fun r3 σ2 H locs h S => ?_)
      refine lv_aload_n C.1 C.2.1 dX1_followers_26 rfl (lv_at hl 0 rfl) ?_
      refine lv_iload C.1 C.2.1 dX1_followers_27 (lv_at hl 4 rfl) ?_
      refine k_r (kd := 3) (r_V (As := [.int x4]) (rest := [.int r3]) C hml (c_X1_at l G k0 x4 σ2 _ hk0 h) kM_X1_at im_X1_at se_X1_at ml_X1_29 ⟨rfl, rfl⟩ ⟨Nat.le_of_ble_eq_true rfl, Nat.le_of_ble_eq_true rfl⟩ hcs S.v hk0 (by decide) (T := TX1) (N := 4) rfl rfl hl.1 rfl (Nat.le_of_ble_eq_true rfl) dX1_followers_29) S (fun q5 σ4 H locs hq5 h S => ?_)
      replace h := h hq5
      refine gn_X3_3 C nf_X1_46 hq5 S dX1_followers_32 ?_
      refine lv_icmp_ge (tgt := 59) C.1 C.2.1 dX1_followers_35 (by decide) (fun c6 => ?_) (fun c6 => ?_)
      · replace h := h.1 c6
        refine lv_iinc (v := (x4 + 1)) (lv' := [(4, .int (x4 + 1)), (0, .ref (G.2.2 + k0)), (1, .int x1), (2, .int x2), (3, .int x3)]) C.1 C.2.1 dX1_followers_59 hl (k := 4) rfl rfl (by decide) rfl (fun ls hl => ?_)
        refine lv_goto (tgt := 11) C.1 C.2.1 dX1_followers_62 (by decide) ?_
        exact ih x2 x3 ((x4 + 1)) _ _ _ _ S (lv_sub hl [1, 2, 3, 4, 0] rfl) h
      · replace h := h.2 c6
        refine lv_aload_n C.1 C.2.1 dX1_followers_38 rfl (lv_at hl 0 rfl) ?_
        refine lv_iload C.1 C.2.1 dX1_followers_39 (lv_at hl 4 rfl) ?_
        refine k_r (kd := 3) (r_V (As := [.int x4]) (rest := []) C hml (c_X1_at l G k0 x4 σ4 _ hk0 h) kM_X1_at im_X1_at se_X1_at ml_X1_29 ⟨rfl, rfl⟩ ⟨Nat.le_of_ble_eq_true rfl, Nat.le_of_ble_eq_true rfl⟩ hcs S.v hk0 (by decide) (T := TX1) (N := 4) rfl rfl hl.1 rfl (Nat.le_of_ble_eq_true rfl) dX1_followers_41) S (fun q8 σ7 H locs hq8 h S => ?_)
        replace h := h hq8
        refine gn_X3_5 C nf_X1_52 hq8 S dX1_followers_44 ?_
        refine lv_iload_n C.1 C.2.1 dX1_followers_47 rfl (lv_at hl 2 rfl) ?_
        refine lv_iand C.1 C.2.1 dX1_followers_48 ?_
        refine lv_if_ne (tgt := 59) C.1 C.2.1 dX1_followers_49 (by decide) (fun c9 => ?_) (fun c9 => ?_)
        · replace h := h.1 c9
          refine lv_iinc (v := (x4 + 1)) (lv' := [(4, .int (x4 + 1)), (0, .ref (G.2.2 + k0)), (1, .int x1), (2, .int x2), (3, .int x3)]) C.1 C.2.1 dX1_followers_59 hl (k := 4) rfl rfl (by decide) rfl (fun ls hl => ?_)
          refine lv_goto (tgt := 11) C.1 C.2.1 dX1_followers_62 (by decide) ?_
          exact ih x2 x3 ((x4 + 1)) _ _ _ _ S (lv_sub hl [1, 2, 3, 4, 0] rfl) h
        · replace h := h.2 c9
          refine lv_iload_n C.1 C.2.1 dX1_followers_52 rfl (lv_at hl 3 rfl) ?_
          refine lv_iconst (v := (1 : Int32)) C.1 C.2.1 dX1_followers_53 (by decide) ?_
          refine lv_iload C.1 C.2.1 dX1_followers_54 (lv_at hl 4 rfl) ?_
          refine lv_ishl C.1 C.2.1 dX1_followers_56 ?_
          refine lv_ior C.1 C.2.1 dX1_followers_57 ?_
          refine lv_istore_n (lv' := [(3, .int (x3 ||| ((1 : Int32) <<< (x4 &&& 31)))), (0, .ref (G.2.2 + k0)), (1, .int x1), (2, .int x2), (4, .int x4)]) C.1 C.2.1 dX1_followers_58 rfl hl (by decide) rfl (fun ls hl => ?_)
          refine lv_iinc (v := (x4 + 1)) (lv' := [(4, .int (x4 + 1)), (3, .int (x3 ||| ((1 : Int32) <<< (x4 &&& 31)))), (0, .ref (G.2.2 + k0)), (1, .int x1), (2, .int x2)]) C.1 C.2.1 dX1_followers_59 hl (k := 4) rfl rfl (by decide) rfl (fun ls hl => ?_)
          refine lv_goto (tgt := 11) C.1 C.2.1 dX1_followers_62 (by decide) ?_
          exact ih x2 ((x3 ||| ((1 : Int32) <<< (x4 &&& 31)))) ((x4 + 1)) _ _ _ _ S (lv_sub hl [2, 3, 4, 1, 0] rfl) h
theorem kM_X1_followers : s_M yX1_followers cX1_followers 5 (some .int) 1 := ⟨co_X1_followers, in_X1, by decide, by decide, by decide +kernel⟩
set_option maxHeartbeats 4000000 in
set_option maxRecDepth 100000 in
theorem c_X1_followers (l : Launch) (G : s_G) (k0 : Nat) (x1 : Int32) (σ : Sg) (post : Int32 → Sg → Prop) (hk0 : s_kd k0 = 1) (h : wpX1_followers k0 x1 σ post) : Met l yX1_followers (wsU yX1_followers cX1_followers 5 (some .int)) rm_X1_followers (va_Pc [.ref (G.2.2 + k0), .int x1] (s_Pre G σ)) (va_Qi post (s_B G) (s_A G.2.2)) 0 0 (s_A G.2.2) := by
  refine Met.ofW (cc := cX1_followers) (maxL := 5) (ret := (some .int)) (by decide) rfl ?_
  intro p e s m args below meth c s₁ B hml hv
  obtain ⟨rfl, hP, hrok, hK, hN⟩ := hv
  have C : s_C G p s (([.ref (G.2.2 + k0), .int x1] : List Value).toArray) m c RX1 cX1_followers := ⟨B.exec, B.bytes, findClass_of_methodNamed B.named, fun w hw => atoms_spec (ws := wsU yX1_followers cX1_followers 5 (some .int)) B.pre w (List.mem_cons_of_mem _ hw), hK, hN⟩
  have hr := B.returns
  have hlocks := B.notSynchronized
  have S : s_St G σ s.heap s.heap [] := ⟨hP, va_S.rf, hrok⟩
  have hcs : 0 ≤ (rm_X1_followers).cells ∧ 0 ≤ (rm_X1_followers).slots := ⟨Nat.le_refl 0, Nat.le_refl 0⟩
  have hR : ∀ (r : Int32) (σ1 : Sg) (H : Heap) (locs : List Loc) (pc : Nat) (ls : Array Slot), decode cX1_followers pc = .ok (.ireturn, 1) → post r σ1 → s_St G σ1 s.heap H locs → W p l e rm_X1_followers s m ([.ref (G.2.2 + k0), .int x1] : List Value).toArray below meth c H locs 0 0 (MQ below (va_Qi post (s_B G) (s_A G.2.2)) ([.ref (G.2.2 + k0), .int x1] : List Value).toArray s 0 0 (s_A G.2.2)) (F0 m pc ls [.int r]) := fun _ _ _ _ _ _ hd hp S => ret_i C hr hlocks hd hp S
  have hl := lv_entry ([.ref (G.2.2 + k0), .int x1]) (n := 5) (Nat.le_of_ble_eq_true rfl)
  rw [lg_entry_eq]
  generalize (lg_sl ([.ref (G.2.2 + k0), .int x1]) ++ List.replicate (5 - (lg_sl ([.ref (G.2.2 + k0), .int x1])).length) Slot.unset).toArray = ls at hl ⊢
  have hl : lv_has ls 5 [(0, .ref (G.2.2 + k0)), (1, .int x1)] := hl
  unfold wpX1_followers at h
  refine lv_aload_n C.1 C.2.1 dX1_followers_0 rfl (lv_at hl 0 rfl) ?_
  refine lv_iload_n C.1 C.2.1 dX1_followers_1 rfl (lv_at hl 1 rfl) ?_
  refine k_i (r_V (As := [.int x1]) (rest := []) C hml (c_X1_presentIn l G k0 x1 σ _ hk0 h) kM_X1_presentIn im_X1_presentIn se_X1_presentIn ml_X1_87 ⟨rfl, rfl⟩ ⟨Nat.le_of_ble_eq_true rfl, Nat.le_of_ble_eq_true rfl⟩ hcs S.v hk0 (by decide) (T := TX1) (N := 4) rfl rfl hl.1 rfl (Nat.le_of_ble_eq_true rfl) dX1_followers_2) S (fun r11 σ10 H locs h S => ?_)
  refine lv_istore_n (lv' := [(2, .int r11), (0, .ref (G.2.2 + k0)), (1, .int x1)]) C.1 C.2.1 dX1_followers_5 rfl hl (by decide) rfl (fun ls hl => ?_)
  refine lv_iconst (v := (0 : Int32)) C.1 C.2.1 dX1_followers_6 (by decide) ?_
  refine lv_istore_n (lv' := [(3, .int (0 : Int32)), (2, .int r11), (0, .ref (G.2.2 + k0)), (1, .int x1)]) C.1 C.2.1 dX1_followers_7 rfl hl (by decide) rfl (fun ls hl => ?_)
  refine lv_iconst (v := (0 : Int32)) C.1 C.2.1 dX1_followers_8 (by decide) ?_
  refine lv_istore (lv' := [(4, .int (0 : Int32)), (3, .int (0 : Int32)), (2, .int r11), (0, .ref (G.2.2 + k0)), (1, .int x1)]) C.1 C.2.1 dX1_followers_9 hl (by decide) rfl (fun ls hl => ?_)
  obtain ⟨nf, h⟩ := h
  exact TX1_followers_11 C hml hcs hk0 hR nf r11 ((0 : Int32)) ((0 : Int32)) S (lv_sub hl [3, 4, 2, 1, 0] rfl) h
/-! X5_startBehind -/
abbrev rm_X5_startBehind : Room := { frames := 1, cells := 0, slots := 0, locals := 21 }
def wpX5_startBehind (x1 : Int32) (σ : Sg) (post : Int32 → Sg → Prop) : Prop := wpX5_endOf x1 σ (fun r2 σ1 => (((x1 = 0) → post r2 σ1) ∧ ((¬ x1 = 0) → (((¬ (σ1.1 5 3) = 0) → wpX0_at 1 r2 σ1 (fun r6 σ5 => (((¬ r6 = (σ5.1 5 3)) → post ((-9 : Int32)) σ5) ∧ ((r6 = (σ5.1 5 3)) → post ((r2 + (1 : Int32))) σ5)))) ∧ (((σ1.1 5 3) = 0) → post r2 σ1)))))
theorem kM_X5_startBehind : s_M yX5_startBehind cX5_startBehind 5 (some .int) 3 := ⟨co_X5_startBehind, in_X5, by decide, by decide, by decide +kernel⟩
set_option maxHeartbeats 4000000 in
set_option maxRecDepth 100000 in
theorem c_X5_startBehind (l : Launch) (G : s_G) (x1 : Int32) (σ : Sg) (post : Int32 → Sg → Prop) (h : wpX5_startBehind x1 σ post) : Met l yX5_startBehind (wsU yX5_startBehind cX5_startBehind 5 (some .int)) rm_X5_startBehind (va_Pc [.ref (G.2.2 + 90), .int x1, .ref (G.2.2 + 5), .ref (G.2.2 + 1)] (s_Pre G σ)) (va_Qi post (s_B G) (s_A G.2.2)) 0 0 (s_A G.2.2) := by
  refine Met.ofW (cc := cX5_startBehind) (maxL := 5) (ret := (some .int)) (by decide) rfl ?_
  intro p e s m args below meth c s₁ B hml hv
  obtain ⟨rfl, hP, hrok, hK, hN⟩ := hv
  have C : s_C G p s (([.ref (G.2.2 + 90), .int x1, .ref (G.2.2 + 5), .ref (G.2.2 + 1)] : List Value).toArray) m c RX5 cX5_startBehind := ⟨B.exec, B.bytes, findClass_of_methodNamed B.named, fun w hw => atoms_spec (ws := wsU yX5_startBehind cX5_startBehind 5 (some .int)) B.pre w (List.mem_cons_of_mem _ hw), hK, hN⟩
  have hr := B.returns
  have hlocks := B.notSynchronized
  have S : s_St G σ s.heap s.heap [] := ⟨hP, va_S.rf, hrok⟩
  have hcs : 0 ≤ (rm_X5_startBehind).cells ∧ 0 ≤ (rm_X5_startBehind).slots := ⟨Nat.le_refl 0, Nat.le_refl 0⟩
  have hR : ∀ (r : Int32) (σ1 : Sg) (H : Heap) (locs : List Loc) (pc : Nat) (ls : Array Slot), decode cX5_startBehind pc = .ok (.ireturn, 1) → post r σ1 → s_St G σ1 s.heap H locs → W p l e rm_X5_startBehind s m ([.ref (G.2.2 + 90), .int x1, .ref (G.2.2 + 5), .ref (G.2.2 + 1)] : List Value).toArray below meth c H locs 0 0 (MQ below (va_Qi post (s_B G) (s_A G.2.2)) ([.ref (G.2.2 + 90), .int x1, .ref (G.2.2 + 5), .ref (G.2.2 + 1)] : List Value).toArray s 0 0 (s_A G.2.2)) (F0 m pc ls [.int r]) := fun _ _ _ _ _ _ hd hp S => ret_i C hr hlocks hd hp S
  have hl := lv_entry ([.ref (G.2.2 + 90), .int x1, .ref (G.2.2 + 5), .ref (G.2.2 + 1)]) (n := 5) (Nat.le_of_ble_eq_true rfl)
  rw [lg_entry_eq]
  generalize (lg_sl ([.ref (G.2.2 + 90), .int x1, .ref (G.2.2 + 5), .ref (G.2.2 + 1)]) ++ List.replicate (5 - (lg_sl ([.ref (G.2.2 + 90), .int x1, .ref (G.2.2 + 5), .ref (G.2.2 + 1)])).length) Slot.unset).toArray = ls at hl ⊢
  have hl : lv_has ls 5 [(0, .ref (G.2.2 + 90)), (1, .int x1), (2, .ref (G.2.2 + 5)), (3, .ref (G.2.2 + 1))] := hl
  unfold wpX5_startBehind at h
  refine lv_aload_n C.1 C.2.1 dX5_startBehind_0 rfl (lv_at hl 0 rfl) ?_
  refine lv_iload_n C.1 C.2.1 dX5_startBehind_1 rfl (lv_at hl 1 rfl) ?_
  refine k_i (r_V (As := [.int x1]) (rest := []) C hml (c_X5_endOf l G x1 σ _ h) kM_X5_endOf im_X5_endOf se_X5_endOf ml_X5_59 ⟨rfl, rfl⟩ ⟨Nat.le_of_ble_eq_true rfl, Nat.le_of_ble_eq_true rfl⟩ hcs S.v kd_90 (by decide) (T := TX5) (N := 8) rfl rfl hl.1 rfl (Nat.le_of_ble_eq_true rfl) dX5_startBehind_2) S (fun r2 σ1 H locs h S => ?_)
  refine lv_istore (lv' := [(4, .int r2), (0, .ref (G.2.2 + 90)), (1, .int x1), (2, .ref (G.2.2 + 5)), (3, .ref (G.2.2 + 1))]) C.1 C.2.1 dX5_startBehind_5 hl (by decide) rfl (fun ls hl => ?_)
  refine lv_iload_n C.1 C.2.1 dX5_startBehind_7 rfl (lv_at hl 2 rfl) ?_
  refine lv_if_eq (tgt := 18) C.1 C.2.1 dX5_startBehind_8 (by decide) (fun c3 => ?_) (fun c3 => ?_)
  · replace h := h.1 c3
    refine lv_iload C.1 C.2.1 dX5_startBehind_18 (lv_at hl 0 rfl) ?_
    exact hR _ _ _ _ _ _ dX5_startBehind_20 h S
  · replace h := h.2 c3
    refine lv_aload_n C.1 C.2.1 dX5_startBehind_11 rfl (lv_at hl 3 rfl) ?_
    refine gn_X1_3 C nf_X5_90 kd_5 S dX5_startBehind_12 ?_
    refine lv_if_ne (tgt := 21) C.1 C.2.1 dX5_startBehind_15 (by decide) (fun c4 => ?_) (fun c4 => ?_)
    · replace h := h.1 c4
      refine lv_aload_n C.1 C.2.1 dX5_startBehind_21 rfl (lv_at hl 4 rfl) ?_
      refine lv_iload C.1 C.2.1 dX5_startBehind_22 (lv_at hl 0 rfl) ?_
      refine k_i (r_VN (As := [.int r2]) (rest := []) C hml (c_X0_at l G 1 r2 σ1 _ kd_1 h) kM_X0_at im_X0_at se_X0_at nm_X5_93 ⟨rfl, rfl⟩ ⟨Nat.le_of_ble_eq_true rfl, Nat.le_of_ble_eq_true rfl⟩ hcs S.v kd_1 (by decide) (T := TX0) (N := 2) rfl rfl hl.1 rfl (Nat.le_of_ble_eq_true rfl) dX5_startBehind_24) S (fun r6 σ5 H locs h S => ?_)
      refine lv_aload_n C.1 C.2.1 dX5_startBehind_27 rfl (lv_at hl 3 rfl) ?_
      refine gn_X1_3 C nf_X5_90 kd_5 S dX5_startBehind_28 ?_
      refine lv_icmp_ne (tgt := 41) C.1 C.2.1 dX5_startBehind_31 (by decide) (fun c7 => ?_) (fun c7 => ?_)
      · replace h := h.1 c7
        refine lv_bipush (v := (-9 : Int32)) C.1 C.2.1 dX5_startBehind_41 (by decide) ?_
        exact hR _ _ _ _ _ _ dX5_startBehind_43 h S
      · replace h := h.2 c7
        refine lv_iload C.1 C.2.1 dX5_startBehind_34 (lv_at hl 0 rfl) ?_
        refine lv_iconst (v := (1 : Int32)) C.1 C.2.1 dX5_startBehind_36 (by decide) ?_
        refine lv_iadd C.1 C.2.1 dX5_startBehind_37 ?_
        refine lv_goto (tgt := 43) C.1 C.2.1 dX5_startBehind_38 (by decide) ?_
        exact hR _ _ _ _ _ _ dX5_startBehind_43 h S
    · replace h := h.2 c4
      refine lv_iload C.1 C.2.1 dX5_startBehind_18 (lv_at hl 0 rfl) ?_
      exact hR _ _ _ _ _ _ dX5_startBehind_20 h S
/-! X6_bitOf -/
abbrev rm_X6_bitOf : Room := { frames := 0, cells := 0, slots := 0, locals := 0 }
def wpX6_bitOf (x0 : Int32) (x1 : Int32) (σ : Sg) (post : Int32 → Sg → Prop) : Prop := post (((x0 >>> (x1 &&& 31)) &&& (1 : Int32))) σ
theorem kM_X6_bitOf : s_M yX6_bitOf cX6_bitOf 2 (some .int) 2 := ⟨co_X6_bitOf, in_X6, by decide, by decide, by decide +kernel⟩
set_option maxHeartbeats 4000000 in
set_option maxRecDepth 100000 in
theorem c_X6_bitOf (l : Launch) (G : s_G) (x0 : Int32) (x1 : Int32) (σ : Sg) (post : Int32 → Sg → Prop) (h : wpX6_bitOf x0 x1 σ post) : Met l yX6_bitOf (wsU yX6_bitOf cX6_bitOf 2 (some .int)) rm_X6_bitOf (va_Pc [.int x0, .int x1] (s_Pre G σ)) (va_Qi post (s_B G) (s_A G.2.2)) 0 0 (s_A G.2.2) := by
  refine Met.ofW (cc := cX6_bitOf) (maxL := 2) (ret := (some .int)) (by decide) rfl ?_
  intro p e s m args below meth c s₁ B hml hv
  obtain ⟨rfl, hP, hrok, hK, hN⟩ := hv
  have C : s_C G p s (([.int x0, .int x1] : List Value).toArray) m c RX6 cX6_bitOf := ⟨B.exec, B.bytes, findClass_of_methodNamed B.named, fun w hw => atoms_spec (ws := wsU yX6_bitOf cX6_bitOf 2 (some .int)) B.pre w (List.mem_cons_of_mem _ hw), hK, hN⟩
  have hr := B.returns
  have hlocks := B.notSynchronized
  have S : s_St G σ s.heap s.heap [] := ⟨hP, va_S.rf, hrok⟩
  have hcs : 0 ≤ (rm_X6_bitOf).cells ∧ 0 ≤ (rm_X6_bitOf).slots := ⟨Nat.le_refl 0, Nat.le_refl 0⟩
  have hR : ∀ (r : Int32) (σ1 : Sg) (H : Heap) (locs : List Loc) (pc : Nat) (ls : Array Slot), decode cX6_bitOf pc = .ok (.ireturn, 1) → post r σ1 → s_St G σ1 s.heap H locs → W p l e rm_X6_bitOf s m ([.int x0, .int x1] : List Value).toArray below meth c H locs 0 0 (MQ below (va_Qi post (s_B G) (s_A G.2.2)) ([.int x0, .int x1] : List Value).toArray s 0 0 (s_A G.2.2)) (F0 m pc ls [.int r]) := fun _ _ _ _ _ _ hd hp S => ret_i C hr hlocks hd hp S
  have hl := lv_entry ([.int x0, .int x1]) (n := 2) (Nat.le_of_ble_eq_true rfl)
  rw [lg_entry_eq]
  generalize (lg_sl ([.int x0, .int x1]) ++ List.replicate (2 - (lg_sl ([.int x0, .int x1])).length) Slot.unset).toArray = ls at hl ⊢
  have hl : lv_has ls 2 [(0, .int x0), (1, .int x1)] := hl
  unfold wpX6_bitOf at h
  refine lv_iload_n C.1 C.2.1 dX6_bitOf_0 rfl (lv_at hl 0 rfl) ?_
  refine lv_iload_n C.1 C.2.1 dX6_bitOf_1 rfl (lv_at hl 1 rfl) ?_
  refine lv_ishr C.1 C.2.1 dX6_bitOf_2 ?_
  refine lv_iconst (v := (1 : Int32)) C.1 C.2.1 dX6_bitOf_3 (by decide) ?_
  refine lv_iand C.1 C.2.1 dX6_bitOf_4 ?_
  exact hR _ _ _ _ _ _ dX6_bitOf_5 h S
/-! X5_farthestBehind -/
abbrev rm_X5_farthestBehind : Room := { frames := 3, cells := 0, slots := 0, locals := 68 }
def BX5_farthestBehind_39 (x1 : Int32) (post : Int32 → Sg → Prop) : Nat → Int32 → Int32 → Int32 → Int32 → Sg → Prop
  | 0, _, _, _, _, _ => False
  | n + 1, x4, x5, x6, x7, σ => ((((σ.1 5 2) ≤ x7) → post x6 σ) ∧ ((¬ (σ.1 5 2) ≤ x7) → wpX6_bitOf x4 x7 σ (fun r3 σ2 => (((¬ r3 = (1 : Int32)) → BX5_farthestBehind_39 x1 post n x4 x5 x6 ((x7 + 1)) σ2) ∧ ((r3 = (1 : Int32)) → wpX1_at 5 x7 σ2 (fun q6 σ5 => s_kd q6 = 3 → wpX0_lettersMatched 1 q6 x5 σ5 (fun r8 σ7 => BX5_farthestBehind_39 x1 post n x4 x5 ((if x6 < (x5 + r8) then (x5 + r8) else x6)) ((x7 + 1)) σ7)))))))
def wpX5_farthestBehind (x1 : Int32) (σ : Sg) (post : Int32 → Sg → Prop) : Prop := wpX1_followers 5 x1 σ (fun r10 σ9 => wpX5_startBehind x1 σ9 (fun r12 σ11 => (((r10 = 0) → wpX5_endOf x1 σ11 (fun r15 σ14 => post r15 σ14)) ∧ ((¬ r10 = 0) → (((0 ≤ r12) → ∃ nf, BX5_farthestBehind_39 x1 post nf r10 r12 r12 ((0 : Int32)) σ11) ∧ ((¬ 0 ≤ r12) → wpX5_endOf x1 σ11 (fun r18 σ17 => post r18 σ17)))))))
set_option maxHeartbeats 4000000 in
set_option maxRecDepth 100000 in
theorem TX5_farthestBehind_39 (C : s_C G p s args m c RX5 cX5_farthestBehind) (hml : c.maxLocals = 8) (hcs : cells ≤ (rm_X5_farthestBehind).cells ∧ slots ≤ (rm_X5_farthestBehind).slots) {x1 : Int32} {post : Int32 → Sg → Prop} (hR : ∀ (r : Int32) (σ1 : Sg) (H : Heap) (locs : List Loc) (pc : Nat) (ls : Array Slot), decode cX5_farthestBehind pc = .ok (.ireturn, 1) → post r σ1 → s_St G σ1 H0 H locs → W p l e rm_X5_farthestBehind s m args below meth c H locs cells slots Q (F0 m pc ls [.int r])) : ∀ (n : Nat) (x4 : Int32) (x5 : Int32) (x6 : Int32) (x7 : Int32), ∀ {σ : Sg} {H : Heap} {locs : List Loc} {ls : Array Slot}, s_St G σ H0 H locs → lv_has ls 8 [(2, .ref (G.2.2 + 5)), (3, .ref (G.2.2 + 1)), (4, .int x4), (5, .int x5), (6, .int x6), (7, .int x7)] → BX5_farthestBehind_39 x1 post n x4 x5 x6 x7 σ → W p l e rm_X5_farthestBehind s m args below meth c H locs cells slots Q (F0 m 39 ls []) := by
  intro n
  induction n with
  | zero =>
    intro x4 x5 x6 x7  σ H locs ls S hl h
    exact absurd h (fun h => h)
  | succ n ih0 =>
    have ih : ∀ (x4 : Int32) (x5 : Int32) (x6 : Int32) (x7 : Int32), ∀ (σ : Sg) (H : Heap) (locs : List Loc) (ls : Array Slot), s_St G σ H0 H locs → lv_has ls 8 [(2, .ref (G.2.2 + 5)), (3, .ref (G.2.2 + 1)), (4, .int x4), (5, .int x5), (6, .int x6), (7, .int x7)] → BX5_farthestBehind_39 x1 post n x4 x5 x6 x7 σ → W p l e rm_X5_farthestBehind s m args below meth c H locs cells slots Q (F0 m 39 ls []) := fun x4 x5 x6 x7  _ _ _ _ => ih0 x4 x5 x6 x7 
    intro x4 x5 x6 x7  σ H locs ls S hl h
    refine lv_iload C.1 C.2.1 dX5_farthestBehind_39 (lv_at hl 5 rfl) ?_
    refine lv_aload_n C.1 C.2.1 dX5_farthestBehind_41 rfl (lv_at hl 0 rfl) ?_
    refine gn_X1_2 C nf_X5_73 kd_5 S dX5_farthestBehind_42 ?_
    refine lv_icmp_ge (tgt := 87) C.1 C.2.1 dX5_farthestBehind_45 (by decide) (fun c1 => ?_) (fun c1 => ?_)
    · replace h := h.1 c1
      refine lv_iload C.1 C.2.1 dX5_farthestBehind_87 (lv_at hl 4 rfl) ?_
      exact hR _ _ _ _ _ _ dX5_farthestBehind_89 h S
    · replace h := h.2 c1
      refine lv_iload C.1 C.2.1 dX5_farthestBehind_48 (lv_at hl 2 rfl) ?_
      refine lv_iload C.1 C.2.1 dX5_farthestBehind_50 (lv_at hl 5 rfl) ?_
      refine k_i (r_SN (As := [.int x4, .int x7]) (rest := []) C hml (c_X6_bitOf l G x4 x7 σ _ h) kM_X6_bitOf st_X6_bitOf nm_X5_74 ⟨rfl, rfl⟩ ⟨Nat.le_of_ble_eq_true rfl, Nat.le_of_ble_eq_true rfl⟩ hcs S.v rfl hl.1 rfl (Nat.le_of_ble_eq_true rfl) dX5_farthestBehind_52) S (fun r3 σ2 H locs h S => ?_)
      refine lv_iconst (v := (1 : Int32)) C.1 C.2.1 dX5_farthestBehind_55 (by decide) ?_
      refine lv_icmp_ne (tgt := 81) C.1 C.2.1 dX5_farthestBehind_56 (by decide) (fun c4 => ?_) (fun c4 => ?_)
      · replace h := h.1 c4
        refine lv_iinc (v := (x7 + 1)) (lv' := [(7, .int (x7 + 1)), (2, .ref (G.2.2 + 5)), (3, .ref (G.2.2 + 1)), (4, .int x4), (5, .int x5), (6, .int x6)]) C.1 C.2.1 dX5_farthestBehind_81 hl (k := 5) rfl rfl (by decide) rfl (fun ls hl => ?_)
        refine lv_goto (tgt := 39) C.1 C.2.1 dX5_farthestBehind_84 (by decide) ?_
        exact ih x4 x5 x6 ((x7 + 1)) _ _ _ _ S (lv_sub hl [1, 2, 3, 4, 5, 0] rfl) h
      · replace h := h.2 c4
        refine lv_iload C.1 C.2.1 dX5_farthestBehind_59 (lv_at hl 4 rfl) ?_
        refine lv_iload C.1 C.2.1 dX5_farthestBehind_61 (lv_at hl 3 rfl) ?_
        refine lv_aload_n C.1 C.2.1 dX5_farthestBehind_63 rfl (lv_at hl 1 rfl) ?_
        refine lv_aload_n C.1 C.2.1 dX5_farthestBehind_64 rfl (lv_at hl 0 rfl) ?_
        refine lv_iload C.1 C.2.1 dX5_farthestBehind_65 (lv_at hl 5 rfl) ?_
        refine k_r (kd := 3) (r_VN (As := [.int x7]) (rest := [.ref (G.2.2 + 1), .int x5, .int x6]) C hml (c_X1_at l G 5 x7 σ2 _ kd_5 h) kM_X1_at im_X1_at se_X1_at nm_X5_78 ⟨rfl, rfl⟩ ⟨Nat.le_of_ble_eq_true rfl, Nat.le_of_ble_eq_true rfl⟩ hcs S.v kd_5 (by decide) (T := TX1) (N := 4) rfl rfl hl.1 rfl (Nat.le_of_ble_eq_true rfl) dX5_farthestBehind_67) S (fun q6 σ5 H locs hq6 h S => ?_)
        replace h := h hq6
        refine lv_iload C.1 C.2.1 dX5_farthestBehind_70 (lv_at hl 3 rfl) ?_
        refine k_i (r_VN (As := [.ref (G.2.2 + q6), .int x5]) (rest := [.int x5, .int x6]) C hml (c_X0_lettersMatched l G 1 q6 x5 σ5 _ kd_1 hq6 h) kM_X0_lettersMatched im_X0_lettersMatched se_X0_lettersMatched nm_X5_128 ⟨rfl, rfl⟩ ⟨Nat.le_of_ble_eq_true rfl, Nat.le_of_ble_eq_true rfl⟩ hcs S.v kd_1 (by decide) (T := TX0) (N := 2) rfl rfl hl.1 rfl (Nat.le_of_ble_eq_true rfl) dX5_farthestBehind_72) S (fun r8 σ7 H locs h S => ?_)
        refine lv_iadd C.1 C.2.1 dX5_farthestBehind_75 ?_
        refine va_mmax C.1 C.2.1 (hml.trans hl.1.symm) C.2.2.1 (C.2.2.2.1 _ ml_X5_125) (C.2.2.2.1 _ st_max) (C.2.2.2.1 _ in_math) (C.2.2.2.1 _ co_max) (Nat.le_of_ble_eq_true rfl) (Nat.le_of_ble_eq_true rfl) hcs.1 hcs.2 dX5_farthestBehind_76 ?_
        refine lv_istore (lv' := [(6, .int (if x6 < (x5 + r8) then (x5 + r8) else x6)), (2, .ref (G.2.2 + 5)), (3, .ref (G.2.2 + 1)), (4, .int x4), (5, .int x5), (7, .int x7)]) C.1 C.2.1 dX5_farthestBehind_79 hl (by decide) rfl (fun ls hl => ?_)
        refine lv_iinc (v := (x7 + 1)) (lv' := [(7, .int (x7 + 1)), (6, .int (if x6 < (x5 + r8) then (x5 + r8) else x6)), (2, .ref (G.2.2 + 5)), (3, .ref (G.2.2 + 1)), (4, .int x4), (5, .int x5)]) C.1 C.2.1 dX5_farthestBehind_81 hl (k := 5) rfl rfl (by decide) rfl (fun ls hl => ?_)
        refine lv_goto (tgt := 39) C.1 C.2.1 dX5_farthestBehind_84 (by decide) ?_
        exact ih x4 x5 ((if x6 < (x5 + r8) then (x5 + r8) else x6)) ((x7 + 1)) _ _ _ _ S (lv_sub hl [2, 3, 4, 5, 1, 0] rfl) h
theorem kM_X5_farthestBehind : s_M yX5_farthestBehind cX5_farthestBehind 8 (some .int) 3 := ⟨co_X5_farthestBehind, in_X5, by decide, by decide, by decide +kernel⟩
set_option maxHeartbeats 4000000 in
set_option maxRecDepth 100000 in
theorem c_X5_farthestBehind (l : Launch) (G : s_G) (x1 : Int32) (σ : Sg) (post : Int32 → Sg → Prop) (h : wpX5_farthestBehind x1 σ post) : Met l yX5_farthestBehind (wsU yX5_farthestBehind cX5_farthestBehind 8 (some .int)) rm_X5_farthestBehind (va_Pc [.ref (G.2.2 + 90), .int x1, .ref (G.2.2 + 5), .ref (G.2.2 + 1)] (s_Pre G σ)) (va_Qi post (s_B G) (s_A G.2.2)) 0 0 (s_A G.2.2) := by
  refine Met.ofW (cc := cX5_farthestBehind) (maxL := 8) (ret := (some .int)) (by decide) rfl ?_
  intro p e s m args below meth c s₁ B hml hv
  obtain ⟨rfl, hP, hrok, hK, hN⟩ := hv
  have C : s_C G p s (([.ref (G.2.2 + 90), .int x1, .ref (G.2.2 + 5), .ref (G.2.2 + 1)] : List Value).toArray) m c RX5 cX5_farthestBehind := ⟨B.exec, B.bytes, findClass_of_methodNamed B.named, fun w hw => atoms_spec (ws := wsU yX5_farthestBehind cX5_farthestBehind 8 (some .int)) B.pre w (List.mem_cons_of_mem _ hw), hK, hN⟩
  have hr := B.returns
  have hlocks := B.notSynchronized
  have S : s_St G σ s.heap s.heap [] := ⟨hP, va_S.rf, hrok⟩
  have hcs : 0 ≤ (rm_X5_farthestBehind).cells ∧ 0 ≤ (rm_X5_farthestBehind).slots := ⟨Nat.le_refl 0, Nat.le_refl 0⟩
  have hR : ∀ (r : Int32) (σ1 : Sg) (H : Heap) (locs : List Loc) (pc : Nat) (ls : Array Slot), decode cX5_farthestBehind pc = .ok (.ireturn, 1) → post r σ1 → s_St G σ1 s.heap H locs → W p l e rm_X5_farthestBehind s m ([.ref (G.2.2 + 90), .int x1, .ref (G.2.2 + 5), .ref (G.2.2 + 1)] : List Value).toArray below meth c H locs 0 0 (MQ below (va_Qi post (s_B G) (s_A G.2.2)) ([.ref (G.2.2 + 90), .int x1, .ref (G.2.2 + 5), .ref (G.2.2 + 1)] : List Value).toArray s 0 0 (s_A G.2.2)) (F0 m pc ls [.int r]) := fun _ _ _ _ _ _ hd hp S => ret_i C hr hlocks hd hp S
  have hl := lv_entry ([.ref (G.2.2 + 90), .int x1, .ref (G.2.2 + 5), .ref (G.2.2 + 1)]) (n := 8) (Nat.le_of_ble_eq_true rfl)
  rw [lg_entry_eq]
  generalize (lg_sl ([.ref (G.2.2 + 90), .int x1, .ref (G.2.2 + 5), .ref (G.2.2 + 1)]) ++ List.replicate (8 - (lg_sl ([.ref (G.2.2 + 90), .int x1, .ref (G.2.2 + 5), .ref (G.2.2 + 1)])).length) Slot.unset).toArray = ls at hl ⊢
  have hl : lv_has ls 8 [(0, .ref (G.2.2 + 90)), (1, .int x1), (2, .ref (G.2.2 + 5)), (3, .ref (G.2.2 + 1))] := hl
  unfold wpX5_farthestBehind at h
  refine lv_aload_n C.1 C.2.1 dX5_farthestBehind_0 rfl (lv_at hl 2 rfl) ?_
  refine lv_iload_n C.1 C.2.1 dX5_farthestBehind_1 rfl (lv_at hl 1 rfl) ?_
  refine k_i (r_VN (As := [.int x1]) (rest := []) C hml (c_X1_followers l G 5 x1 σ _ kd_5 h) kM_X1_followers im_X1_followers se_X1_followers nm_X5_70 ⟨rfl, rfl⟩ ⟨Nat.le_of_ble_eq_true rfl, Nat.le_of_ble_eq_true rfl⟩ hcs S.v kd_5 (by decide) (T := TX1) (N := 4) rfl rfl hl.1 rfl (Nat.le_of_ble_eq_true rfl) dX5_farthestBehind_2) S (fun r10 σ9 H locs h S => ?_)
  refine lv_istore (lv' := [(4, .int r10), (0, .ref (G.2.2 + 90)), (1, .int x1), (2, .ref (G.2.2 + 5)), (3, .ref (G.2.2 + 1))]) C.1 C.2.1 dX5_farthestBehind_5 hl (by decide) rfl (fun ls hl => ?_)
  refine lv_aload_n C.1 C.2.1 dX5_farthestBehind_7 rfl (lv_at hl 1 rfl) ?_
  refine lv_iload_n C.1 C.2.1 dX5_farthestBehind_8 rfl (lv_at hl 2 rfl) ?_
  refine lv_aload_n C.1 C.2.1 dX5_farthestBehind_9 rfl (lv_at hl 3 rfl) ?_
  refine lv_aload_n C.1 C.2.1 dX5_farthestBehind_10 rfl (lv_at hl 4 rfl) ?_
  refine k_i (r_V (As := [.int x1, .ref (G.2.2 + 5), .ref (G.2.2 + 1)]) (rest := []) C hml (c_X5_startBehind l G x1 σ9 _ h) kM_X5_startBehind im_X5_startBehind se_X5_startBehind ml_X5_67 ⟨rfl, rfl⟩ ⟨Nat.le_of_ble_eq_true rfl, Nat.le_of_ble_eq_true rfl⟩ hcs S.v kd_90 (by decide) (T := TX5) (N := 8) rfl rfl hl.1 rfl (Nat.le_of_ble_eq_true rfl) dX5_farthestBehind_11) S (fun r12 σ11 H locs h S => ?_)
  refine lv_istore (lv' := [(5, .int r12), (4, .int r10), (0, .ref (G.2.2 + 90)), (1, .int x1), (2, .ref (G.2.2 + 5)), (3, .ref (G.2.2 + 1))]) C.1 C.2.1 dX5_farthestBehind_14 hl (by decide) rfl (fun ls hl => ?_)
  refine lv_iload C.1 C.2.1 dX5_farthestBehind_16 (lv_at hl 1 rfl) ?_
  refine lv_if_eq (tgt := 26) C.1 C.2.1 dX5_farthestBehind_18 (by decide) (fun c13 => ?_) (fun c13 => ?_)
  · replace h := h.1 c13
    refine lv_aload_n C.1 C.2.1 dX5_farthestBehind_26 rfl (lv_at hl 2 rfl) ?_
    refine lv_iload_n C.1 C.2.1 dX5_farthestBehind_27 rfl (lv_at hl 3 rfl) ?_
    refine k_i (r_V (As := [.int x1]) (rest := []) C hml (c_X5_endOf l G x1 σ11 _ h) kM_X5_endOf im_X5_endOf se_X5_endOf ml_X5_59 ⟨rfl, rfl⟩ ⟨Nat.le_of_ble_eq_true rfl, Nat.le_of_ble_eq_true rfl⟩ hcs S.v kd_90 (by decide) (T := TX5) (N := 8) rfl rfl hl.1 rfl (Nat.le_of_ble_eq_true rfl) dX5_farthestBehind_28) S (fun r15 σ14 H locs h S => ?_)
    exact hR _ _ _ _ _ _ dX5_farthestBehind_31 h S
  · replace h := h.2 c13
    refine lv_iload C.1 C.2.1 dX5_farthestBehind_21 (lv_at hl 0 rfl) ?_
    refine lv_if_ge (tgt := 32) C.1 C.2.1 dX5_farthestBehind_23 (by decide) (fun c16 => ?_) (fun c16 => ?_)
    · replace h := h.1 c16
      refine lv_iload C.1 C.2.1 dX5_farthestBehind_32 (lv_at hl 0 rfl) ?_
      refine lv_istore (lv' := [(6, .int r12), (5, .int r12), (4, .int r10), (0, .ref (G.2.2 + 90)), (1, .int x1), (2, .ref (G.2.2 + 5)), (3, .ref (G.2.2 + 1))]) C.1 C.2.1 dX5_farthestBehind_34 hl (by decide) rfl (fun ls hl => ?_)
      refine lv_iconst (v := (0 : Int32)) C.1 C.2.1 dX5_farthestBehind_36 (by decide) ?_
      refine lv_istore (lv' := [(7, .int (0 : Int32)), (6, .int r12), (5, .int r12), (4, .int r10), (0, .ref (G.2.2 + 90)), (1, .int x1), (2, .ref (G.2.2 + 5)), (3, .ref (G.2.2 + 1))]) C.1 C.2.1 dX5_farthestBehind_37 hl (by decide) rfl (fun ls hl => ?_)
      obtain ⟨nf, h⟩ := h
      exact TX5_farthestBehind_39 C hml hcs hR nf r10 r12 r12 ((0 : Int32)) S (lv_sub hl [6, 7, 3, 2, 1, 0] rfl) h
    · replace h := h.2 c16
      refine lv_aload_n C.1 C.2.1 dX5_farthestBehind_26 rfl (lv_at hl 2 rfl) ?_
      refine lv_iload_n C.1 C.2.1 dX5_farthestBehind_27 rfl (lv_at hl 3 rfl) ?_
      refine k_i (r_V (As := [.int x1]) (rest := []) C hml (c_X5_endOf l G x1 σ11 _ h) kM_X5_endOf im_X5_endOf se_X5_endOf ml_X5_59 ⟨rfl, rfl⟩ ⟨Nat.le_of_ble_eq_true rfl, Nat.le_of_ble_eq_true rfl⟩ hcs S.v kd_90 (by decide) (T := TX5) (N := 8) rfl rfl hl.1 rfl (Nat.le_of_ble_eq_true rfl) dX5_farthestBehind_28) S (fun r18 σ17 H locs h S => ?_)
      exact hR _ _ _ _ _ _ dX5_farthestBehind_31 h S
/-! X5_farthest -/
abbrev rm_X5_farthest : Room := { frames := 4, cells := 0, slots := 0, locals := 95 }
def BX5_farthest_5  (post : Int32 → Sg → Prop) : Nat → Int32 → Int32 → Sg → Prop
  | 0, _, _, _ => False
  | n + 1, x3, x4, σ => wpX1_tallies 5 σ (fun r2 σ1 => (((r2 ≤ x4) → post x3 σ1) ∧ ((¬ r2 ≤ x4) → wpX5_endOf x4 σ1 (fun r5 σ4 => (((r5 < 0) → BX5_farthest_5 post n x3 ((x4 + 1)) σ4) ∧ ((¬ r5 < 0) → wpX5_farthestBehind x4 σ4 (fun r8 σ7 => BX5_farthest_5 post n ((if x3 < r8 then r8 else x3)) ((x4 + 1)) σ7)))))))
def wpX5_farthest  (σ : Sg) (post : Int32 → Sg → Prop) : Prop := ∃ nf, BX5_farthest_5 post nf ((0 : Int32)) ((0 : Int32)) σ
set_option maxHeartbeats 4000000 in
set_option maxRecDepth 100000 in
theorem TX5_farthest_5 (C : s_C G p s args m c RX5 cX5_farthest) (hml : c.maxLocals = 5) (hcs : cells ≤ (rm_X5_farthest).cells ∧ slots ≤ (rm_X5_farthest).slots)  {post : Int32 → Sg → Prop} (hR : ∀ (r : Int32) (σ1 : Sg) (H : Heap) (locs : List Loc) (pc : Nat) (ls : Array Slot), decode cX5_farthest pc = .ok (.ireturn, 1) → post r σ1 → s_St G σ1 H0 H locs → W p l e rm_X5_farthest s m args below meth c H locs cells slots Q (F0 m pc ls [.int r])) : ∀ (n : Nat) (x3 : Int32) (x4 : Int32), ∀ {σ : Sg} {H : Heap} {locs : List Loc} {ls : Array Slot}, s_St G σ H0 H locs → lv_has ls 5 [(0, .ref (G.2.2 + 90)), (1, .ref (G.2.2 + 5)), (2, .ref (G.2.2 + 1)), (3, .int x3), (4, .int x4)] → BX5_farthest_5 post n x3 x4 σ → W p l e rm_X5_farthest s m args below meth c H locs cells slots Q (F0 m 5 ls []) := by
  intro n
  induction n with
  | zero =>
    intro x3 x4  σ H locs ls S hl h
    exact absurd h (fun h => h)
  | succ n ih0 =>
    have ih : ∀ (x3 : Int32) (x4 : Int32), ∀ (σ : Sg) (H : Heap) (locs : List Loc) (ls : Array Slot), s_St G σ H0 H locs → lv_has ls 5 [(0, .ref (G.2.2 + 90)), (1, .ref (G.2.2 + 5)), (2, .ref (G.2.2 + 1)), (3, .int x3), (4, .int x4)] → BX5_farthest_5 post n x3 x4 σ → W p l e rm_X5_farthest s m args below meth c H locs cells slots Q (F0 m 5 ls []) := fun x3 x4  _ _ _ _ => ih0 x3 x4 
    intro x3 x4  σ H locs ls S hl h
    refine lv_iload C.1 C.2.1 dX5_farthest_5 (lv_at hl 4 rfl) ?_
    refine lv_aload_n C.1 C.2.1 dX5_farthest_7 rfl (lv_at hl 1 rfl) ?_
    refine k_i (r_VN (As := []) (rest := [.int x4]) C hml (c_X1_tallies l G 5 σ _ kd_5 h) kM_X1_tallies im_X1_tallies se_X1_tallies nm_X5_53 ⟨rfl, rfl⟩ ⟨Nat.le_of_ble_eq_true rfl, Nat.le_of_ble_eq_true rfl⟩ hcs S.v kd_5 (by decide) (T := TX1) (N := 4) rfl rfl hl.1 rfl (Nat.le_of_ble_eq_true rfl) dX5_farthest_8) S (fun r2 σ1 H locs h S => ?_)
    refine lv_icmp_ge (tgt := 42) C.1 C.2.1 dX5_farthest_11 (by decide) (fun c3 => ?_) (fun c3 => ?_)
    · replace h := h.1 c3
      refine lv_iload_n C.1 C.2.1 dX5_farthest_42 rfl (lv_at hl 3 rfl) ?_
      exact hR _ _ _ _ _ _ dX5_farthest_43 h S
    · replace h := h.2 c3
      refine lv_aload_n C.1 C.2.1 dX5_farthest_14 rfl (lv_at hl 0 rfl) ?_
      refine lv_iload C.1 C.2.1 dX5_farthest_15 (lv_at hl 4 rfl) ?_
      refine k_i (r_V (As := [.int x4]) (rest := []) C hml (c_X5_endOf l G x4 σ1 _ h) kM_X5_endOf im_X5_endOf se_X5_endOf ml_X5_59 ⟨rfl, rfl⟩ ⟨Nat.le_of_ble_eq_true rfl, Nat.le_of_ble_eq_true rfl⟩ hcs S.v kd_90 (by decide) (T := TX5) (N := 8) rfl rfl hl.1 rfl (Nat.le_of_ble_eq_true rfl) dX5_farthest_17) S (fun r5 σ4 H locs h S => ?_)
      refine lv_if_lt (tgt := 36) C.1 C.2.1 dX5_farthest_20 (by decide) (fun c6 => ?_) (fun c6 => ?_)
      · replace h := h.1 c6
        refine lv_iinc (v := (x4 + 1)) (lv' := [(4, .int (x4 + 1)), (0, .ref (G.2.2 + 90)), (1, .ref (G.2.2 + 5)), (2, .ref (G.2.2 + 1)), (3, .int x3)]) C.1 C.2.1 dX5_farthest_36 hl (k := 4) rfl rfl (by decide) rfl (fun ls hl => ?_)
        refine lv_goto (tgt := 5) C.1 C.2.1 dX5_farthest_39 (by decide) ?_
        exact ih x3 ((x4 + 1)) _ _ _ _ S (lv_sub hl [1, 2, 3, 4, 0] rfl) h
      · replace h := h.2 c6
        refine lv_iload_n C.1 C.2.1 dX5_farthest_23 rfl (lv_at hl 3 rfl) ?_
        refine lv_aload_n C.1 C.2.1 dX5_farthest_24 rfl (lv_at hl 0 rfl) ?_
        refine lv_iload C.1 C.2.1 dX5_farthest_25 (lv_at hl 4 rfl) ?_
        refine lv_aload_n C.1 C.2.1 dX5_farthest_27 rfl (lv_at hl 1 rfl) ?_
        refine lv_aload_n C.1 C.2.1 dX5_farthest_28 rfl (lv_at hl 2 rfl) ?_
        refine k_i (r_V (As := [.int x4, .ref (G.2.2 + 5), .ref (G.2.2 + 1)]) (rest := [.int x3]) C hml (c_X5_farthestBehind l G x4 σ4 _ h) kM_X5_farthestBehind im_X5_farthestBehind se_X5_farthestBehind ml_X5_122 ⟨rfl, rfl⟩ ⟨Nat.le_of_ble_eq_true rfl, Nat.le_of_ble_eq_true rfl⟩ hcs S.v kd_90 (by decide) (T := TX5) (N := 8) rfl rfl hl.1 rfl (Nat.le_of_ble_eq_true rfl) dX5_farthest_29) S (fun r8 σ7 H locs h S => ?_)
        refine va_mmax C.1 C.2.1 (hml.trans hl.1.symm) C.2.2.1 (C.2.2.2.1 _ ml_X5_125) (C.2.2.2.1 _ st_max) (C.2.2.2.1 _ in_math) (C.2.2.2.1 _ co_max) (Nat.le_of_ble_eq_true rfl) (Nat.le_of_ble_eq_true rfl) hcs.1 hcs.2 dX5_farthest_32 ?_
        refine lv_istore_n (lv' := [(3, .int (if x3 < r8 then r8 else x3)), (0, .ref (G.2.2 + 90)), (1, .ref (G.2.2 + 5)), (2, .ref (G.2.2 + 1)), (4, .int x4)]) C.1 C.2.1 dX5_farthest_35 rfl hl (by decide) rfl (fun ls hl => ?_)
        refine lv_iinc (v := (x4 + 1)) (lv' := [(4, .int (x4 + 1)), (3, .int (if x3 < r8 then r8 else x3)), (0, .ref (G.2.2 + 90)), (1, .ref (G.2.2 + 5)), (2, .ref (G.2.2 + 1))]) C.1 C.2.1 dX5_farthest_36 hl (k := 4) rfl rfl (by decide) rfl (fun ls hl => ?_)
        refine lv_goto (tgt := 5) C.1 C.2.1 dX5_farthest_39 (by decide) ?_
        exact ih ((if x3 < r8 then r8 else x3)) ((x4 + 1)) _ _ _ _ S (lv_sub hl [2, 3, 4, 1, 0] rfl) h
theorem kM_X5_farthest : s_M yX5_farthest cX5_farthest 5 (some .int) 2 := ⟨co_X5_farthest, in_X5, by decide, by decide, by decide +kernel⟩
set_option maxHeartbeats 4000000 in
set_option maxRecDepth 100000 in
theorem c_X5_farthest (l : Launch) (G : s_G)  (σ : Sg) (post : Int32 → Sg → Prop) (h : wpX5_farthest σ post) : Met l yX5_farthest (wsU yX5_farthest cX5_farthest 5 (some .int)) rm_X5_farthest (va_Pc [.ref (G.2.2 + 90), .ref (G.2.2 + 5), .ref (G.2.2 + 1)] (s_Pre G σ)) (va_Qi post (s_B G) (s_A G.2.2)) 0 0 (s_A G.2.2) := by
  refine Met.ofW (cc := cX5_farthest) (maxL := 5) (ret := (some .int)) (by decide) rfl ?_
  intro p e s m args below meth c s₁ B hml hv
  obtain ⟨rfl, hP, hrok, hK, hN⟩ := hv
  have C : s_C G p s (([.ref (G.2.2 + 90), .ref (G.2.2 + 5), .ref (G.2.2 + 1)] : List Value).toArray) m c RX5 cX5_farthest := ⟨B.exec, B.bytes, findClass_of_methodNamed B.named, fun w hw => atoms_spec (ws := wsU yX5_farthest cX5_farthest 5 (some .int)) B.pre w (List.mem_cons_of_mem _ hw), hK, hN⟩
  have hr := B.returns
  have hlocks := B.notSynchronized
  have S : s_St G σ s.heap s.heap [] := ⟨hP, va_S.rf, hrok⟩
  have hcs : 0 ≤ (rm_X5_farthest).cells ∧ 0 ≤ (rm_X5_farthest).slots := ⟨Nat.le_refl 0, Nat.le_refl 0⟩
  have hR : ∀ (r : Int32) (σ1 : Sg) (H : Heap) (locs : List Loc) (pc : Nat) (ls : Array Slot), decode cX5_farthest pc = .ok (.ireturn, 1) → post r σ1 → s_St G σ1 s.heap H locs → W p l e rm_X5_farthest s m ([.ref (G.2.2 + 90), .ref (G.2.2 + 5), .ref (G.2.2 + 1)] : List Value).toArray below meth c H locs 0 0 (MQ below (va_Qi post (s_B G) (s_A G.2.2)) ([.ref (G.2.2 + 90), .ref (G.2.2 + 5), .ref (G.2.2 + 1)] : List Value).toArray s 0 0 (s_A G.2.2)) (F0 m pc ls [.int r]) := fun _ _ _ _ _ _ hd hp S => ret_i C hr hlocks hd hp S
  have hl := lv_entry ([.ref (G.2.2 + 90), .ref (G.2.2 + 5), .ref (G.2.2 + 1)]) (n := 5) (Nat.le_of_ble_eq_true rfl)
  rw [lg_entry_eq]
  generalize (lg_sl ([.ref (G.2.2 + 90), .ref (G.2.2 + 5), .ref (G.2.2 + 1)]) ++ List.replicate (5 - (lg_sl ([.ref (G.2.2 + 90), .ref (G.2.2 + 5), .ref (G.2.2 + 1)])).length) Slot.unset).toArray = ls at hl ⊢
  have hl : lv_has ls 5 [(0, .ref (G.2.2 + 90)), (1, .ref (G.2.2 + 5)), (2, .ref (G.2.2 + 1))] := hl
  unfold wpX5_farthest at h
  refine lv_iconst (v := (0 : Int32)) C.1 C.2.1 dX5_farthest_0 (by decide) ?_
  refine lv_istore_n (lv' := [(3, .int (0 : Int32)), (0, .ref (G.2.2 + 90)), (1, .ref (G.2.2 + 5)), (2, .ref (G.2.2 + 1))]) C.1 C.2.1 dX5_farthest_1 rfl hl (by decide) rfl (fun ls hl => ?_)
  refine lv_iconst (v := (0 : Int32)) C.1 C.2.1 dX5_farthest_2 (by decide) ?_
  refine lv_istore (lv' := [(4, .int (0 : Int32)), (3, .int (0 : Int32)), (0, .ref (G.2.2 + 90)), (1, .ref (G.2.2 + 5)), (2, .ref (G.2.2 + 1))]) C.1 C.2.1 dX5_farthest_3 hl (by decide) rfl (fun ls hl => ?_)
  obtain ⟨nf, h⟩ := h
  exact TX5_farthest_5 C hml hcs hR nf ((0 : Int32)) ((0 : Int32)) S (lv_sub hl [2, 3, 4, 1, 0] rfl) h
end M0
