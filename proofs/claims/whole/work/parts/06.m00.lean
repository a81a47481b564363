section M0
variable {p : Program} {l : Launch} {e : Env} {R : Room} {s : State} {m : MethodId} {args : Array Value} {below : List Frame} {meth : Method} {c : Code} {H0 : Heap} {cells slots : Nat} {Q : State → Prop} {G : s_G}
/-! J6_bitCount_0f7a4 -/
abbrev rm_J6_bitCount_0f7a4 : Room := { frames := 0, cells := 0, slots := 0, locals := 0 }
def wpJ6_bitCount_0f7a4 (x0 : Int32) (σ : Sg) (post : Int32 → Sg → Prop) : Prop := post (((((((((x0 - ((((x0).toUInt32 >>> (((1 : Int32)).toUInt32 &&& Int32.toUInt32 31)).toInt32) &&& (1431655765 : Int32))) &&& (858993459 : Int32)) + (((((x0 - ((((x0).toUInt32 >>> (((1 : Int32)).toUInt32 &&& Int32.toUInt32 31)).toInt32) &&& (1431655765 : Int32)))).toUInt32 >>> (((2 : Int32)).toUInt32 &&& Int32.toUInt32 31)).toInt32) &&& (858993459 : Int32))) + ((((((x0 - ((((x0).toUInt32 >>> (((1 : Int32)).toUInt32 &&& Int32.toUInt32 31)).toInt32) &&& (1431655765 : Int32))) &&& (858993459 : Int32)) + (((((x0 - ((((x0).toUInt32 >>> (((1 : Int32)).toUInt32 &&& Int32.toUInt32 31)).toInt32) &&& (1431655765 : Int32)))).toUInt32 >>> (((2 : Int32)).toUInt32 &&& Int32.toUInt32 31)).toInt32) &&& (858993459 : Int32)))).toUInt32 >>> (((4 : Int32)).toUInt32 &&& Int32.toUInt32 31)).toInt32)) &&& (252645135 : Int32)) + ((((((((x0 - ((((x0).toUInt32 >>> (((1 : Int32)).toUInt32 &&& Int32.toUInt32 31)).toInt32) &&& (1431655765 : Int32))) &&& (858993459 : Int32)) + (((((x0 - ((((x0).toUInt32 >>> (((1 : Int32)).toUInt32 &&& Int32.toUInt32 31)).toInt32) &&& (1431655765 : Int32)))).toUInt32 >>> (((2 : Int32)).toUInt32 &&& Int32.toUInt32 31)).toInt32) &&& (858993459 : Int32))) + ((((((x0 - ((((x0).toUInt32 >>> (((1 : Int32)).toUInt32 &&& Int32.toUInt32 31)).toInt32) &&& (1431655765 : Int32))) &&& (858993459 : Int32)) + (((((x0 - ((((x0).toUInt32 >>> (((1 : Int32)).toUInt32 &&& Int32.toUInt32 31)).toInt32) &&& (1431655765 : Int32)))).toUInt32 >>> (((2 : Int32)).toUInt32 &&& Int32.toUInt32 31)).toInt32) &&& (858993459 : Int32)))).toUInt32 >>> (((4 : Int32)).toUInt32 &&& Int32.toUInt32 31)).toInt32)) &&& (252645135 : Int32))).toUInt32 >>> (((8 : Int32)).toUInt32 &&& Int32.toUInt32 31)).toInt32)) + (((((((((x0 - ((((x0).toUInt32 >>> (((1 : Int32)).toUInt32 &&& Int32.toUInt32 31)).toInt32) &&& (1431655765 : Int32))) &&& (858993459 : Int32)) + (((((x0 - ((((x0).toUInt32 >>> (((1 : Int32)).toUInt32 &&& Int32.toUInt32 31)).toInt32) &&& (1431655765 : Int32)))).toUInt32 >>> (((2 : Int32)).toUInt32 &&& Int32.toUInt32 31)).toInt32) &&& (858993459 : Int32))) + ((((((x0 - ((((x0).toUInt32 >>> (((1 : Int32)).toUInt32 &&& Int32.toUInt32 31)).toInt32) &&& (1431655765 : Int32))) &&& (858993459 : Int32)) + (((((x0 - ((((x0).toUInt32 >>> (((1 : Int32)).toUInt32 &&& Int32.toUInt32 31)).toInt32) &&& (1431655765 : Int32)))).toUInt32 >>> (((2 : Int32)).toUInt32 &&& Int32.toUInt32 31)).toInt32) &&& (858993459 : Int32)))).toUInt32 >>> (((4 : Int32)).toUInt32 &&& Int32.toUInt32 31)).toInt32)) &&& (252645135 : Int32)) + ((((((((x0 - ((((x0).toUInt32 >>> (((1 : Int32)).toUInt32 &&& Int32.toUInt32 31)).toInt32) &&& (1431655765 : Int32))) &&& (858993459 : Int32)) + (((((x0 - ((((x0).toUInt32 >>> (((1 : Int32)).toUInt32 &&& Int32.toUInt32 31)).toInt32) &&& (1431655765 : Int32)))).toUInt32 >>> (((2 : Int32)).toUInt32 &&& Int32.toUInt32 31)).toInt32) &&& (858993459 : Int32))) + ((((((x0 - ((((x0).toUInt32 >>> (((1 : Int32)).toUInt32 &&& Int32.toUInt32 31)).toInt32) &&& (1431655765 : Int32))) &&& (858993459 : Int32)) + (((((x0 - ((((x0).toUInt32 >>> (((1 : Int32)).toUInt32 &&& Int32.toUInt32 31)).toInt32) &&& (1431655765 : Int32)))).toUInt32 >>> (((2 : Int32)).toUInt32 &&& Int32.toUInt32 31)).toInt32) &&& (858993459 : Int32)))).toUInt32 >>> (((4 : Int32)).toUInt32 &&& Int32.toUInt32 31)).toInt32)) &&& (252645135 : Int32))).toUInt32 >>> (((8 : Int32)).toUInt32 &&& Int32.toUInt32 31)).toInt32))).toUInt32 >>> (((16 : Int32)).toUInt32 &&& Int32.toUInt32 31)).toInt32)) &&& (63 : Int32))) σ
theorem kM_J6_bitCount_0f7a4 : s_M yJ6_bitCount_0f7a4 cJ6_bitCount_0f7a4 1 (some .int) 1 := ⟨co_J6_bitCount_0f7a4, in_J6, by decide, by decide, by decide +kernel⟩
set_option maxHeartbeats 4000000 in
set_option maxRecDepth 100000 in
theorem c_J6_bitCount_0f7a4 (l : Launch) (G : s_G) (x0 : Int32) (σ : Sg) (post : Int32 → Sg → Prop) (h : wpJ6_bitCount_0f7a4 x0 σ post) : Met l yJ6_bitCount_0f7a4 (wsU yJ6_bitCount_0f7a4 cJ6_bitCount_0f7a4 1 (some .int)) rm_J6_bitCount_0f7a4 (va_Pc [.int x0] (s_Pre G σ)) (va_Qi post (s_B G) (s_A G.2.2)) 0 0 (s_A G.2.2) := by
  refine Met.ofW (cc := cJ6_bitCount_0f7a4) (maxL := 1) (ret := (some .int)) (by decide) rfl ?_
  intro p e s m args below meth c s₁ B hml hv
  obtain ⟨rfl, hP, hrok, hK, hN⟩ := hv
  have C : s_C G p s (([.int x0] : List Value).toArray) m c RJ6 cJ6_bitCount_0f7a4 := ⟨B.exec, B.bytes, findClass_of_methodNamed B.named, fun w hw => atoms_spec (ws := wsU yJ6_bitCount_0f7a4 cJ6_bitCount_0f7a4 1 (some .int)) B.pre w (List.mem_cons_of_mem _ hw), hK, hN⟩
  have hr := B.returns
  have hlocks := B.notSynchronized
  have S : s_St G σ s.heap s.heap [] := ⟨hP, va_S.rf, hrok⟩
  have hcs : 0 ≤ (rm_J6_bitCount_0f7a4).cells ∧ 0 ≤ (rm_J6_bitCount_0f7a4).slots := ⟨Nat.le_refl 0, Nat.le_refl 0⟩
  have hR : ∀ (r : Int32) (σ1 : Sg) (H : Heap) (locs : List Loc) (pc : Nat) (ls : Array Slot), decode cJ6_bitCount_0f7a4 pc = .ok (.ireturn, 1) → post r σ1 → s_St G σ1 s.heap H locs → W p l e rm_J6_bitCount_0f7a4 s m ([.int x0] : List Value).toArray below meth c H locs 0 0 (MQ below (va_Qi post (s_B G) (s_A G.2.2)) ([.int x0] : List Value).toArray s 0 0 (s_A G.2.2)) (F0 m pc ls [.int r]) := fun _ _ _ _ _ _ hd hp S => ret_i C hr hlocks hd hp S
  have hl := lv_entry ([.int x0]) (n := 1) (Nat.le_of_ble_eq_true rfl)
  rw [lg_entry_eq]
  generalize (lg_sl ([.int x0]) ++ List.replicate (1 - (lg_sl ([.int x0])).length) Slot.unset).toArray = ls at hl ⊢
  have hl : lv_has ls 1 [(0, .int x0)] := hl
  unfold wpJ6_bitCount_0f7a4 at h
  refine lv_iload_n C.1 C.2.1 dJ6_bitCount_0f7a4_0 rfl (lv_at hl 0 rfl) ?_
  refine lv_iload_n C.1 C.2.1 dJ6_bitCount_0f7a4_1 rfl (lv_at hl 0 rfl) ?_
  refine lv_iconst (v := (1 : Int32)) C.1 C.2.1 dJ6_bitCount_0f7a4_2 (by decide) ?_
  refine lv_iushr C.1 C.2.1 dJ6_bitCount_0f7a4_3 rfl ?_
  refine lv_ldcw (v := (1431655765 : Int32)) C.1 C.2.1 C.2.2.1 (C.2.2.2.1 _ ct_J6_265) dJ6_bitCount_0f7a4_4 ?_
  refine lv_iand C.1 C.2.1 dJ6_bitCount_0f7a4_7 ?_
  refine lv_isub C.1 C.2.1 dJ6_bitCount_0f7a4_8 ?_
  refine lv_istore_n (lv' := [(0, .int (x0 - ((((x0).toUInt32 >>> (((1 : Int32)).toUInt32 &&& Int32.toUInt32 31)).toInt32) &&& (1431655765 : Int32))))]) C.1 C.2.1 dJ6_bitCount_0f7a4_9 rfl hl (by decide) rfl (fun ls hl => ?_)
  refine lv_iload_n C.1 C.2.1 dJ6_bitCount_0f7a4_10 rfl (lv_at hl 0 rfl) ?_
  refine lv_ldcw (v := (858993459 : Int32)) C.1 C.2.1 C.2.2.1 (C.2.2.2.1 _ ct_J6_266) dJ6_bitCount_0f7a4_11 ?_
  refine lv_iand C.1 C.2.1 dJ6_bitCount_0f7a4_14 ?_
  refine lv_iload_n C.1 C.2.1 dJ6_bitCount_0f7a4_15 rfl (lv_at hl 0 rfl) ?_
  refine lv_iconst (v := (2 : Int32)) C.1 C.2.1 dJ6_bitCount_0f7a4_16 (by decide) ?_
  refine lv_iushr C.1 C.2.1 dJ6_bitCount_0f7a4_17 rfl ?_
  refine lv_ldcw (v := (858993459 : Int32)) C.1 C.2.1 C.2.2.1 (C.2.2.2.1 _ ct_J6_266) dJ6_bitCount_0f7a4_18 ?_
  refine lv_iand C.1 C.2.1 dJ6_bitCount_0f7a4_21 ?_
  refine lv_iadd C.1 C.2.1 dJ6_bitCount_0f7a4_22 ?_
  refine lv_istore_n (lv' := [(0, .int (((x0 - ((((x0).toUInt32 >>> (((1 : Int32)).toUInt32 &&& Int32.toUInt32 31)).toInt32) &&& (1431655765 : Int32))) &&& (858993459 : Int32)) + (((((x0 - ((((x0).toUInt32 >>> (((1 : Int32)).toUInt32 &&& Int32.toUInt32 31)).toInt32) &&& (1431655765 : Int32)))).toUInt32 >>> (((2 : Int32)).toUInt32 &&& Int32.toUInt32 31)).toInt32) &&& (858993459 : Int32))))]) C.1 C.2.1 dJ6_bitCount_0f7a4_23 rfl hl (by decide) rfl (fun ls hl => ?_)
  refine lv_iload_n C.1 C.2.1 dJ6_bitCount_0f7a4_24 rfl (lv_at hl 0 rfl) ?_
  refine lv_iload_n C.1 C.2.1 dJ6_bitCount_0f7a4_25 rfl (lv_at hl 0 rfl) ?_
  refine lv_iconst (v := (4 : Int32)) C.1 C.2.1 dJ6_bitCount_0f7a4_26 (by decide) ?_
  refine lv_iushr C.1 C.2.1 dJ6_bitCount_0f7a4_27 rfl ?_
  refine lv_iadd C.1 C.2.1 dJ6_bitCount_0f7a4_28 ?_
  refine lv_ldcw (v := (252645135 : Int32)) C.1 C.2.1 C.2.2.1 (C.2.2.2.1 _ ct_J6_267) dJ6_bitCount_0f7a4_29 ?_
  refine lv_iand C.1 C.2.1 dJ6_bitCount_0f7a4_32 ?_
  refine lv_istore_n (lv' := [(0, .int (((((x0 - ((((x0).toUInt32 >>> (((1 : Int32)).toUInt32 &&& Int32.toUInt32 31)).toInt32) &&& (1431655765 : Int32))) &&& (858993459 : Int32)) + (((((x0 - ((((x0).toUInt32 >>> (((1 : Int32)).toUInt32 &&& Int32.toUInt32 31)).toInt32) &&& (1431655765 : Int32)))).toUInt32 >>> (((2 : Int32)).toUInt32 &&& Int32.toUInt32 31)).toInt32) &&& (858993459 : Int32))) + ((((((x0 - ((((x0).toUInt32 >>> (((1 : Int32)).toUInt32 &&& Int32.toUInt32 31)).toInt32) &&& (1431655765 : Int32))) &&& (858993459 : Int32)) + (((((x0 - ((((x0).toUInt32 >>> (((1 : Int32)).toUInt32 &&& Int32.toUInt32 31)).toInt32) &&& (1431655765 : Int32)))).toUInt32 >>> (((2 : Int32)).toUInt32 &&& Int32.toUInt32 31)).toInt32) &&& (858993459 : Int32)))).toUInt32 >>> (((4 : Int32)).toUInt32 &&& Int32.toUInt32 31)).toInt32)) &&& (252645135 : Int32)))]) C.1 C.2.1 dJ6_bitCount_0f7a4_33 rfl hl (by decide) rfl (fun ls hl => ?_)
  refine lv_iload_n C.1 C.2.1 dJ6_bitCount_0f7a4_34 rfl (lv_at hl 0 rfl) ?_
  refine lv_iload_n C.1 C.2.1 dJ6_bitCount_0f7a4_35 rfl (lv_at hl 0 rfl) ?_
  refine lv_bipush (v := (8 : Int32)) C.1 C.2.1 dJ6_bitCount_0f7a4_36 (by decide) ?_
  refine lv_iushr C.1 C.2.1 dJ6_bitCount_0f7a4_38 rfl ?_
  refine lv_iadd C.1 C.2.1 dJ6_bitCount_0f7a4_39 ?_
  refine lv_istore_n (lv' := [(0, .int ((((((x0 - ((((x0).toUInt32 >>> (((1 : Int32)).toUInt32 &&& Int32.toUInt32 31)).toInt32) &&& (1431655765 : Int32))) &&& (858993459 : Int32)) + (((((x0 - ((((x0).toUInt32 >>> (((1 : Int32)).toUInt32 &&& Int32.toUInt32 31)).toInt32) &&& (1431655765 : Int32)))).toUInt32 >>> (((2 : Int32)).toUInt32 &&& Int32.toUInt32 31)).toInt32) &&& (858993459 : Int32))) + ((((((x0 - ((((x0).toUInt32 >>> (((1 : Int32)).toUInt32 &&& Int32.toUInt32 31)).toInt32) &&& (1431655765 : Int32))) &&& (858993459 : Int32)) + (((((x0 - ((((x0).toUInt32 >>> (((1 : Int32)).toUInt32 &&& Int32.toUInt32 31)).toInt32) &&& (1431655765 : Int32)))).toUInt32 >>> (((2 : Int32)).toUInt32 &&& Int32.toUInt32 31)).toInt32) &&& (858993459 : Int32)))).toUInt32 >>> (((4 : Int32)).toUInt32 &&& Int32.toUInt32 31)).toInt32)) &&& (252645135 : Int32)) + ((((((((x0 - ((((x0).toUInt32 >>> (((1 : Int32)).toUInt32 &&& Int32.toUInt32 31)).toInt32) &&& (1431655765 : Int32))) &&& (858993459 : Int32)) + (((((x0 - ((((x0).toUInt32 >>> (((1 : Int32)).toUInt32 &&& Int32.toUInt32 31)).toInt32) &&& (1431655765 : Int32)))).toUInt32 >>> (((2 : Int32)).toUInt32 &&& Int32.toUInt32 31)).toInt32) &&& (858993459 : Int32))) + ((((((x0 - ((((x0).toUInt32 >>> (((1 : Int32)).toUInt32 &&& Int32.toUInt32 31)).toInt32) &&& (1431655765 : Int32))) &&& (858993459 : Int32)) + (((((x0 - ((((x0).toUInt32 >>> (((1 : Int32)).toUInt32 &&& Int32.toUInt32 31)).toInt32) &&& (1431655765 : Int32)))).toUInt32 >>> (((2 : Int32)).toUInt32 &&& Int32.toUInt32 31)).toInt32) &&& (858993459 : Int32)))).toUInt32 >>> (((4 : Int32)).toUInt32 &&& Int32.toUInt32 31)).toInt32)) &&& (252645135 : Int32))).toUInt32 >>> (((8 : Int32)).toUInt32 &&& Int32.toUInt32 31)).toInt32)))]) C.1 C.2.1 dJ6_bitCount_0f7a4_40 rfl hl (by decide) rfl (fun ls hl => ?_)
  refine lv_iload_n C.1 C.2.1 dJ6_bitCount_0f7a4_41 rfl (lv_at hl 0 rfl) ?_
  refine lv_iload_n C.1 C.2.1 dJ6_bitCount_0f7a4_42 rfl (lv_at hl 0 rfl) ?_
  refine lv_bipush (v := (16 : Int32)) C.1 C.2.1 dJ6_bitCount_0f7a4_43 (by decide) ?_
  refine lv_iushr C.1 C.2.1 dJ6_bitCount_0f7a4_45 rfl ?_
  refine lv_iadd C.1 C.2.1 dJ6_bitCount_0f7a4_46 ?_
  refine lv_istore_n (lv' := [(0, .int (((((((x0 - ((((x0).toUInt32 >>> (((1 : Int32)).toUInt32 &&& Int32.toUInt32 31)).toInt32) &&& (1431655765 : Int32))) &&& (858993459 : Int32)) + (((((x0 - ((((x0).toUInt32 >>> (((1 : Int32)).toUInt32 &&& Int32.toUInt32 31)).toInt32) &&& (1431655765 : Int32)))).toUInt32 >>> (((2 : Int32)).toUInt32 &&& Int32.toUInt32 31)).toInt32) &&& (858993459 : Int32))) + ((((((x0 - ((((x0).toUInt32 >>> (((1 : Int32)).toUInt32 &&& Int32.toUInt32 31)).toInt32) &&& (1431655765 : Int32))) &&& (858993459 : Int32)) + (((((x0 - ((((x0).toUInt32 >>> (((1 : Int32)).toUInt32 &&& Int32.toUInt32 31)).toInt32) &&& (1431655765 : Int32)))).toUInt32 >>> (((2 : Int32)).toUInt32 &&& Int32.toUInt32 31)).toInt32) &&& (858993459 : Int32)))).toUInt32 >>> (((4 : Int32)).toUInt32 &&& Int32.toUInt32 31)).toInt32)) &&& (252645135 : Int32)) + ((((((((x0 - ((((x0).toUInt32 >>> (((1 : Int32)).toUInt32 &&& Int32.toUInt32 31)).toInt32) &&& (1431655765 : Int32))) &&& (858993459 : Int32)) + (((((x0 - ((((x0).toUInt32 >>> (((1 : Int32)).toUInt32 &&& Int32.toUInt32 31)).toInt32) &&& (1431655765 : Int32)))).toUInt32 >>> (((2 : Int32)).toUInt32 &&& Int32.toUInt32 31)).toInt32) &&& (858993459 : Int32))) + ((((((x0 - ((((x0).toUInt32 >>> (((1 : Int32)).toUInt32 &&& Int32.toUInt32 31)).toInt32) &&& (1431655765 : Int32))) &&& (858993459 : Int32)) + (((((x0 - ((((x0).toUInt32 >>> (((1 : Int32)).toUInt32 &&& Int32.toUInt32 31)).toInt32) &&& (1431655765 : Int32)))).toUInt32 >>> (((2 : Int32)).toUInt32 &&& Int32.toUInt32 31)).toInt32) &&& (858993459 : Int32)))).toUInt32 >>> (((4 : Int32)).toUInt32 &&& Int32.toUInt32 31)).toInt32)) &&& (252645135 : Int32))).toUInt32 >>> (((8 : Int32)).toUInt32 &&& Int32.toUInt32 31)).toInt32)) + (((((((((x0 - ((((x0).toUInt32 >>> (((1 : Int32)).toUInt32 &&& Int32.toUInt32 31)).toInt32) &&& (1431655765 : Int32))) &&& (858993459 : Int32)) + (((((x0 - ((((x0).toUInt32 >>> (((1 : Int32)).toUInt32 &&& Int32.toUInt32 31)).toInt32) &&& (1431655765 : Int32)))).toUInt32 >>> (((2 : Int32)).toUInt32 &&& Int32.toUInt32 31)).toInt32) &&& (858993459 : Int32))) + ((((((x0 - ((((x0).toUInt32 >>> (((1 : Int32)).toUInt32 &&& Int32.toUInt32 31)).toInt32) &&& (1431655765 : Int32))) &&& (858993459 : Int32)) + (((((x0 - ((((x0).toUInt32 >>> (((1 : Int32)).toUInt32 &&& Int32.toUInt32 31)).toInt32) &&& (1431655765 : Int32)))).toUInt32 >>> (((2 : Int32)).toUInt32 &&& Int32.toUInt32 31)).toInt32) &&& (858993459 : Int32)))).toUInt32 >>> (((4 : Int32)).toUInt32 &&& Int32.toUInt32 31)).toInt32)) &&& (252645135 : Int32)) + ((((((((x0 - ((((x0).toUInt32 >>> (((1 : Int32)).toUInt32 &&& Int32.toUInt32 31)).toInt32) &&& (1431655765 : Int32))) &&& (858993459 : Int32)) + (((((x0 - ((((x0).toUInt32 >>> (((1 : Int32)).toUInt32 &&& Int32.toUInt32 31)).toInt32) &&& (1431655765 : Int32)))).toUInt32 >>> (((2 : Int32)).toUInt32 &&& Int32.toUInt32 31)).toInt32) &&& (858993459 : Int32))) + ((((((x0 - ((((x0).toUInt32 >>> (((1 : Int32)).toUInt32 &&& Int32.toUInt32 31)).toInt32) &&& (1431655765 : Int32))) &&& (858993459 : Int32)) + (((((x0 - ((((x0).toUInt32 >>> (((1 : Int32)).toUInt32 &&& Int32.toUInt32 31)).toInt32) &&& (1431655765 : Int32)))).toUInt32 >>> (((2 : Int32)).toUInt32 &&& Int32.toUInt32 31)).toInt32) &&& (858993459 : Int32)))).toUInt32 >>> (((4 : Int32)).toUInt32 &&& Int32.toUInt32 31)).toInt32)) &&& (252645135 : Int32))).toUInt32 >>> (((8 : Int32)).toUInt32 &&& Int32.toUInt32 31)).toInt32))).toUInt32 >>> (((16 : Int32)).toUInt32 &&& Int32.toUInt32 31)).toInt32)))]) C.1 C.2.1 dJ6_bitCount_0f7a4_47 rfl hl (by decide) rfl (fun ls hl => ?_)
  refine lv_iload_n C.1 C.2.1 dJ6_bitCount_0f7a4_48 rfl (lv_at hl 0 rfl) ?_
  refine lv_bipush (v := (63 : Int32)) C.1 C.2.1 dJ6_bitCount_0f7a4_49 (by decide) ?_
  refine lv_iand C.1 C.2.1 dJ6_bitCount_0f7a4_51 ?_
  exact hR _ _ _ _ _ _ dJ6_bitCount_0f7a4_52 h S
/-! X0_append -/
abbrev rm_X0_append : Room := { frames := 0, cells := 0, slots := 0, locals := 0 }
def wpX0_append (k0 : Nat) (x1 : Int32) (σ : Sg) (post : Int32 → Sg → Prop) : Prop := ((((σ.1 k0 1) < 0) → post (0 : Int32) σ) ∧ ((¬ (σ.1 k0 1) < 0) → ((((σ.1 k0 1) < (60 : Int32)) → (vp_in ((σ.1 k0 1)) 60 ∧ (∀ σ3 : Sg, σ3 = setI σ (s_fin k0 0) ((σ.1 k0 1)).toNatClampNeg x1 → (∀ σ5 : Sg, σ5 = setI σ3 k0 1 (((σ3.1 k0 1) + (1 : Int32))) → post (1 : Int32) σ5)))) ∧ ((¬ (σ.1 k0 1) < (60 : Int32)) → post (0 : Int32) σ))))
theorem kM_X0_append : s_M yX0_append cX0_append 2 (some .boolean) 1 := ⟨co_X0_append, in_X0, by decide, by decide, by decide +kernel⟩
set_option maxHeartbeats 4000000 in
set_option maxRecDepth 100000 in
theorem c_X0_append (l : Launch) (G : s_G) (k0 : Nat) (x1 : Int32) (σ : Sg) (post : Int32 → Sg → Prop) (hk0 : s_kd k0 = 0) (h : wpX0_append k0 x1 σ post) : Met l yX0_append (wsU yX0_append cX0_append 2 (some .boolean)) rm_X0_append (va_Pc [.ref (G.2.2 + k0), .int x1] (s_Pre G σ)) (va_Qi post (s_B G) (s_A G.2.2)) 0 0 (s_A G.2.2) := by
  refine Met.ofW (cc := cX0_append) (maxL := 2) (ret := (some .boolean)) (by decide) rfl ?_
  intro p e s m args below meth c s₁ B hml hv
  obtain ⟨rfl, hP, hrok, hK, hN⟩ := hv
  have C : s_C G p s (([.ref (G.2.2 + k0), .int x1] : List Value).toArray) m c RX0 cX0_append := ⟨B.exec, B.bytes, findClass_of_methodNamed B.named, fun w hw => atoms_spec (ws := wsU yX0_append cX0_append 2 (some .boolean)) B.pre w (List.mem_cons_of_mem _ hw), hK, hN⟩
  have hr := B.returns
  have hlocks := B.notSynchronized
  have S : s_St G σ s.heap s.heap [] := ⟨hP, va_S.rf, hrok⟩
  have hcs : 0 ≤ (rm_X0_append).cells ∧ 0 ≤ (rm_X0_append).slots := ⟨Nat.le_refl 0, Nat.le_refl 0⟩
  have hR : ∀ (r : Int32) (σ1 : Sg) (H : Heap) (locs : List Loc) (pc : Nat) (ls : Array Slot), decode cX0_append pc = .ok (.ireturn, 1) → narrow .boolean (.int r) = .int r → post r σ1 → s_St G σ1 s.heap H locs → W p l e rm_X0_append s m ([.ref (G.2.2 + k0), .int x1] : List Value).toArray below meth c H locs 0 0 (MQ below (va_Qi post (s_B G) (s_A G.2.2)) ([.ref (G.2.2 + k0), .int x1] : List Value).toArray s 0 0 (s_A G.2.2)) (F0 m pc ls [.int r]) := fun _ _ _ _ _ _ hd hn hp S => ret_z C hr hlocks hd hn hp S
  have hl := lv_entry ([.ref (G.2.2 + k0), .int x1]) (n := 2) (Nat.le_of_ble_eq_true rfl)
  rw [lg_entry_eq]
  generalize (lg_sl ([.ref (G.2.2 + k0), .int x1]) ++ List.replicate (2 - (lg_sl ([.ref (G.2.2 + k0), .int x1])).length) Slot.unset).toArray = ls at hl ⊢
  have hl : lv_has ls 2 [(0, .ref (G.2.2 + k0)), (1, .int x1)] := hl
  unfold wpX0_append at h
  refine lv_aload_n C.1 C.2.1 dX0_append_0 rfl (lv_at hl 0 rfl) ?_
  refine g_X0_1 C fl_X0_15 hk0 S dX0_append_1 ?_
  refine lv_if_lt (tgt := 19) C.1 C.2.1 dX0_append_4 (by decide) (fun c1 => ?_) (fun c1 => ?_)
  · replace h := h.1 c1
    refine lv_iconst (v := (0 : Int32)) C.1 C.2.1 dX0_append_19 (by decide) ?_
    exact hR _ _ _ _ _ _ dX0_append_20 rfl h S
  · replace h := h.2 c1
    refine lv_aload_n C.1 C.2.1 dX0_append_7 rfl (lv_at hl 0 rfl) ?_
    refine g_X0_1 C fl_X0_15 hk0 S dX0_append_8 ?_
    refine lv_aload_n C.1 C.2.1 dX0_append_11 rfl (lv_at hl 0 rfl) ?_
    refine g_X0_0 C fl_X0_9 hk0 S rfl dX0_append_12 ?_
    refine a_len8 C ((kdf_X0_0 hk0)) S (v := (60 : Int32)) (by rw [(lnf_X0_0 hk0)]; rfl) dX0_append_15 ?_
    refine lv_icmp_lt (tgt := 21) C.1 C.2.1 dX0_append_16 (by decide) (fun c2 => ?_) (fun c2 => ?_)
    · replace h := h.1 c2
      refine lv_aload_n C.1 C.2.1 dX0_append_21 rfl (lv_at hl 0 rfl) ?_
      refine g_X0_0 C fl_X0_9 hk0 S rfl dX0_append_22 ?_
      refine lv_aload_n C.1 C.2.1 dX0_append_25 rfl (lv_at hl 0 rfl) ?_
      refine g_X0_1 C fl_X0_15 hk0 S dX0_append_26 ?_
      refine lv_iload_n C.1 C.2.1 dX0_append_29 rfl (lv_at hl 1 rfl) ?_
      refine a_ist C ((kdf_X0_0 hk0)) S (lnf_X0_0 hk0) h.1 dX0_append_30 (fun σ3 H locs e4 S => ?_)
      replace h := h.2 σ3 e4
      refine lv_aload_n C.1 C.2.1 dX0_append_31 rfl (lv_at hl 0 rfl) ?_
      refine lv_dup C.1 C.2.1 dX0_append_32 rfl ?_
      refine g_X0_1 C fl_X0_15 hk0 S dX0_append_33 ?_
      refine lv_iconst (v := (1 : Int32)) C.1 C.2.1 dX0_append_36 (by decide) ?_
      refine lv_iadd C.1 C.2.1 dX0_append_37 ?_
      refine p_X0_1 C fl_X0_15 hk0 S dX0_append_38 (fun σ5 H locs e6 S => ?_)
      replace h := h σ5 e6
      refine lv_iconst (v := (1 : Int32)) C.1 C.2.1 dX0_append_41 (by decide) ?_
      exact hR _ _ _ _ _ _ dX0_append_42 rfl h S
    · replace h := h.2 c2
      refine lv_iconst (v := (0 : Int32)) C.1 C.2.1 dX0_append_19 (by decide) ?_
      exact hR _ _ _ _ _ _ dX0_append_20 rfl h S
/-! X0_appendNumber -/
abbrev rm_X0_appendNumber : Room := { frames := 1, cells := 0, slots := 0, locals := 21 }
def BX0_appendNumber_39 (k0 : Nat) (x1 : Int32) (post : Sg → Prop)  (σ : Sg) : Prop := wpX0_append k0 (((48 : Int32) + (x1 - x1 / (10 : Int32) * (10 : Int32)))) σ (fun r2 σ1 => post σ1)
def BX0_appendNumber_18 (k0 : Nat) (x1 : Int32) (post : Sg → Prop)  (σ : Sg) : Prop := (((x1 < (10 : Int32)) → BX0_appendNumber_39 k0 x1 post σ) ∧ ((¬ x1 < (10 : Int32)) → wpX0_append k0 (((48 : Int32) + ((x1 / (10 : Int32)) - (x1 / (10 : Int32)) / (10 : Int32) * (10 : Int32)))) σ (fun r5 σ4 => BX0_appendNumber_39 k0 x1 post σ4)))
def wpX0_appendNumber (k0 : Nat) (x1 : Int32) (σ : Sg) (post : Sg → Prop) : Prop := (((x1 < (100 : Int32)) → BX0_appendNumber_18 k0 x1 post σ) ∧ ((¬ x1 < (100 : Int32)) → wpX0_append k0 (((48 : Int32) + (x1 / (100 : Int32)))) σ (fun r8 σ7 => BX0_appendNumber_18 k0 x1 post σ7)))
set_option maxHeartbeats 4000000 in
set_option maxRecDepth 100000 in
theorem TX0_appendNumber_39 (C : s_C G p s args m c RX0 cX0_appendNumber) (hml : c.maxLocals = 2) (hcs : cells ≤ (rm_X0_appendNumber).cells ∧ slots ≤ (rm_X0_appendNumber).slots) {k0 : Nat} {x1 : Int32} (hk0 : s_kd k0 = 0) {post : Sg → Prop} (hR : ∀ (σ1 : Sg) (H : Heap) (locs : List Loc) (pc : Nat) (ls : Array Slot), decode cX0_appendNumber pc = .ok (.return_, 1) → post σ1 → s_St G σ1 H0 H locs → W p l e rm_X0_appendNumber s m args below meth c H locs cells slots Q (F0 m pc ls [])) : ∀ {σ : Sg} {H : Heap} {locs : List Loc} {ls : Array Slot}, s_St G σ H0 H locs → lv_has ls 2 [(0, .ref (G.2.2 + k0)), (1, .int x1)] → BX0_appendNumber_39 k0 x1 post σ → W p l e rm_X0_appendNumber s m args below meth c H locs cells slots Q (F0 m 39 ls []) := by
  intro   σ H locs ls S hl h
  unfold BX0_appendNumber_39 at h
  refine lv_aload_n C.1 C.2.1 dX0_appendNumber_39 rfl (lv_at hl 0 rfl) ?_
  refine lv_bipush (v := (48 : Int32)) C.1 C.2.1 dX0_appendNumber_40 (by decide) ?_
  refine lv_iload_n C.1 C.2.1 dX0_appendNumber_42 rfl (lv_at hl 1 rfl) ?_
  refine lv_bipush (v := (10 : Int32)) C.1 C.2.1 dX0_appendNumber_43 (by decide) ?_
  refine lv_irem C.1 C.2.1 dX0_appendNumber_45 (by decide) ?_
  refine lv_iadd C.1 C.2.1 dX0_appendNumber_46 ?_
  refine k_i (r_V (As := [.int ((48 : Int32) + (x1 - x1 / (10 : Int32) * (10 : Int32)))]) (rest := []) C hml (c_X0_append l G k0 (((48 : Int32) + (x1 - x1 / (10 : Int32) * (10 : Int32)))) σ _ hk0 h) kM_X0_append im_X0_append se_X0_append ml_X0_52 ⟨rfl, rfl⟩ ⟨Nat.le_of_ble_eq_true rfl, Nat.le_of_ble_eq_true rfl⟩ hcs S hk0 (by decide) (T := TX0) (N := 2) rfl rfl hl.1 rfl (Nat.le_of_ble_eq_true rfl) dX0_appendNumber_47) S (fun r2 σ1 H locs h S => ?_)
  refine lv_pop C.1 C.2.1 dX0_appendNumber_50 rfl ?_
  exact hR _ _ _ _ _ dX0_appendNumber_51 h S
set_option maxHeartbeats 4000000 in
set_option maxRecDepth 100000 in
theorem TX0_appendNumber_18 (C : s_C G p s args m c RX0 cX0_appendNumber) (hml : c.maxLocals = 2) (hcs : cells ≤ (rm_X0_appendNumber).cells ∧ slots ≤ (rm_X0_appendNumber).slots) {k0 : Nat} {x1 : Int32} (hk0 : s_kd k0 = 0) {post : Sg → Prop} (hR : ∀ (σ1 : Sg) (H : Heap) (locs : List Loc) (pc : Nat) (ls : Array Slot), decode cX0_appendNumber pc = .ok (.return_, 1) → post σ1 → s_St G σ1 H0 H locs → W p l e rm_X0_appendNumber s m args below meth c H locs cells slots Q (F0 m pc ls [])) : ∀ {σ : Sg} {H : Heap} {locs : List Loc} {ls : Array Slot}, s_St G σ H0 H locs → lv_has ls 2 [(0, .ref (G.2.2 + k0)), (1, .int x1)] → BX0_appendNumber_18 k0 x1 post σ → W p l e rm_X0_appendNumber s m args below meth c H locs cells slots Q (F0 m 18 ls []) := by
  intro   σ H locs ls S hl h
  unfold BX0_appendNumber_18 at h
  refine lv_iload_n C.1 C.2.1 dX0_appendNumber_18 rfl (lv_at hl 1 rfl) ?_
  refine lv_bipush (v := (10 : Int32)) C.1 C.2.1 dX0_appendNumber_19 (by decide) ?_
  refine lv_icmp_lt (tgt := 39) C.1 C.2.1 dX0_appendNumber_21 (by decide) (fun c3 => ?_) (fun c3 => ?_)
  · replace h := h.1 c3
    exact TX0_appendNumber_39 C hml hcs hk0 hR S (lv_sub hl [0, 1] rfl) h
  · replace h := h.2 c3
    refine lv_aload_n C.1 C.2.1 dX0_appendNumber_24 rfl (lv_at hl 0 rfl) ?_
    refine lv_bipush (v := (48 : Int32)) C.1 C.2.1 dX0_appendNumber_25 (by decide) ?_
    refine lv_iload_n C.1 C.2.1 dX0_appendNumber_27 rfl (lv_at hl 1 rfl) ?_
    refine lv_bipush (v := (10 : Int32)) C.1 C.2.1 dX0_appendNumber_28 (by decide) ?_
    refine lv_idiv C.1 C.2.1 dX0_appendNumber_30 (by decide) ?_
    refine lv_bipush (v := (10 : Int32)) C.1 C.2.1 dX0_appendNumber_31 (by decide) ?_
    refine lv_irem C.1 C.2.1 dX0_appendNumber_33 (by decide) ?_
    refine lv_iadd C.1 C.2.1 dX0_appendNumber_34 ?_
    refine k_i (r_V (As := [.int ((48 : Int32) + ((x1 / (10 : Int32)) - (x1 / (10 : Int32)) / (10 : Int32) * (10 : Int32)))]) (rest := []) C hml (c_X0_append l G k0 (((48 : Int32) + ((x1 / (10 : Int32)) - (x1 / (10 : Int32)) / (10 : Int32) * (10 : Int32)))) σ _ hk0 h) kM_X0_append im_X0_append se_X0_append ml_X0_52 ⟨rfl, rfl⟩ ⟨Nat.le_of_ble_eq_true rfl, Nat.le_of_ble_eq_true rfl⟩ hcs S hk0 (by decide) (T := TX0) (N := 2) rfl rfl hl.1 rfl (Nat.le_of_ble_eq_true rfl) dX0_appendNumber_35) S (fun r5 σ4 H locs h S => ?_)
    refine lv_pop C.1 C.2.1 dX0_appendNumber_38 rfl ?_
    exact TX0_appendNumber_39 C hml hcs hk0 hR S (lv_sub hl [0, 1] rfl) h
theorem kM_X0_appendNumber : s_M yX0_appendNumber cX0_appendNumber 2 none 1 := ⟨co_X0_appendNumber, in_X0, by decide, by decide, by decide +kernel⟩
set_option maxHeartbeats 4000000 in
set_option maxRecDepth 100000 in
theorem c_X0_appendNumber (l : Launch) (G : s_G) (k0 : Nat) (x1 : Int32) (σ : Sg) (post : Sg → Prop) (hk0 : s_kd k0 = 0) (h : wpX0_appendNumber k0 x1 σ post) : Met l yX0_appendNumber (wsU yX0_appendNumber cX0_appendNumber 2 none) rm_X0_appendNumber (va_Pc [.ref (G.2.2 + k0), .int x1] (s_Pre G σ)) (va_Qv post (s_B G) (s_A G.2.2)) 0 0 (s_A G.2.2) := by
  refine Met.ofW (cc := cX0_appendNumber) (maxL := 2) (ret := none) (by decide) rfl ?_
  intro p e s m args below meth c s₁ B hml hv
  obtain ⟨rfl, hP, hrok, hK, hN⟩ := hv
  have C : s_C G p s (([.ref (G.2.2 + k0), .int x1] : List Value).toArray) m c RX0 cX0_appendNumber := ⟨B.exec, B.bytes, findClass_of_methodNamed B.named, fun w hw => atoms_spec (ws := wsU yX0_appendNumber cX0_appendNumber 2 none) B.pre w (List.mem_cons_of_mem _ hw), hK, hN⟩
  have hr := B.returns
  have hlocks := B.notSynchronized
  have S : s_St G σ s.heap s.heap [] := ⟨hP, va_S.rf, hrok⟩
  have hcs : 0 ≤ (rm_X0_appendNumber).cells ∧ 0 ≤ (rm_X0_appendNumber).slots := ⟨Nat.le_refl 0, Nat.le_refl 0⟩
  have hR : ∀ (σ1 : Sg) (H : Heap) (locs : List Loc) (pc : Nat) (ls : Array Slot), decode cX0_appendNumber pc = .ok (.return_, 1) → post σ1 → s_St G σ1 s.heap H locs → W p l e rm_X0_appendNumber s m ([.ref (G.2.2 + k0), .int x1] : List Value).toArray below meth c H locs 0 0 (MQ below (va_Qv post (s_B G) (s_A G.2.2)) ([.ref (G.2.2 + k0), .int x1] : List Value).toArray s 0 0 (s_A G.2.2)) (F0 m pc ls []) := fun _ _ _ _ _ hd hp S => ret_v C hr hlocks hd hp S
  have hl := lv_entry ([.ref (G.2.2 + k0), .int x1]) (n := 2) (Nat.le_of_ble_eq_true rfl)
  rw [lg_entry_eq]
  generalize (lg_sl ([.ref (G.2.2 + k0), .int x1]) ++ List.replicate (2 - (lg_sl ([.ref (G.2.2 + k0), .int x1])).length) Slot.unset).toArray = ls at hl ⊢
  have hl : lv_has ls 2 [(0, .ref (G.2.2 + k0)), (1, .int x1)] := hl
  unfold wpX0_appendNumber at h
  refine lv_iload_n C.1 C.2.1 dX0_appendNumber_0 rfl (lv_at hl 1 rfl) ?_
  refine lv_bipush (v := (100 : Int32)) C.1 C.2.1 dX0_appendNumber_1 (by decide) ?_
  refine lv_icmp_lt (tgt := 18) C.1 C.2.1 dX0_appendNumber_3 (by decide) (fun c6 => ?_) (fun c6 => ?_)
  · replace h := h.1 c6
    exact TX0_appendNumber_18 C hml hcs hk0 hR S (lv_sub hl [0, 1] rfl) h
  · replace h := h.2 c6
    refine lv_aload_n C.1 C.2.1 dX0_appendNumber_6 rfl (lv_at hl 0 rfl) ?_
    refine lv_bipush (v := (48 : Int32)) C.1 C.2.1 dX0_appendNumber_7 (by decide) ?_
    refine lv_iload_n C.1 C.2.1 dX0_appendNumber_9 rfl (lv_at hl 1 rfl) ?_
    refine lv_bipush (v := (100 : Int32)) C.1 C.2.1 dX0_appendNumber_10 (by decide) ?_
    refine lv_idiv C.1 C.2.1 dX0_appendNumber_12 (by decide) ?_
    refine lv_iadd C.1 C.2.1 dX0_appendNumber_13 ?_
    refine k_i (r_V (As := [.int ((48 : Int32) + (x1 / (100 : Int32)))]) (rest := []) C hml (c_X0_append l G k0 (((48 : Int32) + (x1 / (100 : Int32)))) σ _ hk0 h) kM_X0_append im_X0_append se_X0_append ml_X0_52 ⟨rfl, rfl⟩ ⟨Nat.le_of_ble_eq_true rfl, Nat.le_of_ble_eq_true rfl⟩ hcs S hk0 (by decide) (T := TX0) (N := 2) rfl rfl hl.1 rfl (Nat.le_of_ble_eq_true rfl) dX0_appendNumber_14) S (fun r8 σ7 H locs h S => ?_)
    refine lv_pop C.1 C.2.1 dX0_appendNumber_17 rfl ?_
    exact TX0_appendNumber_18 C hml hcs hk0 hR S (lv_sub hl [0, 1] rfl) h
/-! X3_letter -/
abbrev rm_X3_letter : Room := { frames := 0, cells := 0, slots := 0, locals := 0 }
def BX3_letter_25 (k0 : Nat) (x1 : Int32) (post : Int32 → Sg → Prop)  (σ : Sg) : Prop := (((¬ (0 : Int32) = 0) → post ((0 : Int32)) σ) ∧ (((0 : Int32) = 0) → post ((-9 : Int32)) σ))
def wpX3_letter (k0 : Nat) (x1 : Int32) (σ : Sg) (post : Int32 → Sg → Prop) : Prop := (((x1 < 0) → BX3_letter_25 k0 x1 post σ) ∧ ((¬ x1 < 0) → ((((3 : Int32) ≤ x1) → BX3_letter_25 k0 x1 post σ) ∧ ((¬ (3 : Int32) ≤ x1) → (((¬ (((σ.1 k0 0) >>> (((8 : Int32) * x1) &&& 31)) &&& (255 : Int32)) = 0) → post ((((σ.1 k0 0) >>> (((8 : Int32) * x1) &&& 31)) &&& (255 : Int32))) σ) ∧ (((((σ.1 k0 0) >>> (((8 : Int32) * x1) &&& 31)) &&& (255 : Int32)) = 0) → post ((-9 : Int32)) σ))))))
set_option maxHeartbeats 4000000 in
set_option maxRecDepth 100000 in
theorem TX3_letter_25 (C : s_C G p s args m c RX3 cX3_letter) (hml : c.maxLocals = 3) (hcs : cells ≤ (rm_X3_letter).cells ∧ slots ≤ (rm_X3_letter).slots) {k0 : Nat} {x1 : Int32} (hk0 : s_kd k0 = 3) {post : Int32 → Sg → Prop} (hR : ∀ (r : Int32) (σ1 : Sg) (H : Heap) (locs : List Loc) (pc : Nat) (ls : Array Slot), decode cX3_letter pc = .ok (.ireturn, 1) → post r σ1 → s_St G σ1 H0 H locs → W p l e rm_X3_letter s m args below meth c H locs cells slots Q (F0 m pc ls [.int r])) : ∀ {σ : Sg} {H : Heap} {locs : List Loc} {ls : Array Slot}, s_St G σ H0 H locs → lv_has ls 3 [] → BX3_letter_25 k0 x1 post σ → W p l e rm_X3_letter s m args below meth c H locs cells slots Q (F0 m 25 ls []) := by
  intro   σ H locs ls S hl h
  unfold BX3_letter_25 at h
  refine lv_iconst (v := (0 : Int32)) C.1 C.2.1 dX3_letter_25 (by decide) ?_
  refine lv_istore_n (lv' := [(2, .int (0 : Int32))]) C.1 C.2.1 dX3_letter_26 rfl hl (by decide) rfl (fun ls hl => ?_)
  refine lv_iload_n C.1 C.2.1 dX3_letter_27 rfl (lv_at hl 0 rfl) ?_
  refine lv_if_ne (tgt := 36) C.1 C.2.1 dX3_letter_28 (by decide) (fun c1 => ?_) (fun c1 => ?_)
  · replace h := h.1 c1
    refine lv_iload_n C.1 C.2.1 dX3_letter_36 rfl (lv_at hl 0 rfl) ?_
    exact hR _ _ _ _ _ _ dX3_letter_37 h S
  · replace h := h.2 c1
    refine lv_bipush (v := (-9 : Int32)) C.1 C.2.1 dX3_letter_31 (by decide) ?_
    refine lv_goto (tgt := 37) C.1 C.2.1 dX3_letter_33 (by decide) ?_
    exact hR _ _ _ _ _ _ dX3_letter_37 h S
theorem kM_X3_letter : s_M yX3_letter cX3_letter 3 (some .int) 1 := ⟨co_X3_letter, in_X3, by decide, by decide, by decide +kernel⟩
set_option maxHeartbeats 4000000 in
set_option maxRecDepth 100000 in
theorem c_X3_letter (l : Launch) (G : s_G) (k0 : Nat) (x1 : Int32) (σ : Sg) (post : Int32 → Sg → Prop) (hk0 : s_kd k0 = 3) (h : wpX3_letter k0 x1 σ post) : Met l yX3_letter (wsU yX3_letter cX3_letter 3 (some .int)) rm_X3_letter (va_Pc [.ref (G.2.2 + k0), .int x1] (s_Pre G σ)) (va_Qi post (s_B G) (s_A G.2.2)) 0 0 (s_A G.2.2) := by
  refine Met.ofW (cc := cX3_letter) (maxL := 3) (ret := (some .int)) (by decide) rfl ?_
  intro p e s m args below meth c s₁ B hml hv
  obtain ⟨rfl, hP, hrok, hK, hN⟩ := hv
  have C : s_C G p s (([.ref (G.2.2 + k0), .int x1] : List Value).toArray) m c RX3 cX3_letter := ⟨B.exec, B.bytes, findClass_of_methodNamed B.named, fun w hw => atoms_spec (ws := wsU yX3_letter cX3_letter 3 (some .int)) B.pre w (List.mem_cons_of_mem _ hw), hK, hN⟩
  have hr := B.returns
  have hlocks := B.notSynchronized
  have S : s_St G σ s.heap s.heap [] := ⟨hP, va_S.rf, hrok⟩
  have hcs : 0 ≤ (rm_X3_letter).cells ∧ 0 ≤ (rm_X3_letter).slots := ⟨Nat.le_refl 0, Nat.le_refl 0⟩
  have hR : ∀ (r : Int32) (σ1 : Sg) (H : Heap) (locs : List Loc) (pc : Nat) (ls : Array Slot), decode cX3_letter pc = .ok (.ireturn, 1) → post r σ1 → s_St G σ1 s.heap H locs → W p l e rm_X3_letter s m ([.ref (G.2.2 + k0), .int x1] : List Value).toArray below meth c H locs 0 0 (MQ below (va_Qi post (s_B G) (s_A G.2.2)) ([.ref (G.2.2 + k0), .int x1] : List Value).toArray s 0 0 (s_A G.2.2)) (F0 m pc ls [.int r]) := fun _ _ _ _ _ _ hd hp S => ret_i C hr hlocks hd hp S
  have hl := lv_entry ([.ref (G.2.2 + k0), .int x1]) (n := 3) (Nat.le_of_ble_eq_true rfl)
  rw [lg_entry_eq]
  generalize (lg_sl ([.ref (G.2.2 + k0), .int x1]) ++ List.replicate (3 - (lg_sl ([.ref (G.2.2 + k0), .int x1])).length) Slot.unset).toArray = ls at hl ⊢
  have hl : lv_has ls 3 [(0, .ref (G.2.2 + k0)), (1, .int x1)] := hl
  unfold wpX3_letter at h
  refine lv_iload_n C.1 C.2.1 dX3_letter_0 rfl (lv_at hl 1 rfl) ?_
  refine lv_if_lt (tgt := 25) C.1 C.2.1 dX3_letter_1 (by decide) (fun c2 => ?_) (fun c2 => ?_)
  · replace h := h.1 c2
    exact TX3_letter_25 C hml hcs hk0 hR S (lv_sub hl [] rfl) h
  · replace h := h.2 c2
    refine lv_iload_n C.1 C.2.1 dX3_letter_4 rfl (lv_at hl 1 rfl) ?_
    refine lv_iconst (v := (3 : Int32)) C.1 C.2.1 dX3_letter_5 (by decide) ?_
    refine lv_icmp_ge (tgt := 25) C.1 C.2.1 dX3_letter_6 (by decide) (fun c3 => ?_) (fun c3 => ?_)
    · replace h := h.1 c3
      exact TX3_letter_25 C hml hcs hk0 hR S (lv_sub hl [] rfl) h
    · replace h := h.2 c3
      refine lv_aload_n C.1 C.2.1 dX3_letter_9 rfl (lv_at hl 0 rfl) ?_
      refine g_X3_0 C fl_X3_9 hk0 S dX3_letter_10 ?_
      refine lv_bipush (v := (8 : Int32)) C.1 C.2.1 dX3_letter_13 (by decide) ?_
      refine lv_iload_n C.1 C.2.1 dX3_letter_15 rfl (lv_at hl 1 rfl) ?_
      refine lv_imul C.1 C.2.1 dX3_letter_16 ?_
      refine lv_ishr C.1 C.2.1 dX3_letter_17 ?_
      refine lv_sipush (v := (255 : Int32)) C.1 C.2.1 dX3_letter_18 (by decide) ?_
      refine lv_iand C.1 C.2.1 dX3_letter_21 ?_
      refine lv_goto (tgt := 26) C.1 C.2.1 dX3_letter_22 (by decide) ?_
      refine lv_istore_n (lv' := [(2, .int (((σ.1 k0 0) >>> (((8 : Int32) * x1) &&& 31)) &&& (255 : Int32))), (0, .ref (G.2.2 + k0)), (1, .int x1)]) C.1 C.2.1 dX3_letter_26 rfl hl (by decide) rfl (fun ls hl => ?_)
      refine lv_iload_n C.1 C.2.1 dX3_letter_27 rfl (lv_at hl 0 rfl) ?_
      refine lv_if_ne (tgt := 36) C.1 C.2.1 dX3_letter_28 (by decide) (fun c4 => ?_) (fun c4 => ?_)
      · replace h := h.1 c4
        refine lv_iload_n C.1 C.2.1 dX3_letter_36 rfl (lv_at hl 0 rfl) ?_
        exact hR _ _ _ _ _ _ dX3_letter_37 h S
      · replace h := h.2 c4
        refine lv_bipush (v := (-9 : Int32)) C.1 C.2.1 dX3_letter_31 (by decide) ?_
        refine lv_goto (tgt := 37) C.1 C.2.1 dX3_letter_33 (by decide) ?_
        exact hR _ _ _ _ _ _ dX3_letter_37 h S
/-! X3_wordLength -/
abbrev rm_X3_wordLength : Room := { frames := 0, cells := 0, slots := 0, locals := 0 }
def wpX3_wordLength (k0 : Nat) (σ : Sg) (post : Int32 → Sg → Prop) : Prop := ((((σ.1 k0 0) ≤ (65535 : Int32)) → ((((σ.1 k0 0) ≤ (255 : Int32)) → ((((σ.1 k0 0) ≤ 0) → post ((0 : Int32)) σ) ∧ ((¬ (σ.1 k0 0) ≤ 0) → post ((1 : Int32)) σ))) ∧ ((¬ (σ.1 k0 0) ≤ (255 : Int32)) → post ((2 : Int32)) σ))) ∧ ((¬ (σ.1 k0 0) ≤ (65535 : Int32)) → post ((3 : Int32)) σ))
theorem kM_X3_wordLength : s_M yX3_wordLength cX3_wordLength 1 (some .int) 0 := ⟨co_X3_wordLength, in_X3, by decide, by decide, by decide +kernel⟩
set_option maxHeartbeats 4000000 in
set_option maxRecDepth 100000 in
theorem c_X3_wordLength (l : Launch) (G : s_G) (k0 : Nat) (σ : Sg) (post : Int32 → Sg → Prop) (hk0 : s_kd k0 = 3) (h : wpX3_wordLength k0 σ post) : Met l yX3_wordLength (wsU yX3_wordLength cX3_wordLength 1 (some .int)) rm_X3_wordLength (va_Pc [.ref (G.2.2 + k0)] (s_Pre G σ)) (va_Qi post (s_B G) (s_A G.2.2)) 0 0 (s_A G.2.2) := by
  refine Met.ofW (cc := cX3_wordLength) (maxL := 1) (ret := (some .int)) (by decide) rfl ?_
  intro p e s m args below meth c s₁ B hml hv
  obtain ⟨rfl, hP, hrok, hK, hN⟩ := hv
  have C : s_C G p s (([.ref (G.2.2 + k0)] : List Value).toArray) m c RX3 cX3_wordLength := ⟨B.exec, B.bytes, findClass_of_methodNamed B.named, fun w hw => atoms_spec (ws := wsU yX3_wordLength cX3_wordLength 1 (some .int)) B.pre w (List.mem_cons_of_mem _ hw), hK, hN⟩
  have hr := B.returns
  have hlocks := B.notSynchronized
  have S : s_St G σ s.heap s.heap [] := ⟨hP, va_S.rf, hrok⟩
  have hcs : 0 ≤ (rm_X3_wordLength).cells ∧ 0 ≤ (rm_X3_wordLength).slots := ⟨Nat.le_refl 0, Nat.le_refl 0⟩
  have hR : ∀ (r : Int32) (σ1 : Sg) (H : Heap) (locs : List Loc) (pc : Nat) (ls : Array Slot), decode cX3_wordLength pc = .ok (.ireturn, 1) → post r σ1 → s_St G σ1 s.heap H locs → W p l e rm_X3_wordLength s m ([.ref (G.2.2 + k0)] : List Value).toArray below meth c H locs 0 0 (MQ below (va_Qi post (s_B G) (s_A G.2.2)) ([.ref (G.2.2 + k0)] : List Value).toArray s 0 0 (s_A G.2.2)) (F0 m pc ls [.int r]) := fun _ _ _ _ _ _ hd hp S => ret_i C hr hlocks hd hp S
  have hl := lv_entry ([.ref (G.2.2 + k0)]) (n := 1) (Nat.le_of_ble_eq_true rfl)
  rw [lg_entry_eq]
  generalize (lg_sl ([.ref (G.2.2 + k0)]) ++ List.replicate (1 - (lg_sl ([.ref (G.2.2 + k0)])).length) Slot.unset).toArray = ls at hl ⊢
  have hl : lv_has ls 1 [(0, .ref (G.2.2 + k0))] := hl
  unfold wpX3_wordLength at h
  refine lv_aload_n C.1 C.2.1 dX3_wordLength_0 rfl (lv_at hl 0 rfl) ?_
  refine g_X3_0 C fl_X3_9 hk0 S dX3_wordLength_1 ?_
  refine lv_ldc (v := (65535 : Int32)) C.1 C.2.1 C.2.2.1 (C.2.2.2.1 _ ct_X3_30) dX3_wordLength_4 ?_
  refine lv_icmp_le (tgt := 11) C.1 C.2.1 dX3_wordLength_6 (by decide) (fun c1 => ?_) (fun c1 => ?_)
  · replace h := h.1 c1
    refine lv_aload_n C.1 C.2.1 dX3_wordLength_11 rfl (lv_at hl 0 rfl) ?_
    refine g_X3_0 C fl_X3_9 hk0 S dX3_wordLength_12 ?_
    refine lv_sipush (v := (255 : Int32)) C.1 C.2.1 dX3_wordLength_15 (by decide) ?_
    refine lv_icmp_le (tgt := 25) C.1 C.2.1 dX3_wordLength_18 (by decide) (fun c2 => ?_) (fun c2 => ?_)
    · replace h := h.1 c2
      refine lv_aload_n C.1 C.2.1 dX3_wordLength_25 rfl (lv_at hl 0 rfl) ?_
      refine g_X3_0 C fl_X3_9 hk0 S dX3_wordLength_26 ?_
      refine lv_if_le (tgt := 36) C.1 C.2.1 dX3_wordLength_29 (by decide) (fun c3 => ?_) (fun c3 => ?_)
      · replace h := h.1 c3
        refine lv_iconst (v := (0 : Int32)) C.1 C.2.1 dX3_wordLength_36 (by decide) ?_
        exact hR _ _ _ _ _ _ dX3_wordLength_37 h S
      · replace h := h.2 c3
        refine lv_iconst (v := (1 : Int32)) C.1 C.2.1 dX3_wordLength_32 (by decide) ?_
        refine lv_goto (tgt := 37) C.1 C.2.1 dX3_wordLength_33 (by decide) ?_
        exact hR _ _ _ _ _ _ dX3_wordLength_37 h S
    · replace h := h.2 c2
      refine lv_iconst (v := (2 : Int32)) C.1 C.2.1 dX3_wordLength_21 (by decide) ?_
      refine lv_goto (tgt := 37) C.1 C.2.1 dX3_wordLength_22 (by decide) ?_
      exact hR _ _ _ _ _ _ dX3_wordLength_37 h S
  · replace h := h.2 c1
    refine lv_iconst (v := (3 : Int32)) C.1 C.2.1 dX3_wordLength_9 (by decide) ?_
    exact hR _ _ _ _ _ _ dX3_wordLength_10 h S
/-! X0_appendOccurrence -/
abbrev rm_X0_appendOccurrence : Room := { frames := 2, cells := 0, slots := 0, locals := 42 }
def BX0_appendOccurrence_2 (k0 : Nat) (k1 : Nat) (x2 : Int32) (post : Sg → Prop) : Nat → Int32 → Sg → Prop
  | 0, _, _ => False
  | n + 1, x3, σ => wpX3_wordLength k1 σ (fun r2 σ1 => (((r2 ≤ x3) → (((¬ (σ1.1 k1 1) = (1 : Int32)) → (((¬ (σ1.1 k1 1) = (2 : Int32)) → post σ1) ∧ (((σ1.1 k1 1) = (2 : Int32)) → wpX0_append k0 (((65 : Int32) + x2)) σ1 (fun r7 σ6 => post σ6)))) ∧ (((σ1.1 k1 1) = (1 : Int32)) → wpX0_appendNumber k0 x2 σ1 (fun σ8 => post σ8)))) ∧ ((¬ r2 ≤ x3) → wpX3_letter k1 x3 σ1 (fun r10 σ9 => wpX0_append k0 r10 σ9 (fun r12 σ11 => BX0_appendOccurrence_2 k0 k1 x2 post n ((x3 + 1)) σ11)))))
def wpX0_appendOccurrence (k0 : Nat) (k1 : Nat) (x2 : Int32) (σ : Sg) (post : Sg → Prop) : Prop := ∃ nf, BX0_appendOccurrence_2 k0 k1 x2 post nf ((0 : Int32)) σ
set_option maxHeartbeats 4000000 in
set_option maxRecDepth 100000 in
theorem TX0_appendOccurrence_2 (C : s_C G p s args m c RX0 cX0_appendOccurrence) (hml : c.maxLocals = 4) (hcs : cells ≤ (rm_X0_appendOccurrence).cells ∧ slots ≤ (rm_X0_appendOccurrence).slots) {k0 : Nat} {k1 : Nat} {x2 : Int32} (hk0 : s_kd k0 = 0) (hk1 : s_kd k1 = 3) {post : Sg → Prop} (hR : ∀ (σ1 : Sg) (H : Heap) (locs : List Loc) (pc : Nat) (ls : Array Slot), decode cX0_appendOccurrence pc = .ok (.return_, 1) → post σ1 → s_St G σ1 H0 H locs → W p l e rm_X0_appendOccurrence s m args below meth c H locs cells slots Q (F0 m pc ls [])) : ∀ (n : Nat) (x3 : Int32), ∀ {σ : Sg} {H : Heap} {locs : List Loc} {ls : Array Slot}, s_St G σ H0 H locs → lv_has ls 4 [(0, .ref (G.2.2 + k0)), (1, .ref (G.2.2 + k1)), (2, .int x2), (3, .int x3)] → BX0_appendOccurrence_2 k0 k1 x2 post n x3 σ → W p l e rm_X0_appendOccurrence s m args below meth c H locs cells slots Q (F0 m 2 ls []) := by
  intro n
  induction n with
  | zero =>
    intro x3  σ H locs ls S hl h
    exact absurd h (fun h => h)
  | succ n ih0 =>
    have ih : ∀ (x3 : Int32), ∀ (σ : Sg) (H : Heap) (locs : List Loc) (ls : Array Slot), s_St G σ H0 H locs → lv_has ls 4 [(0, .ref (G.2.2 + k0)), (1, .ref (G.2.2 + k1)), (2, .int x2), (3, .int x3)] → BX0_appendOccurrence_2 k0 k1 x2 post n x3 σ → W p l e rm_X0_appendOccurrence s m args below meth c H locs cells slots Q (F0 m 2 ls []) := fun x3  _ _ _ _ => ih0 x3 
    intro x3  σ H locs ls S hl h
    refine lv_iload_n C.1 C.2.1 dX0_appendOccurrence_2 rfl (lv_at hl 3 rfl) ?_
    refine lv_aload_n C.1 C.2.1 dX0_appendOccurrence_3 rfl (lv_at hl 1 rfl) ?_
    refine k_i (r_VN (As := []) (rest := [.int x3]) C hml (c_X3_wordLength l G k1 σ _ hk1 h) kM_X3_wordLength im_X3_wordLength se_X3_wordLength nm_X0_27 ⟨rfl, rfl⟩ ⟨Nat.le_of_ble_eq_true rfl, Nat.le_of_ble_eq_true rfl⟩ hcs S hk1 (by decide) (T := TX3) (N := 6) rfl rfl hl.1 rfl (Nat.le_of_ble_eq_true rfl) dX0_appendOccurrence_4) S (fun r2 σ1 H locs h S => ?_)
    refine lv_icmp_ge (tgt := 26) C.1 C.2.1 dX0_appendOccurrence_7 (by decide) (fun c3 => ?_) (fun c3 => ?_)
    · replace h := h.1 c3
      refine lv_aload_n C.1 C.2.1 dX0_appendOccurrence_26 rfl (lv_at hl 1 rfl) ?_
      refine gn_X3_1 C nf_X0_43 hk1 S dX0_appendOccurrence_27 ?_
      refine lv_iconst (v := (1 : Int32)) C.1 C.2.1 dX0_appendOccurrence_30 (by decide) ?_
      refine lv_icmp_ne (tgt := 42) C.1 C.2.1 dX0_appendOccurrence_31 (by decide) (fun c4 => ?_) (fun c4 => ?_)
      · replace h := h.1 c4
        refine lv_aload_n C.1 C.2.1 dX0_appendOccurrence_42 rfl (lv_at hl 1 rfl) ?_
        refine gn_X3_1 C nf_X0_43 hk1 S dX0_appendOccurrence_43 ?_
        refine lv_iconst (v := (2 : Int32)) C.1 C.2.1 dX0_appendOccurrence_46 (by decide) ?_
        refine lv_icmp_ne (tgt := 59) C.1 C.2.1 dX0_appendOccurrence_47 (by decide) (fun c5 => ?_) (fun c5 => ?_)
        · replace h := h.1 c5
          exact hR _ _ _ _ _ dX0_appendOccurrence_59 h S
        · replace h := h.2 c5
          refine lv_aload_n C.1 C.2.1 dX0_appendOccurrence_50 rfl (lv_at hl 0 rfl) ?_
          refine lv_bipush (v := (65 : Int32)) C.1 C.2.1 dX0_appendOccurrence_51 (by decide) ?_
          refine lv_iload_n C.1 C.2.1 dX0_appendOccurrence_53 rfl (lv_at hl 2 rfl) ?_
          refine lv_iadd C.1 C.2.1 dX0_appendOccurrence_54 ?_
          refine k_i (r_V (As := [.int ((65 : Int32) + x2)]) (rest := []) C hml (c_X0_append l G k0 (((65 : Int32) + x2)) σ1 _ hk0 h) kM_X0_append im_X0_append se_X0_append ml_X0_52 ⟨rfl, rfl⟩ ⟨Nat.le_of_ble_eq_true rfl, Nat.le_of_ble_eq_true rfl⟩ hcs S hk0 (by decide) (T := TX0) (N := 2) rfl rfl hl.1 rfl (Nat.le_of_ble_eq_true rfl) dX0_appendOccurrence_55) S (fun r7 σ6 H locs h S => ?_)
          refine lv_pop C.1 C.2.1 dX0_appendOccurrence_58 rfl ?_
          exact hR _ _ _ _ _ dX0_appendOccurrence_59 h S
      · replace h := h.2 c4
        refine lv_aload_n C.1 C.2.1 dX0_appendOccurrence_34 rfl (lv_at hl 0 rfl) ?_
        refine lv_iload_n C.1 C.2.1 dX0_appendOccurrence_35 rfl (lv_at hl 2 rfl) ?_
        refine k_v (r_V (As := [.int x2]) (rest := []) C hml (c_X0_appendNumber l G k0 x2 σ1 _ hk0 h) kM_X0_appendNumber im_X0_appendNumber se_X0_appendNumber ml_X0_55 ⟨rfl, rfl⟩ ⟨Nat.le_of_ble_eq_true rfl, Nat.le_of_ble_eq_true rfl⟩ hcs S hk0 (by decide) (T := TX0) (N := 2) rfl rfl hl.1 rfl (Nat.le_of_ble_eq_true rfl) dX0_appendOccurrence_36) S (fun σ8 H locs h S => ?_)
        refine lv_goto (tgt := 59) C.1 C.2.1 dX0_appendOccurrence_39 (by decide) ?_
        exact hR _ _ _ _ _ dX0_appendOccurrence_59 h S
    · replace h := h.2 c3
      refine lv_aload_n C.1 C.2.1 dX0_appendOccurrence_10 rfl (lv_at hl 0 rfl) ?_
      refine lv_aload_n C.1 C.2.1 dX0_appendOccurrence_11 rfl (lv_at hl 1 rfl) ?_
      refine lv_iload_n C.1 C.2.1 dX0_appendOccurrence_12 rfl (lv_at hl 3 rfl) ?_
      refine k_i (r_VN (As := [.int x3]) (rest := [.ref (G.2.2 + k0)]) C hml (c_X3_letter l G k1 x3 σ1 _ hk1 h) kM_X3_letter im_X3_letter se_X3_letter nm_X0_33 ⟨rfl, rfl⟩ ⟨Nat.le_of_ble_eq_true rfl, Nat.le_of_ble_eq_true rfl⟩ hcs S hk1 (by decide) (T := TX3) (N := 6) rfl rfl hl.1 rfl (Nat.le_of_ble_eq_true rfl) dX0_appendOccurrence_13) S (fun r10 σ9 H locs h S => ?_)
      refine k_i (r_V (As := [.int r10]) (rest := []) C hml (c_X0_append l G k0 r10 σ9 _ hk0 h) kM_X0_append im_X0_append se_X0_append ml_X0_52 ⟨rfl, rfl⟩ ⟨Nat.le_of_ble_eq_true rfl, Nat.le_of_ble_eq_true rfl⟩ hcs S hk0 (by decide) (T := TX0) (N := 2) rfl rfl hl.1 rfl (Nat.le_of_ble_eq_true rfl) dX0_appendOccurrence_16) S (fun r12 σ11 H locs h S => ?_)
      refine lv_pop C.1 C.2.1 dX0_appendOccurrence_19 rfl ?_
      refine lv_iinc (v := (x3 + 1)) (lv' := [(3, .int (x3 + 1)), (0, .ref (G.2.2 + k0)), (1, .ref (G.2.2 + k1)), (2, .int x2)]) C.1 C.2.1 dX0_appendOccurrence_20 hl (k := 3) rfl rfl (by decide) rfl (fun ls hl => ?_)
      refine lv_goto (tgt := 2) C.1 C.2.1 dX0_appendOccurrence_23 (by decide) ?_
      exact ih ((x3 + 1)) _ _ _ _ S (lv_sub hl [1, 2, 3, 0] rfl) h
theorem kM_X0_appendOccurrence : s_M yX0_appendOccurrence cX0_appendOccurrence 4 none 2 := ⟨co_X0_appendOccurrence, in_X0, by decide, by decide, by decide +kernel⟩
set_option maxHeartbeats 4000000 in
set_option maxRecDepth 100000 in
theorem c_X0_appendOccurrence (l : Launch) (G : s_G) (k0 : Nat) (k1 : Nat) (x2 : Int32) (σ : Sg) (post : Sg → Prop) (hk0 : s_kd k0 = 0) (hk1 : s_kd k1 = 3) (h : wpX0_appendOccurrence k0 k1 x2 σ post) : Met l yX0_appendOccurrence (wsU yX0_appendOccurrence cX0_appendOccurrence 4 none) rm_X0_appendOccurrence (va_Pc [.ref (G.2.2 + k0), .ref (G.2.2 + k1), .int x2] (s_Pre G σ)) (va_Qv post (s_B G) (s_A G.2.2)) 0 0 (s_A G.2.2) := by
  refine Met.ofW (cc := cX0_appendOccurrence) (maxL := 4) (ret := none) (by decide) rfl ?_
  intro p e s m args below meth c s₁ B hml hv
  obtain ⟨rfl, hP, hrok, hK, hN⟩ := hv
  have C : s_C G p s (([.ref (G.2.2 + k0), .ref (G.2.2 + k1), .int x2] : List Value).toArray) m c RX0 cX0_appendOccurrence := ⟨B.exec, B.bytes, findClass_of_methodNamed B.named, fun w hw => atoms_spec (ws := wsU yX0_appendOccurrence cX0_appendOccurrence 4 none) B.pre w (List.mem_cons_of_mem _ hw), hK, hN⟩
  have hr := B.returns
  have hlocks := B.notSynchronized
  have S : s_St G σ s.heap s.heap [] := ⟨hP, va_S.rf, hrok⟩
  have hcs : 0 ≤ (rm_X0_appendOccurrence).cells ∧ 0 ≤ (rm_X0_appendOccurrence).slots := ⟨Nat.le_refl 0, Nat.le_refl 0⟩
  have hR : ∀ (σ1 : Sg) (H : Heap) (locs : List Loc) (pc : Nat) (ls : Array Slot), decode cX0_appendOccurrence pc = .ok (.return_, 1) → post σ1 → s_St G σ1 s.heap H locs → W p l e rm_X0_appendOccurrence s m ([.ref (G.2.2 + k0), .ref (G.2.2 + k1), .int x2] : List Value).toArray below meth c H locs 0 0 (MQ below (va_Qv post (s_B G) (s_A G.2.2)) ([.ref (G.2.2 + k0), .ref (G.2.2 + k1), .int x2] : List Value).toArray s 0 0 (s_A G.2.2)) (F0 m pc ls []) := fun _ _ _ _ _ hd hp S => ret_v C hr hlocks hd hp S
  have hl := lv_entry ([.ref (G.2.2 + k0), .ref (G.2.2 + k1), .int x2]) (n := 4) (Nat.le_of_ble_eq_true rfl)
  rw [lg_entry_eq]
  generalize (lg_sl ([.ref (G.2.2 + k0), .ref (G.2.2 + k1), .int x2]) ++ List.replicate (4 - (lg_sl ([.ref (G.2.2 + k0), .ref (G.2.2 + k1), .int x2])).length) Slot.unset).toArray = ls at hl ⊢
  have hl : lv_has ls 4 [(0, .ref (G.2.2 + k0)), (1, .ref (G.2.2 + k1)), (2, .int x2)] := hl
  unfold wpX0_appendOccurrence at h
  refine lv_iconst (v := (0 : Int32)) C.1 C.2.1 dX0_appendOccurrence_0 (by decide) ?_
  refine lv_istore_n (lv' := [(3, .int (0 : Int32)), (0, .ref (G.2.2 + k0)), (1, .ref (G.2.2 + k1)), (2, .int x2)]) C.1 C.2.1 dX0_appendOccurrence_1 rfl hl (by decide) rfl (fun ls hl => ?_)
  obtain ⟨nf, h⟩ := h
  exact TX0_appendOccurrence_2 C hml hcs hk0 hk1 hR nf ((0 : Int32)) S (lv_sub hl [1, 2, 3, 0] rfl) h
/-! X0_at -/
abbrev rm_X0_at : Room := { frames := 0, cells := 0, slots := 0, locals := 0 }
def wpX0_at (k0 : Nat) (x1 : Int32) (σ : Sg) (post : Int32 → Sg → Prop) : Prop := (((x1 < 0) → post ((-9 : Int32)) σ) ∧ ((¬ x1 < 0) → ((((σ.1 k0 1) ≤ x1) → post ((-9 : Int32)) σ) ∧ ((¬ (σ.1 k0 1) ≤ x1) → ((((60 : Int32) ≤ x1) → post ((-9 : Int32)) σ) ∧ ((¬ (60 : Int32) ≤ x1) → (vp_in x1 60 ∧ post ((σ.1 (s_fin k0 0) (x1).toNatClampNeg)) σ)))))))
theorem kM_X0_at : s_M yX0_at cX0_at 2 (some .int) 1 := ⟨co_X0_at, in_X0, by decide, by decide, by decide +kernel⟩
set_option maxHeartbeats 4000000 in
set_option maxRecDepth 100000 in
theorem c_X0_at (l : Launch) (G : s_G) (k0 : Nat) (x1 : Int32) (σ : Sg) (post : Int32 → Sg → Prop) (hk0 : s_kd k0 = 0) (h : wpX0_at k0 x1 σ post) : Met l yX0_at (wsU yX0_at cX0_at 2 (some .int)) rm_X0_at (va_Pc [.ref (G.2.2 + k0), .int x1] (s_Pre G σ)) (va_Qi post (s_B G) (s_A G.2.2)) 0 0 (s_A G.2.2) := by
  refine Met.ofW (cc := cX0_at) (maxL := 2) (ret := (some .int)) (by decide) rfl ?_
  intro p e s m args below meth c s₁ B hml hv
  obtain ⟨rfl, hP, hrok, hK, hN⟩ := hv
  have C : s_C G p s (([.ref (G.2.2 + k0), .int x1] : List Value).toArray) m c RX0 cX0_at := ⟨B.exec, B.bytes, findClass_of_methodNamed B.named, fun w hw => atoms_spec (ws := wsU yX0_at cX0_at 2 (some .int)) B.pre w (List.mem_cons_of_mem _ hw), hK, hN⟩
  have hr := B.returns
  have hlocks := B.notSynchronized
  have S : s_St G σ s.heap s.heap [] := ⟨hP, va_S.rf, hrok⟩
  have hcs : 0 ≤ (rm_X0_at).cells ∧ 0 ≤ (rm_X0_at).slots := ⟨Nat.le_refl 0, Nat.le_refl 0⟩
  have hR : ∀ (r : Int32) (σ1 : Sg) (H : Heap) (locs : List Loc) (pc : Nat) (ls : Array Slot), decode cX0_at pc = .ok (.ireturn, 1) → post r σ1 → s_St G σ1 s.heap H locs → W p l e rm_X0_at s m ([.ref (G.2.2 + k0), .int x1] : List Value).toArray below meth c H locs 0 0 (MQ below (va_Qi post (s_B G) (s_A G.2.2)) ([.ref (G.2.2 + k0), .int x1] : List Value).toArray s 0 0 (s_A G.2.2)) (F0 m pc ls [.int r]) := fun _ _ _ _ _ _ hd hp S => ret_i C hr hlocks hd hp S
  have hl := lv_entry ([.ref (G.2.2 + k0), .int x1]) (n := 2) (Nat.le_of_ble_eq_true rfl)
  rw [lg_entry_eq]
  generalize (lg_sl ([.ref (G.2.2 + k0), .int x1]) ++ List.replicate (2 - (lg_sl ([.ref (G.2.2 + k0), .int x1])).length) Slot.unset).toArray = ls at hl ⊢
  have hl : lv_has ls 2 [(0, .ref (G.2.2 + k0)), (1, .int x1)] := hl
  unfold wpX0_at at h
  refine lv_iload_n C.1 C.2.1 dX0_at_0 rfl (lv_at hl 1 rfl) ?_
  refine lv_if_lt (tgt := 30) C.1 C.2.1 dX0_at_1 (by decide) (fun c1 => ?_) (fun c1 => ?_)
  · replace h := h.1 c1
    refine lv_bipush (v := (-9 : Int32)) C.1 C.2.1 dX0_at_30 (by decide) ?_
    exact hR _ _ _ _ _ _ dX0_at_32 h S
  · replace h := h.2 c1
    refine lv_iload_n C.1 C.2.1 dX0_at_4 rfl (lv_at hl 1 rfl) ?_
    refine lv_aload_n C.1 C.2.1 dX0_at_5 rfl (lv_at hl 0 rfl) ?_
    refine g_X0_1 C fl_X0_15 hk0 S dX0_at_6 ?_
    refine lv_icmp_ge (tgt := 30) C.1 C.2.1 dX0_at_9 (by decide) (fun c2 => ?_) (fun c2 => ?_)
    · replace h := h.1 c2
      refine lv_bipush (v := (-9 : Int32)) C.1 C.2.1 dX0_at_30 (by decide) ?_
      exact hR _ _ _ _ _ _ dX0_at_32 h S
    · replace h := h.2 c2
      refine lv_iload_n C.1 C.2.1 dX0_at_12 rfl (lv_at hl 1 rfl) ?_
      refine lv_aload_n C.1 C.2.1 dX0_at_13 rfl (lv_at hl 0 rfl) ?_
      refine g_X0_0 C fl_X0_9 hk0 S rfl dX0_at_14 ?_
      refine a_len8 C ((kdf_X0_0 hk0)) S (v := (60 : Int32)) (by rw [(lnf_X0_0 hk0)]; rfl) dX0_at_17 ?_
      refine lv_icmp_ge (tgt := 30) C.1 C.2.1 dX0_at_18 (by decide) (fun c3 => ?_) (fun c3 => ?_)
      · replace h := h.1 c3
        refine lv_bipush (v := (-9 : Int32)) C.1 C.2.1 dX0_at_30 (by decide) ?_
        exact hR _ _ _ _ _ _ dX0_at_32 h S
      · replace h := h.2 c3
        refine lv_aload_n C.1 C.2.1 dX0_at_21 rfl (lv_at hl 0 rfl) ?_
        refine g_X0_0 C fl_X0_9 hk0 S rfl dX0_at_22 ?_
        refine lv_iload_n C.1 C.2.1 dX0_at_25 rfl (lv_at hl 1 rfl) ?_
        refine a_ild C ((kdf_X0_0 hk0)) S (lnf_X0_0 hk0) h.1 dX0_at_26 ?_
        replace h := h.2
        refine lv_goto (tgt := 32) C.1 C.2.1 dX0_at_27 (by decide) ?_
        exact hR _ _ _ _ _ _ dX0_at_32 h S
/-! X6_isSmallLetter -/
abbrev rm_X6_isSmallLetter : Room := { frames := 0, cells := 0, slots := 0, locals := 0 }
def wpX6_isSmallLetter (x0 : Int32) (σ : Sg) (post : Int32 → Sg → Prop) : Prop := (((x0 < (97 : Int32)) → post (0 : Int32) σ) ∧ ((¬ x0 < (97 : Int32)) → ((((122 : Int32) < x0) → post (0 : Int32) σ) ∧ ((¬ (122 : Int32) < x0) → post (1 : Int32) σ))))
theorem kM_X6_isSmallLetter : s_M yX6_isSmallLetter cX6_isSmallLetter 1 (some .boolean) 1 := ⟨co_X6_isSmallLetter, in_X6, by decide, by decide, by decide +kernel⟩
set_option maxHeartbeats 4000000 in
set_option maxRecDepth 100000 in
theorem c_X6_isSmallLetter (l : Launch) (G : s_G) (x0 : Int32) (σ : Sg) (post : Int32 → Sg → Prop) (h : wpX6_isSmallLetter x0 σ post) : Met l yX6_isSmallLetter (wsU yX6_isSmallLetter cX6_isSmallLetter 1 (some .boolean)) rm_X6_isSmallLetter (va_Pc [.int x0] (s_Pre G σ)) (va_Qi post (s_B G) (s_A G.2.2)) 0 0 (s_A G.2.2) := by
  refine Met.ofW (cc := cX6_isSmallLetter) (maxL := 1) (ret := (some .boolean)) (by decide) rfl ?_
  intro p e s m args below meth c s₁ B hml hv
  obtain ⟨rfl, hP, hrok, hK, hN⟩ := hv
  have C : s_C G p s (([.int x0] : List Value).toArray) m c RX6 cX6_isSmallLetter := ⟨B.exec, B.bytes, findClass_of_methodNamed B.named, fun w hw => atoms_spec (ws := wsU yX6_isSmallLetter cX6_isSmallLetter 1 (some .boolean)) B.pre w (List.mem_cons_of_mem _ hw), hK, hN⟩
  have hr := B.returns
  have hlocks := B.notSynchronized
  have S : s_St G σ s.heap s.heap [] := ⟨hP, va_S.rf, hrok⟩
  have hcs : 0 ≤ (rm_X6_isSmallLetter).cells ∧ 0 ≤ (rm_X6_isSmallLetter).slots := ⟨Nat.le_refl 0, Nat.le_refl 0⟩
  have hR : ∀ (r : Int32) (σ1 : Sg) (H : Heap) (locs : List Loc) (pc : Nat) (ls : Array Slot), decode cX6_isSmallLetter pc = .ok (.ireturn, 1) → narrow .boolean (.int r) = .int r → post r σ1 → s_St G σ1 s.heap H locs → W p l e rm_X6_isSmallLetter s m ([.int x0] : List Value).toArray below meth c H locs 0 0 (MQ below (va_Qi post (s_B G) (s_A G.2.2)) ([.int x0] : List Value).toArray s 0 0 (s_A G.2.2)) (F0 m pc ls [.int r]) := fun _ _ _ _ _ _ hd hn hp S => ret_z C hr hlocks hd hn hp S
  have hl := lv_entry ([.int x0]) (n := 1) (Nat.le_of_ble_eq_true rfl)
  rw [lg_entry_eq]
  generalize (lg_sl ([.int x0]) ++ List.replicate (1 - (lg_sl ([.int x0])).length) Slot.unset).toArray = ls at hl ⊢
  have hl : lv_has ls 1 [(0, .int x0)] := hl
  unfold wpX6_isSmallLetter at h
  refine lv_iload_n C.1 C.2.1 dX6_isSmallLetter_0 rfl (lv_at hl 0 rfl) ?_
  refine lv_bipush (v := (97 : Int32)) C.1 C.2.1 dX6_isSmallLetter_1 (by decide) ?_
  refine lv_icmp_lt (tgt := 16) C.1 C.2.1 dX6_isSmallLetter_3 (by decide) (fun c1 => ?_) (fun c1 => ?_)
  · replace h := h.1 c1
    refine lv_iconst (v := (0 : Int32)) C.1 C.2.1 dX6_isSmallLetter_16 (by decide) ?_
    exact hR _ _ _ _ _ _ dX6_isSmallLetter_17 rfl h S
  · replace h := h.2 c1
    refine lv_iload_n C.1 C.2.1 dX6_isSmallLetter_6 rfl (lv_at hl 0 rfl) ?_
    refine lv_bipush (v := (122 : Int32)) C.1 C.2.1 dX6_isSmallLetter_7 (by decide) ?_
    refine lv_icmp_gt (tgt := 16) C.1 C.2.1 dX6_isSmallLetter_9 (by decide) (fun c2 => ?_) (fun c2 => ?_)
    · replace h := h.1 c2
      refine lv_iconst (v := (0 : Int32)) C.1 C.2.1 dX6_isSmallLetter_16 (by decide) ?_
      exact hR _ _ _ _ _ _ dX6_isSmallLetter_17 rfl h S
    · replace h := h.2 c2
      refine lv_iconst (v := (1 : Int32)) C.1 C.2.1 dX6_isSmallLetter_12 (by decide) ?_
      refine lv_goto (tgt := 17) C.1 C.2.1 dX6_isSmallLetter_13 (by decide) ?_
      exact hR _ _ _ _ _ _ dX6_isSmallLetter_17 rfl h S
/-! X0_asWord -/
abbrev rm_X0_asWord : Room := { frames := 1, cells := 0, slots := 0, locals := 21 }
def BX0_asWord_14 (k0 : Nat) (post : Int32 → Sg → Prop) : Nat → Int32 → Int32 → Sg → Prop
  | 0, _, _, _ => False
  | n + 1, x1, x2, σ => ((((σ.1 k0 1) ≤ x2) → post x1 σ) ∧ ((¬ (σ.1 k0 1) ≤ x2) → wpX0_at k0 x2 σ (fun r3 σ2 => wpX6_isSmallLetter r3 σ2 (fun r5 σ4 => (((¬ r5 = 0) → wpX0_at k0 x2 σ4 (fun r8 σ7 => BX0_asWord_14 k0 post n ((x1 ||| (r8 <<< (((8 : Int32) * x2) &&& 31)))) ((x2 + 1)) σ7)) ∧ ((r5 = 0) → post ((0 : Int32)) σ4))))))
def wpX0_asWord (k0 : Nat) (σ : Sg) (post : Int32 → Sg → Prop) : Prop := ((((σ.1 k0 1) ≤ (3 : Int32)) → ∃ nf, BX0_asWord_14 k0 post nf ((0 : Int32)) ((0 : Int32)) σ) ∧ ((¬ (σ.1 k0 1) ≤ (3 : Int32)) → post ((0 : Int32)) σ))
set_option maxHeartbeats 4000000 in
set_option maxRecDepth 100000 in
theorem TX0_asWord_14 (C : s_C G p s args m c RX0 cX0_asWord) (hml : c.maxLocals = 3) (hcs : cells ≤ (rm_X0_asWord).cells ∧ slots ≤ (rm_X0_asWord).slots) {k0 : Nat} (hk0 : s_kd k0 = 0) {post : Int32 → Sg → Prop} (hR : ∀ (r : Int32) (σ1 : Sg) (H : Heap) (locs : List Loc) (pc : Nat) (ls : Array Slot), decode cX0_asWord pc = .ok (.ireturn, 1) → post r σ1 → s_St G σ1 H0 H locs → W p l e rm_X0_asWord s m args below meth c H locs cells slots Q (F0 m pc ls [.int r])) : ∀ (n : Nat) (x1 : Int32) (x2 : Int32), ∀ {σ : Sg} {H : Heap} {locs : List Loc} {ls : Array Slot}, s_St G σ H0 H locs → lv_has ls 3 [(0, .ref (G.2.2 + k0)), (1, .int x1), (2, .int x2)] → BX0_asWord_14 k0 post n x1 x2 σ → W p l e rm_X0_asWord s m args below meth c H locs cells slots Q (F0 m 14 ls []) := by
  intro n
  induction n with
  | zero =>
    intro x1 x2  σ H locs ls S hl h
    exact absurd h (fun h => h)
  | succ n ih0 =>
    have ih : ∀ (x1 : Int32) (x2 : Int32), ∀ (σ : Sg) (H : Heap) (locs : List Loc) (ls : Array Slot), s_St G σ H0 H locs → lv_has ls 3 [(0, .ref (G.2.2 + k0)), (1, .int x1), (2, .int x2)] → BX0_asWord_14 k0 post n x1 x2 σ → W p l e rm_X0_asWord s m args below meth c H locs cells slots Q (F0 m 14 ls []) := fun x1 x2  _ _ _ _ => ih0 x1 x2 
    intro x1 x2  σ H locs ls S hl h
    refine lv_iload_n C.1 C.2.1 dX0_asWord_14 rfl (lv_at hl 2 rfl) ?_
    refine lv_aload_n C.1 C.2.1 dX0_asWord_15 rfl (lv_at hl 0 rfl) ?_
    refine g_X0_1 C fl_X0_15 hk0 S dX0_asWord_16 ?_
    refine lv_icmp_ge (tgt := 54) C.1 C.2.1 dX0_asWord_19 (by decide) (fun c1 => ?_) (fun c1 => ?_)
    · replace h := h.1 c1
      refine lv_iload_n C.1 C.2.1 dX0_asWord_54 rfl (lv_at hl 1 rfl) ?_
      exact hR _ _ _ _ _ _ dX0_asWord_55 h S
    · replace h := h.2 c1
      refine lv_aload_n C.1 C.2.1 dX0_asWord_22 rfl (lv_at hl 0 rfl) ?_
      refine lv_iload_n C.1 C.2.1 dX0_asWord_23 rfl (lv_at hl 2 rfl) ?_
      refine k_i (r_V (As := [.int x2]) (rest := []) C hml (c_X0_at l G k0 x2 σ _ hk0 h) kM_X0_at im_X0_at se_X0_at ml_X0_19 ⟨rfl, rfl⟩ ⟨Nat.le_of_ble_eq_true rfl, Nat.le_of_ble_eq_true rfl⟩ hcs S hk0 (by decide) (T := TX0) (N := 2) rfl rfl hl.1 rfl (Nat.le_of_ble_eq_true rfl) dX0_asWord_24) S (fun r3 σ2 H locs h S => ?_)
      refine k_i (r_SN (As := [.int r3]) (rest := []) C hml (c_X6_isSmallLetter l G r3 σ2 _ h) kM_X6_isSmallLetter st_X6_isSmallLetter nm_X0_23 ⟨rfl, rfl⟩ ⟨Nat.le_of_ble_eq_true rfl, Nat.le_of_ble_eq_true rfl⟩ hcs S rfl hl.1 rfl (Nat.le_of_ble_eq_true rfl) dX0_asWord_27) S (fun r5 σ4 H locs h S => ?_)
      refine lv_if_ne (tgt := 35) C.1 C.2.1 dX0_asWord_30 (by decide) (fun c6 => ?_) (fun c6 => ?_)
      · replace h := h.1 c6
        refine lv_iload_n C.1 C.2.1 dX0_asWord_35 rfl (lv_at hl 1 rfl) ?_
        refine lv_aload_n C.1 C.2.1 dX0_asWord_36 rfl (lv_at hl 0 rfl) ?_
        refine lv_iload_n C.1 C.2.1 dX0_asWord_37 rfl (lv_at hl 2 rfl) ?_
        refine k_i (r_V (As := [.int x2]) (rest := [.int x1]) C hml (c_X0_at l G k0 x2 σ4 _ hk0 h) kM_X0_at im_X0_at se_X0_at ml_X0_19 ⟨rfl, rfl⟩ ⟨Nat.le_of_ble_eq_true rfl, Nat.le_of_ble_eq_true rfl⟩ hcs S hk0 (by decide) (T := TX0) (N := 2) rfl rfl hl.1 rfl (Nat.le_of_ble_eq_true rfl) dX0_asWord_38) S (fun r8 σ7 H locs h S => ?_)
        refine lv_bipush (v := (8 : Int32)) C.1 C.2.1 dX0_asWord_41 (by decide) ?_
        refine lv_iload_n C.1 C.2.1 dX0_asWord_43 rfl (lv_at hl 2 rfl) ?_
        refine lv_imul C.1 C.2.1 dX0_asWord_44 ?_
        refine lv_ishl C.1 C.2.1 dX0_asWord_45 ?_
        refine lv_ior C.1 C.2.1 dX0_asWord_46 ?_
        refine lv_istore_n (lv' := [(1, .int (x1 ||| (r8 <<< (((8 : Int32) * x2) &&& 31)))), (0, .ref (G.2.2 + k0)), (2, .int x2)]) C.1 C.2.1 dX0_asWord_47 rfl hl (by decide) rfl (fun ls hl => ?_)
        refine lv_iinc (v := (x2 + 1)) (lv' := [(2, .int (x2 + 1)), (1, .int (x1 ||| (r8 <<< (((8 : Int32) * x2) &&& 31)))), (0, .ref (G.2.2 + k0))]) C.1 C.2.1 dX0_asWord_48 hl (k := 2) rfl rfl (by decide) rfl (fun ls hl => ?_)
        refine lv_goto (tgt := 14) C.1 C.2.1 dX0_asWord_51 (by decide) ?_
        exact ih ((x1 ||| (r8 <<< (((8 : Int32) * x2) &&& 31)))) ((x2 + 1)) _ _ _ _ S (lv_sub hl [2, 1, 0] rfl) h
      · replace h := h.2 c6
        refine lv_iconst (v := (0 : Int32)) C.1 C.2.1 dX0_asWord_33 (by decide) ?_
        exact hR _ _ _ _ _ _ dX0_asWord_34 h S
theorem kM_X0_asWord : s_M yX0_asWord cX0_asWord 3 (some .int) 0 := ⟨co_X0_asWord, in_X0, by decide, by decide, by decide +kernel⟩
set_option maxHeartbeats 4000000 in
set_option maxRecDepth 100000 in
theorem c_X0_asWord (l : Launch) (G : s_G) (k0 : Nat) (σ : Sg) (post : Int32 → Sg → Prop) (hk0 : s_kd k0 = 0) (h : wpX0_asWord k0 σ post) : Met l yX0_asWord (wsU yX0_asWord cX0_asWord 3 (some .int)) rm_X0_asWord (va_Pc [.ref (G.2.2 + k0)] (s_Pre G σ)) (va_Qi post (s_B G) (s_A G.2.2)) 0 0 (s_A G.2.2) := by
  refine Met.ofW (cc := cX0_asWord) (maxL := 3) (ret := (some .int)) (by decide) rfl ?_
  intro p e s m args below meth c s₁ B hml hv
  obtain ⟨rfl, hP, hrok, hK, hN⟩ := hv
  have C : s_C G p s (([.ref (G.2.2 + k0)] : List Value).toArray) m c RX0 cX0_asWord := ⟨B.exec, B.bytes, findClass_of_methodNamed B.named, fun w hw => atoms_spec (ws := wsU yX0_asWord cX0_asWord 3 (some .int)) B.pre w (List.mem_cons_of_mem _ hw), hK, hN⟩
  have hr := B.returns
  have hlocks := B.notSynchronized
  have S : s_St G σ s.heap s.heap [] := ⟨hP, va_S.rf, hrok⟩
  have hcs : 0 ≤ (rm_X0_asWord).cells ∧ 0 ≤ (rm_X0_asWord).slots := ⟨Nat.le_refl 0, Nat.le_refl 0⟩
  have hR : ∀ (r : Int32) (σ1 : Sg) (H : Heap) (locs : List Loc) (pc : Nat) (ls : Array Slot), decode cX0_asWord pc = .ok (.ireturn, 1) → post r σ1 → s_St G σ1 s.heap H locs → W p l e rm_X0_asWord s m ([.ref (G.2.2 + k0)] : List Value).toArray below meth c H locs 0 0 (MQ below (va_Qi post (s_B G) (s_A G.2.2)) ([.ref (G.2.2 + k0)] : List Value).toArray s 0 0 (s_A G.2.2)) (F0 m pc ls [.int r]) := fun _ _ _ _ _ _ hd hp S => ret_i C hr hlocks hd hp S
  have hl := lv_entry ([.ref (G.2.2 + k0)]) (n := 3) (Nat.le_of_ble_eq_true rfl)
  rw [lg_entry_eq]
  generalize (lg_sl ([.ref (G.2.2 + k0)]) ++ List.replicate (3 - (lg_sl ([.ref (G.2.2 + k0)])).length) Slot.unset).toArray = ls at hl ⊢
  have hl : lv_has ls 3 [(0, .ref (G.2.2 + k0))] := hl
  unfold wpX0_asWord at h
  refine lv_aload_n C.1 C.2.1 dX0_asWord_0 rfl (lv_at hl 0 rfl) ?_
  refine g_X0_1 C fl_X0_15 hk0 S dX0_asWord_1 ?_
  refine lv_iconst (v := (3 : Int32)) C.1 C.2.1 dX0_asWord_4 (by decide) ?_
  refine lv_icmp_le (tgt := 10) C.1 C.2.1 dX0_asWord_5 (by decide) (fun c9 => ?_) (fun c9 => ?_)
  · replace h := h.1 c9
    refine lv_iconst (v := (0 : Int32)) C.1 C.2.1 dX0_asWord_10 (by decide) ?_
    refine lv_istore_n (lv' := [(1, .int (0 : Int32)), (0, .ref (G.2.2 + k0))]) C.1 C.2.1 dX0_asWord_11 rfl hl (by decide) rfl (fun ls hl => ?_)
    refine lv_iconst (v := (0 : Int32)) C.1 C.2.1 dX0_asWord_12 (by decide) ?_
    refine lv_istore_n (lv' := [(2, .int (0 : Int32)), (1, .int (0 : Int32)), (0, .ref (G.2.2 + k0))]) C.1 C.2.1 dX0_asWord_13 rfl hl (by decide) rfl (fun ls hl => ?_)
    obtain ⟨nf, h⟩ := h
    exact TX0_asWord_14 C hml hcs hk0 hR nf ((0 : Int32)) ((0 : Int32)) S (lv_sub hl [2, 1, 0] rfl) h
  · replace h := h.2 c9
    refine lv_iconst (v := (0 : Int32)) C.1 C.2.1 dX0_asWord_8 (by decide) ?_
    exact hR _ _ _ _ _ _ dX0_asWord_9 h S
/-! X0_clear -/
abbrev rm_X0_clear : Room := { frames := 0, cells := 0, slots := 0, locals := 0 }
def wpX0_clear (k0 : Nat) (σ : Sg) (post : Sg → Prop) : Prop := (∀ σ1 : Sg, σ1 = setI σ k0 1 ((0 : Int32)) → post σ1)
theorem kM_X0_clear : s_M yX0_clear cX0_clear 1 none 0 := ⟨co_X0_clear, in_X0, by decide, by decide, by decide +kernel⟩
set_option maxHeartbeats 4000000 in
set_option maxRecDepth 100000 in
theorem c_X0_clear (l : Launch) (G : s_G) (k0 : Nat) (σ : Sg) (post : Sg → Prop) (hk0 : s_kd k0 = 0) (h : wpX0_clear k0 σ post) : Met l yX0_clear (wsU yX0_clear cX0_clear 1 none) rm_X0_clear (va_Pc [.ref (G.2.2 + k0)] (s_Pre G σ)) (va_Qv post (s_B G) (s_A G.2.2)) 0 0 (s_A G.2.2) := by
  refine Met.ofW (cc := cX0_clear) (maxL := 1) (ret := none) (by decide) rfl ?_
  intro p e s m args below meth c s₁ B hml hv
  obtain ⟨rfl, hP, hrok, hK, hN⟩ := hv
  have C : s_C G p s (([.ref (G.2.2 + k0)] : List Value).toArray) m c RX0 cX0_clear := ⟨B.exec, B.bytes, findClass_of_methodNamed B.named, fun w hw => atoms_spec (ws := wsU yX0_clear cX0_clear 1 none) B.pre w (List.mem_cons_of_mem _ hw), hK, hN⟩
  have hr := B.returns
  have hlocks := B.notSynchronized
  have S : s_St G σ s.heap s.heap [] := ⟨hP, va_S.rf, hrok⟩
  have hcs : 0 ≤ (rm_X0_clear).cells ∧ 0 ≤ (rm_X0_clear).slots := ⟨Nat.le_refl 0, Nat.le_refl 0⟩
  have hR : ∀ (σ1 : Sg) (H : Heap) (locs : List Loc) (pc : Nat) (ls : Array Slot), decode cX0_clear pc = .ok (.return_, 1) → post σ1 → s_St G σ1 s.heap H locs → W p l e rm_X0_clear s m ([.ref (G.2.2 + k0)] : List Value).toArray below meth c H locs 0 0 (MQ below (va_Qv post (s_B G) (s_A G.2.2)) ([.ref (G.2.2 + k0)] : List Value).toArray s 0 0 (s_A G.2.2)) (F0 m pc ls []) := fun _ _ _ _ _ hd hp S => ret_v C hr hlocks hd hp S
  have hl := lv_entry ([.ref (G.2.2 + k0)]) (n := 1) (Nat.le_of_ble_eq_true rfl)
  rw [lg_entry_eq]
  generalize (lg_sl ([.ref (G.2.2 + k0)]) ++ List.replicate (1 - (lg_sl ([.ref (G.2.2 + k0)])).length) Slot.unset).toArray = ls at hl ⊢
  have hl : lv_has ls 1 [(0, .ref (G.2.2 + k0))] := hl
  unfold wpX0_clear at h
  refine lv_aload_n C.1 C.2.1 dX0_clear_0 rfl (lv_at hl 0 rfl) ?_
  refine lv_iconst (v := (0 : Int32)) C.1 C.2.1 dX0_clear_1 (by decide) ?_
  refine p_X0_1 C fl_X0_15 hk0 S dX0_clear_2 (fun σ1 H locs e2 S => ?_)
  replace h := h σ1 e2
  exact hR _ _ _ _ _ dX0_clear_5 h S
/-! X6_isDigit -/
abbrev rm_X6_isDigit : Room := { frames := 0, cells := 0, slots := 0, locals := 0 }
def wpX6_isDigit (x0 : Int32) (σ : Sg) (post : Int32 → Sg → Prop) : Prop := (((x0 < (48 : Int32)) → post (0 : Int32) σ) ∧ ((¬ x0 < (48 : Int32)) → ((((57 : Int32) < x0) → post (0 : Int32) σ) ∧ ((¬ (57 : Int32) < x0) → post (1 : Int32) σ))))
theorem kM_X6_isDigit : s_M yX6_isDigit cX6_isDigit 1 (some .boolean) 1 := ⟨co_X6_isDigit, in_X6, by decide, by decide, by decide +kernel⟩
set_option maxHeartbeats 4000000 in
set_option maxRecDepth 100000 in
theorem c_X6_isDigit (l : Launch) (G : s_G) (x0 : Int32) (σ : Sg) (post : Int32 → Sg → Prop) (h : wpX6_isDigit x0 σ post) : Met l yX6_isDigit (wsU yX6_isDigit cX6_isDigit 1 (some .boolean)) rm_X6_isDigit (va_Pc [.int x0] (s_Pre G σ)) (va_Qi post (s_B G) (s_A G.2.2)) 0 0 (s_A G.2.2) := by
  refine Met.ofW (cc := cX6_isDigit) (maxL := 1) (ret := (some .boolean)) (by decide) rfl ?_
  intro p e s m args below meth c s₁ B hml hv
  obtain ⟨rfl, hP, hrok, hK, hN⟩ := hv
  have C : s_C G p s (([.int x0] : List Value).toArray) m c RX6 cX6_isDigit := ⟨B.exec, B.bytes, findClass_of_methodNamed B.named, fun w hw => atoms_spec (ws := wsU yX6_isDigit cX6_isDigit 1 (some .boolean)) B.pre w (List.mem_cons_of_mem _ hw), hK, hN⟩
  have hr := B.returns
  have hlocks := B.notSynchronized
  have S : s_St G σ s.heap s.heap [] := ⟨hP, va_S.rf, hrok⟩
  have hcs : 0 ≤ (rm_X6_isDigit).cells ∧ 0 ≤ (rm_X6_isDigit).slots := ⟨Nat.le_refl 0, Nat.le_refl 0⟩
  have hR : ∀ (r : Int32) (σ1 : Sg) (H : Heap) (locs : List Loc) (pc : Nat) (ls : Array Slot), decode cX6_isDigit pc = .ok (.ireturn, 1) → narrow .boolean (.int r) = .int r → post r σ1 → s_St G σ1 s.heap H locs → W p l e rm_X6_isDigit s m ([.int x0] : List Value).toArray below meth c H locs 0 0 (MQ below (va_Qi post (s_B G) (s_A G.2.2)) ([.int x0] : List Value).toArray s 0 0 (s_A G.2.2)) (F0 m pc ls [.int r]) := fun _ _ _ _ _ _ hd hn hp S => ret_z C hr hlocks hd hn hp S
  have hl := lv_entry ([.int x0]) (n := 1) (Nat.le_of_ble_eq_true rfl)
  rw [lg_entry_eq]
  generalize (lg_sl ([.int x0]) ++ List.replicate (1 - (lg_sl ([.int x0])).length) Slot.unset).toArray = ls at hl ⊢
  have hl : lv_has ls 1 [(0, .int x0)] := hl
  unfold wpX6_isDigit at h
  refine lv_iload_n C.1 C.2.1 dX6_isDigit_0 rfl (lv_at hl 0 rfl) ?_
  refine lv_bipush (v := (48 : Int32)) C.1 C.2.1 dX6_isDigit_1 (by decide) ?_
  refine lv_icmp_lt (tgt := 16) C.1 C.2.1 dX6_isDigit_3 (by decide) (fun c1 => ?_) (fun c1 => ?_)
  · replace h := h.1 c1
    refine lv_iconst (v := (0 : Int32)) C.1 C.2.1 dX6_isDigit_16 (by decide) ?_
    exact hR _ _ _ _ _ _ dX6_isDigit_17 rfl h S
  · replace h := h.2 c1
    refine lv_iload_n C.1 C.2.1 dX6_isDigit_6 rfl (lv_at hl 0 rfl) ?_
    refine lv_bipush (v := (57 : Int32)) C.1 C.2.1 dX6_isDigit_7 (by decide) ?_
    refine lv_icmp_gt (tgt := 16) C.1 C.2.1 dX6_isDigit_9 (by decide) (fun c2 => ?_) (fun c2 => ?_)
    · replace h := h.1 c2
      refine lv_iconst (v := (0 : Int32)) C.1 C.2.1 dX6_isDigit_16 (by decide) ?_
      exact hR _ _ _ _ _ _ dX6_isDigit_17 rfl h S
    · replace h := h.2 c2
      refine lv_iconst (v := (1 : Int32)) C.1 C.2.1 dX6_isDigit_12 (by decide) ?_
      refine lv_goto (tgt := 17) C.1 C.2.1 dX6_isDigit_13 (by decide) ?_
      exact hR _ _ _ _ _ _ dX6_isDigit_17 rfl h S
/-! X0_digitsFrom -/
abbrev rm_X0_digitsFrom : Room := { frames := 1, cells := 0, slots := 0, locals := 21 }
def BX0_digitsFrom_2 (k0 : Nat) (x1 : Int32) (post : Int32 → Sg → Prop) : Nat → Int32 → Sg → Prop
  | 0, _, _ => False
  | n + 1, x2, σ => ((((3 : Int32) ≤ x2) → post x2 σ) ∧ ((¬ (3 : Int32) ≤ x2) → wpX0_at k0 ((x1 + x2)) σ (fun r3 σ2 => wpX6_isDigit r3 σ2 (fun r5 σ4 => (((r5 = 0) → post x2 σ4) ∧ ((¬ r5 = 0) → BX0_digitsFrom_2 k0 x1 post n ((x2 + 1)) σ4))))))
def wpX0_digitsFrom (k0 : Nat) (x1 : Int32) (σ : Sg) (post : Int32 → Sg → Prop) : Prop := ∃ nf, BX0_digitsFrom_2 k0 x1 post nf ((0 : Int32)) σ
set_option maxHeartbeats 4000000 in
set_option maxRecDepth 100000 in
theorem TX0_digitsFrom_2 (C : s_C G p s args m c RX0 cX0_digitsFrom) (hml : c.maxLocals = 3) (hcs : cells ≤ (rm_X0_digitsFrom).cells ∧ slots ≤ (rm_X0_digitsFrom).slots) {k0 : Nat} {x1 : Int32} (hk0 : s_kd k0 = 0) {post : Int32 → Sg → Prop} (hR : ∀ (r : Int32) (σ1 : Sg) (H : Heap) (locs : List Loc) (pc : Nat) (ls : Array Slot), decode cX0_digitsFrom pc = .ok (.ireturn, 1) → post r σ1 → s_St G σ1 H0 H locs → W p l e rm_X0_digitsFrom s m args below meth c H locs cells slots Q (F0 m pc ls [.int r])) : ∀ (n : Nat) (x2 : Int32), ∀ {σ : Sg} {H : Heap} {locs : List Loc} {ls : Array Slot}, s_St G σ H0 H locs → lv_has ls 3 [(0, .ref (G.2.2 + k0)), (1, .int x1), (2, .int x2)] → BX0_digitsFrom_2 k0 x1 post n x2 σ → W p l e rm_X0_digitsFrom s m args below meth c H locs cells slots Q (F0 m 2 ls []) := by
  intro n
  induction n with
  | zero =>
    intro x2  σ H locs ls S hl h
    exact absurd h (fun h => h)
  | succ n ih0 =>
    have ih : ∀ (x2 : Int32), ∀ (σ : Sg) (H : Heap) (locs : List Loc) (ls : Array Slot), s_St G σ H0 H locs → lv_has ls 3 [(0, .ref (G.2.2 + k0)), (1, .int x1), (2, .int x2)] → BX0_digitsFrom_2 k0 x1 post n x2 σ → W p l e rm_X0_digitsFrom s m args below meth c H locs cells slots Q (F0 m 2 ls []) := fun x2  _ _ _ _ => ih0 x2 
    intro x2  σ H locs ls S hl h
    refine lv_iload_n C.1 C.2.1 dX0_digitsFrom_2 rfl (lv_at hl 2 rfl) ?_
    refine lv_iconst (v := (3 : Int32)) C.1 C.2.1 dX0_digitsFrom_3 (by decide) ?_
    refine lv_icmp_ge (tgt := 26) C.1 C.2.1 dX0_digitsFrom_4 (by decide) (fun c1 => ?_) (fun c1 => ?_)
    · replace h := h.1 c1
      refine lv_iload_n C.1 C.2.1 dX0_digitsFrom_26 rfl (lv_at hl 2 rfl) ?_
      exact hR _ _ _ _ _ _ dX0_digitsFrom_27 h S
    · replace h := h.2 c1
      refine lv_aload_n C.1 C.2.1 dX0_digitsFrom_7 rfl (lv_at hl 0 rfl) ?_
      refine lv_iload_n C.1 C.2.1 dX0_digitsFrom_8 rfl (lv_at hl 1 rfl) ?_
      refine lv_iload_n C.1 C.2.1 dX0_digitsFrom_9 rfl (lv_at hl 2 rfl) ?_
      refine lv_iadd C.1 C.2.1 dX0_digitsFrom_10 ?_
      refine k_i (r_V (As := [.int (x1 + x2)]) (rest := []) C hml (c_X0_at l G k0 ((x1 + x2)) σ _ hk0 h) kM_X0_at im_X0_at se_X0_at ml_X0_19 ⟨rfl, rfl⟩ ⟨Nat.le_of_ble_eq_true rfl, Nat.le_of_ble_eq_true rfl⟩ hcs S hk0 (by decide) (T := TX0) (N := 2) rfl rfl hl.1 rfl (Nat.le_of_ble_eq_true rfl) dX0_digitsFrom_11) S (fun r3 σ2 H locs h S => ?_)
      refine k_i (r_SN (As := [.int r3]) (rest := []) C hml (c_X6_isDigit l G r3 σ2 _ h) kM_X6_isDigit st_X6_isDigit nm_X0_36 ⟨rfl, rfl⟩ ⟨Nat.le_of_ble_eq_true rfl, Nat.le_of_ble_eq_true rfl⟩ hcs S rfl hl.1 rfl (Nat.le_of_ble_eq_true rfl) dX0_digitsFrom_14) S (fun r5 σ4 H locs h S => ?_)
      refine lv_if_eq (tgt := 26) C.1 C.2.1 dX0_digitsFrom_17 (by decide) (fun c6 => ?_) (fun c6 => ?_)
      · replace h := h.1 c6
        refine lv_iload_n C.1 C.2.1 dX0_digitsFrom_26 rfl (lv_at hl 2 rfl) ?_
        exact hR _ _ _ _ _ _ dX0_digitsFrom_27 h S
      · replace h := h.2 c6
        refine lv_iinc (v := (x2 + 1)) (lv' := [(2, .int (x2 + 1)), (0, .ref (G.2.2 + k0)), (1, .int x1)]) C.1 C.2.1 dX0_digitsFrom_20 hl (k := 2) rfl rfl (by decide) rfl (fun ls hl => ?_)
        refine lv_goto (tgt := 2) C.1 C.2.1 dX0_digitsFrom_23 (by decide) ?_
        exact ih ((x2 + 1)) _ _ _ _ S (lv_sub hl [1, 2, 0] rfl) h
theorem kM_X0_digitsFrom : s_M yX0_digitsFrom cX0_digitsFrom 3 (some .int) 1 := ⟨co_X0_digitsFrom, in_X0, by decide, by decide, by decide +kernel⟩
set_option maxHeartbeats 4000000 in
set_option maxRecDepth 100000 in
theorem c_X0_digitsFrom (l : Launch) (G : s_G) (k0 : Nat) (x1 : Int32) (σ : Sg) (post : Int32 → Sg → Prop) (hk0 : s_kd k0 = 0) (h : wpX0_digitsFrom k0 x1 σ post) : Met l yX0_digitsFrom (wsU yX0_digitsFrom cX0_digitsFrom 3 (some .int)) rm_X0_digitsFrom (va_Pc [.ref (G.2.2 + k0), .int x1] (s_Pre G σ)) (va_Qi post (s_B G) (s_A G.2.2)) 0 0 (s_A G.2.2) := by
  refine Met.ofW (cc := cX0_digitsFrom) (maxL := 3) (ret := (some .int)) (by decide) rfl ?_
  intro p e s m args below meth c s₁ B hml hv
  obtain ⟨rfl, hP, hrok, hK, hN⟩ := hv
  have C : s_C G p s (([.ref (G.2.2 + k0), .int x1] : List Value).toArray) m c RX0 cX0_digitsFrom := ⟨B.exec, B.bytes, findClass_of_methodNamed B.named, fun w hw => atoms_spec (ws := wsU yX0_digitsFrom cX0_digitsFrom 3 (some .int)) B.pre w (List.mem_cons_of_mem _ hw), hK, hN⟩
  have hr := B.returns
  have hlocks := B.notSynchronized
  have S : s_St G σ s.heap s.heap [] := ⟨hP, va_S.rf, hrok⟩
  have hcs : 0 ≤ (rm_X0_digitsFrom).cells ∧ 0 ≤ (rm_X0_digitsFrom).slots := ⟨Nat.le_refl 0, Nat.le_refl 0⟩
  have hR : ∀ (r : Int32) (σ1 : Sg) (H : Heap) (locs : List Loc) (pc : Nat) (ls : Array Slot), decode cX0_digitsFrom pc = .ok (.ireturn, 1) → post r σ1 → s_St G σ1 s.heap H locs → W p l e rm_X0_digitsFrom s m ([.ref (G.2.2 + k0), .int x1] : List Value).toArray below meth c H locs 0 0 (MQ below (va_Qi post (s_B G) (s_A G.2.2)) ([.ref (G.2.2 + k0), .int x1] : List Value).toArray s 0 0 (s_A G.2.2)) (F0 m pc ls [.int r]) := fun _ _ _ _ _ _ hd hp S => ret_i C hr hlocks hd hp S
  have hl := lv_entry ([.ref (G.2.2 + k0), .int x1]) (n := 3) (Nat.le_of_ble_eq_true rfl)
  rw [lg_entry_eq]
  generalize (lg_sl ([.ref (G.2.2 + k0), .int x1]) ++ List.replicate (3 - (lg_sl ([.ref (G.2.2 + k0), .int x1])).length) Slot.unset).toArray = ls at hl ⊢
  have hl : lv_has ls 3 [(0, .ref (G.2.2 + k0)), (1, .int x1)] := hl
  unfold wpX0_digitsFrom at h
  refine lv_iconst (v := (0 : Int32)) C.1 C.2.1 dX0_digitsFrom_0 (by decide) ?_
  refine lv_istore_n (lv' := [(2, .int (0 : Int32)), (0, .ref (G.2.2 + k0)), (1, .int x1)]) C.1 C.2.1 dX0_digitsFrom_1 rfl hl (by decide) rfl (fun ls hl => ?_)
  obtain ⟨nf, h⟩ := h
  exact TX0_digitsFrom_2 C hml hcs hk0 hR nf ((0 : Int32)) S (lv_sub hl [1, 2, 0] rfl) h
/-! X0_lettersMatched -/
abbrev rm_X0_lettersMatched : Room := { frames := 1, cells := 0, slots := 0, locals := 22 }
def BX0_lettersMatched_2 (k0 : Nat) (k1 : Nat) (x2 : Int32) (post : Int32 → Sg → Prop) : Nat → Int32 → Sg → Prop
  | 0, _, _ => False
  | n + 1, x3, σ => wpX3_wordLength k1 σ (fun r2 σ1 => (((r2 ≤ x3) → post x3 σ1) ∧ ((¬ r2 ≤ x3) → wpX0_at k0 ((x2 + x3)) σ1 (fun r5 σ4 => wpX3_letter k1 x3 σ4 (fun r7 σ6 => (((¬ r5 = r7) → post x3 σ6) ∧ ((r5 = r7) → BX0_lettersMatched_2 k0 k1 x2 post n ((x3 + 1)) σ6)))))))
def wpX0_lettersMatched (k0 : Nat) (k1 : Nat) (x2 : Int32) (σ : Sg) (post : Int32 → Sg → Prop) : Prop := ∃ nf, BX0_lettersMatched_2 k0 k1 x2 post nf ((0 : Int32)) σ
set_option maxHeartbeats 4000000 in
set_option maxRecDepth 100000 in
theorem TX0_lettersMatched_2 (C : s_C G p s args m c RX0 cX0_lettersMatched) (hml : c.maxLocals = 4) (hcs : cells ≤ (rm_X0_lettersMatched).cells ∧ slots ≤ (rm_X0_lettersMatched).slots) {k0 : Nat} {k1 : Nat} {x2 : Int32} (hk0 : s_kd k0 = 0) (hk1 : s_kd k1 = 3) {post : Int32 → Sg → Prop} (hR : ∀ (r : Int32) (σ1 : Sg) (H : Heap) (locs : List Loc) (pc : Nat) (ls : Array Slot), decode cX0_lettersMatched pc = .ok (.ireturn, 1) → post r σ1 → s_St G σ1 H0 H locs → W p l e rm_X0_lettersMatched s m args below meth c H locs cells slots Q (F0 m pc ls [.int r])) : ∀ (n : Nat) (x3 : Int32), ∀ {σ : Sg} {H : Heap} {locs : List Loc} {ls : Array Slot}, s_St G σ H0 H locs → lv_has ls 4 [(0, .ref (G.2.2 + k0)), (1, .ref (G.2.2 + k1)), (2, .int x2), (3, .int x3)] → BX0_lettersMatched_2 k0 k1 x2 post n x3 σ → W p l e rm_X0_lettersMatched s m args below meth c H locs cells slots Q (F0 m 2 ls []) := by
  intro n
  induction n with
  | zero =>
    intro x3  σ H locs ls S hl h
    exact absurd h (fun h => h)
  | succ n ih0 =>
    have ih : ∀ (x3 : Int32), ∀ (σ : Sg) (H : Heap) (locs : List Loc) (ls : Array Slot), s_St G σ H0 H locs → lv_has ls 4 [(0, .ref (G.2.2 + k0)), (1, .ref (G.2.2 + k1)), (2, .int x2), (3, .int x3)] → BX0_lettersMatched_2 k0 k1 x2 post n x3 σ → W p l e rm_X0_lettersMatched s m args below meth c H locs cells slots Q (F0 m 2 ls []) := fun x3  _ _ _ _ => ih0 x3 
    intro x3  σ H locs ls S hl h
    refine lv_iload_n C.1 C.2.1 dX0_lettersMatched_2 rfl (lv_at hl 3 rfl) ?_
    refine lv_aload_n C.1 C.2.1 dX0_lettersMatched_3 rfl (lv_at hl 1 rfl) ?_
    refine k_i (r_VN (As := []) (rest := [.int x3]) C hml (c_X3_wordLength l G k1 σ _ hk1 h) kM_X3_wordLength im_X3_wordLength se_X3_wordLength nm_X0_27 ⟨rfl, rfl⟩ ⟨Nat.le_of_ble_eq_true rfl, Nat.le_of_ble_eq_true rfl⟩ hcs S hk1 (by decide) (T := TX3) (N := 6) rfl rfl hl.1 rfl (Nat.le_of_ble_eq_true rfl) dX0_lettersMatched_4) S (fun r2 σ1 H locs h S => ?_)
    refine lv_icmp_ge (tgt := 31) C.1 C.2.1 dX0_lettersMatched_7 (by decide) (fun c3 => ?_) (fun c3 => ?_)
    · replace h := h.1 c3
      refine lv_iload_n C.1 C.2.1 dX0_lettersMatched_31 rfl (lv_at hl 3 rfl) ?_
      exact hR _ _ _ _ _ _ dX0_lettersMatched_32 h S
    · replace h := h.2 c3
      refine lv_aload_n C.1 C.2.1 dX0_lettersMatched_10 rfl (lv_at hl 0 rfl) ?_
      refine lv_iload_n C.1 C.2.1 dX0_lettersMatched_11 rfl (lv_at hl 2 rfl) ?_
      refine lv_iload_n C.1 C.2.1 dX0_lettersMatched_12 rfl (lv_at hl 3 rfl) ?_
      refine lv_iadd C.1 C.2.1 dX0_lettersMatched_13 ?_
      refine k_i (r_V (As := [.int (x2 + x3)]) (rest := []) C hml (c_X0_at l G k0 ((x2 + x3)) σ1 _ hk0 h) kM_X0_at im_X0_at se_X0_at ml_X0_19 ⟨rfl, rfl⟩ ⟨Nat.le_of_ble_eq_true rfl, Nat.le_of_ble_eq_true rfl⟩ hcs S hk0 (by decide) (T := TX0) (N := 2) rfl rfl hl.1 rfl (Nat.le_of_ble_eq_true rfl) dX0_lettersMatched_14) S (fun r5 σ4 H locs h S => ?_)
      refine lv_aload_n C.1 C.2.1 dX0_lettersMatched_17 rfl (lv_at hl 1 rfl) ?_
      refine lv_iload_n C.1 C.2.1 dX0_lettersMatched_18 rfl (lv_at hl 3 rfl) ?_
      refine k_i (r_VN (As := [.int x3]) (rest := [.int r5]) C hml (c_X3_letter l G k1 x3 σ4 _ hk1 h) kM_X3_letter im_X3_letter se_X3_letter nm_X0_33 ⟨rfl, rfl⟩ ⟨Nat.le_of_ble_eq_true rfl, Nat.le_of_ble_eq_true rfl⟩ hcs S hk1 (by decide) (T := TX3) (N := 6) rfl rfl hl.1 rfl (Nat.le_of_ble_eq_true rfl) dX0_lettersMatched_19) S (fun r7 σ6 H locs h S => ?_)
      refine lv_icmp_ne (tgt := 31) C.1 C.2.1 dX0_lettersMatched_22 (by decide) (fun c8 => ?_) (fun c8 => ?_)
      · replace h := h.1 c8
        refine lv_iload_n C.1 C.2.1 dX0_lettersMatched_31 rfl (lv_at hl 3 rfl) ?_
        exact hR _ _ _ _ _ _ dX0_lettersMatched_32 h S
      · replace h := h.2 c8
        refine lv_iinc (v := (x3 + 1)) (lv' := [(3, .int (x3 + 1)), (0, .ref (G.2.2 + k0)), (1, .ref (G.2.2 + k1)), (2, .int x2)]) C.1 C.2.1 dX0_lettersMatched_25 hl (k := 3) rfl rfl (by decide) rfl (fun ls hl => ?_)
        refine lv_goto (tgt := 2) C.1 C.2.1 dX0_lettersMatched_28 (by decide) ?_
        exact ih ((x3 + 1)) _ _ _ _ S (lv_sub hl [1, 2, 3, 0] rfl) h
theorem kM_X0_lettersMatched : s_M yX0_lettersMatched cX0_lettersMatched 4 (some .int) 2 := ⟨co_X0_lettersMatched, in_X0, by decide, by decide, by decide +kernel⟩
set_option maxHeartbeats 4000000 in
set_option maxRecDepth 100000 in
theorem c_X0_lettersMatched (l : Launch) (G : s_G) (k0 : Nat) (k1 : Nat) (x2 : Int32) (σ : Sg) (post : Int32 → Sg → Prop) (hk0 : s_kd k0 = 0) (hk1 : s_kd k1 = 3) (h : wpX0_lettersMatched k0 k1 x2 σ post) : Met l yX0_lettersMatched (wsU yX0_lettersMatched cX0_lettersMatched 4 (some .int)) rm_X0_lettersMatched (va_Pc [.ref (G.2.2 + k0), .ref (G.2.2 + k1), .int x2] (s_Pre G σ)) (va_Qi post (s_B G) (s_A G.2.2)) 0 0 (s_A G.2.2) := by
  refine Met.ofW (cc := cX0_lettersMatched) (maxL := 4) (ret := (some .int)) (by decide) rfl ?_
  intro p e s m args below meth c s₁ B hml hv
  obtain ⟨rfl, hP, hrok, hK, hN⟩ := hv
  have C : s_C G p s (([.ref (G.2.2 + k0), .ref (G.2.2 + k1), .int x2] : List Value).toArray) m c RX0 cX0_lettersMatched := ⟨B.exec, B.bytes, findClass_of_methodNamed B.named, fun w hw => atoms_spec (ws := wsU yX0_lettersMatched cX0_lettersMatched 4 (some .int)) B.pre w (List.mem_cons_of_mem _ hw), hK, hN⟩
  have hr := B.returns
  have hlocks := B.notSynchronized
  have S : s_St G σ s.heap s.heap [] := ⟨hP, va_S.rf, hrok⟩
  have hcs : 0 ≤ (rm_X0_lettersMatched).cells ∧ 0 ≤ (rm_X0_lettersMatched).slots := ⟨Nat.le_refl 0, Nat.le_refl 0⟩
  have hR : ∀ (r : Int32) (σ1 : Sg) (H : Heap) (locs : List Loc) (pc : Nat) (ls : Array Slot), decode cX0_lettersMatched pc = .ok (.ireturn, 1) → post r σ1 → s_St G σ1 s.heap H locs → W p l e rm_X0_lettersMatched s m ([.ref (G.2.2 + k0), .ref (G.2.2 + k1), .int x2] : List Value).toArray below meth c H locs 0 0 (MQ below (va_Qi post (s_B G) (s_A G.2.2)) ([.ref (G.2.2 + k0), .ref (G.2.2 + k1), .int x2] : List Value).toArray s 0 0 (s_A G.2.2)) (F0 m pc ls [.int r]) := fun _ _ _ _ _ _ hd hp S => ret_i C hr hlocks hd hp S
  have hl := lv_entry ([.ref (G.2.2 + k0), .ref (G.2.2 + k1), .int x2]) (n := 4) (Nat.le_of_ble_eq_true rfl)
  rw [lg_entry_eq]
  generalize (lg_sl ([.ref (G.2.2 + k0), .ref (G.2.2 + k1), .int x2]) ++ List.replicate (4 - (lg_sl ([.ref (G.2.2 + k0), .ref (G.2.2 + k1), .int x2])).length) Slot.unset).toArray = ls at hl ⊢
  have hl : lv_has ls 4 [(0, .ref (G.2.2 + k0)), (1, .ref (G.2.2 + k1)), (2, .int x2)] := hl
  unfold wpX0_lettersMatched at h
  refine lv_iconst (v := (0 : Int32)) C.1 C.2.1 dX0_lettersMatched_0 (by decide) ?_
  refine lv_istore_n (lv' := [(3, .int (0 : Int32)), (0, .ref (G.2.2 + k0)), (1, .ref (G.2.2 + k1)), (2, .int x2)]) C.1 C.2.1 dX0_lettersMatched_1 rfl hl (by decide) rfl (fun ls hl => ?_)
  obtain ⟨nf, h⟩ := h
  exact TX0_lettersMatched_2 C hml hcs hk0 hk1 hR nf ((0 : Int32)) S (lv_sub hl [1, 2, 3, 0] rfl) h
/-! X6_isCapital -/
abbrev rm_X6_isCapital : Room := { frames := 0, cells := 0, slots := 0, locals := 0 }
def wpX6_isCapital (x0 : Int32) (σ : Sg) (post : Int32 → Sg → Prop) : Prop := (((x0 < (65 : Int32)) → post (0 : Int32) σ) ∧ ((¬ x0 < (65 : Int32)) → ((((90 : Int32) < x0) → post (0 : Int32) σ) ∧ ((¬ (90 : Int32) < x0) → post (1 : Int32) σ))))
theorem kM_X6_isCapital : s_M yX6_isCapital cX6_isCapital 1 (some .boolean) 1 := ⟨co_X6_isCapital, in_X6, by decide, by decide, by decide +kernel⟩
set_option maxHeartbeats 4000000 in
set_option maxRecDepth 100000 in
theorem c_X6_isCapital (l : Launch) (G : s_G) (x0 : Int32) (σ : Sg) (post : Int32 → Sg → Prop) (h : wpX6_isCapital x0 σ post) : Met l yX6_isCapital (wsU yX6_isCapital cX6_isCapital 1 (some .boolean)) rm_X6_isCapital (va_Pc [.int x0] (s_Pre G σ)) (va_Qi post (s_B G) (s_A G.2.2)) 0 0 (s_A G.2.2) := by
  refine Met.ofW (cc := cX6_isCapital) (maxL := 1) (ret := (some .boolean)) (by decide) rfl ?_
  intro p e s m args below meth c s₁ B hml hv
  obtain ⟨rfl, hP, hrok, hK, hN⟩ := hv
  have C : s_C G p s (([.int x0] : List Value).toArray) m c RX6 cX6_isCapital := ⟨B.exec, B.bytes, findClass_of_methodNamed B.named, fun w hw => atoms_spec (ws := wsU yX6_isCapital cX6_isCapital 1 (some .boolean)) B.pre w (List.mem_cons_of_mem _ hw), hK, hN⟩
  have hr := B.returns
  have hlocks := B.notSynchronized
  have S : s_St G σ s.heap s.heap [] := ⟨hP, va_S.rf, hrok⟩
  have hcs : 0 ≤ (rm_X6_isCapital).cells ∧ 0 ≤ (rm_X6_isCapital).slots := ⟨Nat.le_refl 0, Nat.le_refl 0⟩
  have hR : ∀ (r : Int32) (σ1 : Sg) (H : Heap) (locs : List Loc) (pc : Nat) (ls : Array Slot), decode cX6_isCapital pc = .ok (.ireturn, 1) → narrow .boolean (.int r) = .int r → post r σ1 → s_St G σ1 s.heap H locs → W p l e rm_X6_isCapital s m ([.int x0] : List Value).toArray below meth c H locs 0 0 (MQ below (va_Qi post (s_B G) (s_A G.2.2)) ([.int x0] : List Value).toArray s 0 0 (s_A G.2.2)) (F0 m pc ls [.int r]) := fun _ _ _ _ _ _ hd hn hp S => ret_z C hr hlocks hd hn hp S
  have hl := lv_entry ([.int x0]) (n := 1) (Nat.le_of_ble_eq_true rfl)
  rw [lg_entry_eq]
  generalize (lg_sl ([.int x0]) ++ List.replicate (1 - (lg_sl ([.int x0])).length) Slot.unset).toArray = ls at hl ⊢
  have hl : lv_has ls 1 [(0, .int x0)] := hl
  unfold wpX6_isCapital at h
  refine lv_iload_n C.1 C.2.1 dX6_isCapital_0 rfl (lv_at hl 0 rfl) ?_
  refine lv_bipush (v := (65 : Int32)) C.1 C.2.1 dX6_isCapital_1 (by decide) ?_
  refine lv_icmp_lt (tgt := 16) C.1 C.2.1 dX6_isCapital_3 (by decide) (fun c1 => ?_) (fun c1 => ?_)
  · replace h := h.1 c1
    refine lv_iconst (v := (0 : Int32)) C.1 C.2.1 dX6_isCapital_16 (by decide) ?_
    exact hR _ _ _ _ _ _ dX6_isCapital_17 rfl h S
  · replace h := h.2 c1
    refine lv_iload_n C.1 C.2.1 dX6_isCapital_6 rfl (lv_at hl 0 rfl) ?_
    refine lv_bipush (v := (90 : Int32)) C.1 C.2.1 dX6_isCapital_7 (by decide) ?_
    refine lv_icmp_gt (tgt := 16) C.1 C.2.1 dX6_isCapital_9 (by decide) (fun c2 => ?_) (fun c2 => ?_)
    · replace h := h.1 c2
      refine lv_iconst (v := (0 : Int32)) C.1 C.2.1 dX6_isCapital_16 (by decide) ?_
      exact hR _ _ _ _ _ _ dX6_isCapital_17 rfl h S
    · replace h := h.2 c2
      refine lv_iconst (v := (1 : Int32)) C.1 C.2.1 dX6_isCapital_12 (by decide) ?_
      refine lv_goto (tgt := 17) C.1 C.2.1 dX6_isCapital_13 (by decide) ?_
      exact hR _ _ _ _ _ _ dX6_isCapital_17 rfl h S
/-! X0_endOf -/
abbrev rm_X0_endOf : Room := { frames := 2, cells := 0, slots := 0, locals := 45 }
def wpX0_endOf (k0 : Nat) (k1 : Nat) (x2 : Int32) (σ : Sg) (post : Int32 → Sg → Prop) : Prop := wpX3_wordLength k1 σ (fun r2 σ1 => wpX0_lettersMatched k0 k1 x2 σ1 (fun r4 σ3 => wpX3_wordLength k1 σ3 (fun r6 σ5 => (((r6 ≤ r4) → (((¬ (σ5.1 k1 1) = (1 : Int32)) → (((¬ (σ5.1 k1 1) = (2 : Int32)) → post ((x2 + r2)) σ5) ∧ (((σ5.1 k1 1) = (2 : Int32)) → wpX0_at k0 ((x2 + r2)) σ5 (fun r11 σ10 => wpX6_isCapital r11 σ10 (fun r13 σ12 => (((r13 = 0) → post ((-9 : Int32)) σ12) ∧ ((¬ r13 = 0) → post (((x2 + r2) + (1 : Int32))) σ12))))))) ∧ (((σ5.1 k1 1) = (1 : Int32)) → wpX0_digitsFrom k0 ((x2 + r2)) σ5 (fun r16 σ15 => (((r16 ≤ 0) → post ((-9 : Int32)) σ15) ∧ ((¬ r16 ≤ 0) → post (((x2 + r2) + r16)) σ15)))))) ∧ ((¬ r6 ≤ r4) → post ((-9 : Int32)) σ5)))))
theorem kM_X0_endOf : s_M yX0_endOf cX0_endOf 5 (some .int) 2 := ⟨co_X0_endOf, in_X0, by decide, by decide, by decide +kernel⟩
set_option maxHeartbeats 4000000 in
set_option maxRecDepth 100000 in
theorem c_X0_endOf (l : Launch) (G : s_G) (k0 : Nat) (k1 : Nat) (x2 : Int32) (σ : Sg) (post : Int32 → Sg → Prop) (hk0 : s_kd k0 = 0) (hk1 : s_kd k1 = 3) (h : wpX0_endOf k0 k1 x2 σ post) : Met l yX0_endOf (wsU yX0_endOf cX0_endOf 5 (some .int)) rm_X0_endOf (va_Pc [.ref (G.2.2 + k0), .ref (G.2.2 + k1), .int x2] (s_Pre G σ)) (va_Qi post (s_B G) (s_A G.2.2)) 0 0 (s_A G.2.2) := by
  refine Met.ofW (cc := cX0_endOf) (maxL := 5) (ret := (some .int)) (by decide) rfl ?_
  intro p e s m args below meth c s₁ B hml hv
  obtain ⟨rfl, hP, hrok, hK, hN⟩ := hv
  have C : s_C G p s (([.ref (G.2.2 + k0), .ref (G.2.2 + k1), .int x2] : List Value).toArray) m c RX0 cX0_endOf := ⟨B.exec, B.bytes, findClass_of_methodNamed B.named, fun w hw => atoms_spec (ws := wsU yX0_endOf cX0_endOf 5 (some .int)) B.pre w (List.mem_cons_of_mem _ hw), hK, hN⟩
  have hr := B.returns
  have hlocks := B.notSynchronized
  have S : s_St G σ s.heap s.heap [] := ⟨hP, va_S.rf, hrok⟩
  have hcs : 0 ≤ (rm_X0_endOf).cells ∧ 0 ≤ (rm_X0_endOf).slots := ⟨Nat.le_refl 0, Nat.le_refl 0⟩
  have hR : ∀ (r : Int32) (σ1 : Sg) (H : Heap) (locs : List Loc) (pc : Nat) (ls : Array Slot), decode cX0_endOf pc = .ok (.ireturn, 1) → post r σ1 → s_St G σ1 s.heap H locs → W p l e rm_X0_endOf s m ([.ref (G.2.2 + k0), .ref (G.2.2 + k1), .int x2] : List Value).toArray below meth c H locs 0 0 (MQ below (va_Qi post (s_B G) (s_A G.2.2)) ([.ref (G.2.2 + k0), .ref (G.2.2 + k1), .int x2] : List Value).toArray s 0 0 (s_A G.2.2)) (F0 m pc ls [.int r]) := fun _ _ _ _ _ _ hd hp S => ret_i C hr hlocks hd hp S
  have hl := lv_entry ([.ref (G.2.2 + k0), .ref (G.2.2 + k1), .int x2]) (n := 5) (Nat.le_of_ble_eq_true rfl)
  rw [lg_entry_eq]
  generalize (lg_sl ([.ref (G.2.2 + k0), .ref (G.2.2 + k1), .int x2]) ++ List.replicate (5 - (lg_sl ([.ref (G.2.2 + k0), .ref (G.2.2 + k1), .int x2])).length) Slot.unset).toArray = ls at hl ⊢
  have hl : lv_has ls 5 [(0, .ref (G.2.2 + k0)), (1, .ref (G.2.2 + k1)), (2, .int x2)] := hl
  unfold wpX0_endOf at h
  refine lv_iload_n C.1 C.2.1 dX0_endOf_0 rfl (lv_at hl 2 rfl) ?_
  refine lv_aload_n C.1 C.2.1 dX0_endOf_1 rfl (lv_at hl 1 rfl) ?_
  refine k_i (r_VN (As := []) (rest := [.int x2]) C hml (c_X3_wordLength l G k1 σ _ hk1 h) kM_X3_wordLength im_X3_wordLength se_X3_wordLength nm_X0_27 ⟨rfl, rfl⟩ ⟨Nat.le_of_ble_eq_true rfl, Nat.le_of_ble_eq_true rfl⟩ hcs S hk1 (by decide) (T := TX3) (N := 6) rfl rfl hl.1 rfl (Nat.le_of_ble_eq_true rfl) dX0_endOf_2) S (fun r2 σ1 H locs h S => ?_)
  refine lv_iadd C.1 C.2.1 dX0_endOf_5 ?_
  refine lv_istore_n (lv' := [(3, .int (x2 + r2)), (0, .ref (G.2.2 + k0)), (1, .ref (G.2.2 + k1)), (2, .int x2)]) C.1 C.2.1 dX0_endOf_6 rfl hl (by decide) rfl (fun ls hl => ?_)
  refine lv_aload_n C.1 C.2.1 dX0_endOf_7 rfl (lv_at hl 1 rfl) ?_
  refine lv_aload_n C.1 C.2.1 dX0_endOf_8 rfl (lv_at hl 2 rfl) ?_
  refine lv_iload_n C.1 C.2.1 dX0_endOf_9 rfl (lv_at hl 3 rfl) ?_
  refine k_i (r_V (As := [.ref (G.2.2 + k1), .int x2]) (rest := []) C hml (c_X0_lettersMatched l G k0 k1 x2 σ1 _ hk0 hk1 h) kM_X0_lettersMatched im_X0_lettersMatched se_X0_lettersMatched ml_X0_39 ⟨rfl, rfl⟩ ⟨Nat.le_of_ble_eq_true rfl, Nat.le_of_ble_eq_true rfl⟩ hcs S hk0 (by decide) (T := TX0) (N := 2) rfl rfl hl.1 rfl (Nat.le_of_ble_eq_true rfl) dX0_endOf_10) S (fun r4 σ3 H locs h S => ?_)
  refine lv_aload_n C.1 C.2.1 dX0_endOf_13 rfl (lv_at hl 2 rfl) ?_
  refine k_i (r_VN (As := []) (rest := [.int r4]) C hml (c_X3_wordLength l G k1 σ3 _ hk1 h) kM_X3_wordLength im_X3_wordLength se_X3_wordLength nm_X0_27 ⟨rfl, rfl⟩ ⟨Nat.le_of_ble_eq_true rfl, Nat.le_of_ble_eq_true rfl⟩ hcs S hk1 (by decide) (T := TX3) (N := 6) rfl rfl hl.1 rfl (Nat.le_of_ble_eq_true rfl) dX0_endOf_14) S (fun r6 σ5 H locs h S => ?_)
  refine lv_icmp_ge (tgt := 23) C.1 C.2.1 dX0_endOf_17 (by decide) (fun c7 => ?_) (fun c7 => ?_)
  · replace h := h.1 c7
    refine lv_aload_n C.1 C.2.1 dX0_endOf_23 rfl (lv_at hl 2 rfl) ?_
    refine gn_X3_1 C nf_X0_43 hk1 S dX0_endOf_24 ?_
    refine lv_iconst (v := (1 : Int32)) C.1 C.2.1 dX0_endOf_27 (by decide) ?_
    refine lv_icmp_ne (tgt := 53) C.1 C.2.1 dX0_endOf_28 (by decide) (fun c8 => ?_) (fun c8 => ?_)
    · replace h := h.1 c8
      refine lv_aload_n C.1 C.2.1 dX0_endOf_53 rfl (lv_at hl 2 rfl) ?_
      refine gn_X3_1 C nf_X0_43 hk1 S dX0_endOf_54 ?_
      refine lv_iconst (v := (2 : Int32)) C.1 C.2.1 dX0_endOf_57 (by decide) ?_
      refine lv_icmp_ne (tgt := 81) C.1 C.2.1 dX0_endOf_58 (by decide) (fun c9 => ?_) (fun c9 => ?_)
      · replace h := h.1 c9
        refine lv_iload_n C.1 C.2.1 dX0_endOf_81 rfl (lv_at hl 0 rfl) ?_
        exact hR _ _ _ _ _ _ dX0_endOf_82 h S
      · replace h := h.2 c9
        refine lv_aload_n C.1 C.2.1 dX0_endOf_61 rfl (lv_at hl 1 rfl) ?_
        refine lv_iload_n C.1 C.2.1 dX0_endOf_62 rfl (lv_at hl 0 rfl) ?_
        refine k_i (r_V (As := [.int (x2 + r2)]) (rest := []) C hml (c_X0_at l G k0 ((x2 + r2)) σ5 _ hk0 h) kM_X0_at im_X0_at se_X0_at ml_X0_19 ⟨rfl, rfl⟩ ⟨Nat.le_of_ble_eq_true rfl, Nat.le_of_ble_eq_true rfl⟩ hcs S hk0 (by decide) (T := TX0) (N := 2) rfl rfl hl.1 rfl (Nat.le_of_ble_eq_true rfl) dX0_endOf_63) S (fun r11 σ10 H locs h S => ?_)
        refine k_i (r_SN (As := [.int r11]) (rest := []) C hml (c_X6_isCapital l G r11 σ10 _ h) kM_X6_isCapital st_X6_isCapital nm_X0_49 ⟨rfl, rfl⟩ ⟨Nat.le_of_ble_eq_true rfl, Nat.le_of_ble_eq_true rfl⟩ hcs S rfl hl.1 rfl (Nat.le_of_ble_eq_true rfl) dX0_endOf_66) S (fun r13 σ12 H locs h S => ?_)
        refine lv_if_eq (tgt := 78) C.1 C.2.1 dX0_endOf_69 (by decide) (fun c14 => ?_) (fun c14 => ?_)
        · replace h := h.1 c14
          refine lv_bipush (v := (-9 : Int32)) C.1 C.2.1 dX0_endOf_78 (by decide) ?_
          exact hR _ _ _ _ _ _ dX0_endOf_80 h S
        · replace h := h.2 c14
          refine lv_iload_n C.1 C.2.1 dX0_endOf_72 rfl (lv_at hl 0 rfl) ?_
          refine lv_iconst (v := (1 : Int32)) C.1 C.2.1 dX0_endOf_73 (by decide) ?_
          refine lv_iadd C.1 C.2.1 dX0_endOf_74 ?_
          refine lv_goto (tgt := 80) C.1 C.2.1 dX0_endOf_75 (by decide) ?_
          exact hR _ _ _ _ _ _ dX0_endOf_80 h S
    · replace h := h.2 c8
      refine lv_aload_n C.1 C.2.1 dX0_endOf_31 rfl (lv_at hl 1 rfl) ?_
      refine lv_iload_n C.1 C.2.1 dX0_endOf_32 rfl (lv_at hl 0 rfl) ?_
      refine k_i (r_V (As := [.int (x2 + r2)]) (rest := []) C hml (c_X0_digitsFrom l G k0 ((x2 + r2)) σ5 _ hk0 h) kM_X0_digitsFrom im_X0_digitsFrom se_X0_digitsFrom ml_X0_46 ⟨rfl, rfl⟩ ⟨Nat.le_of_ble_eq_true rfl, Nat.le_of_ble_eq_true rfl⟩ hcs S hk0 (by decide) (T := TX0) (N := 2) rfl rfl hl.1 rfl (Nat.le_of_ble_eq_true rfl) dX0_endOf_33) S (fun r16 σ15 H locs h S => ?_)
      refine lv_istore (lv' := [(4, .int r16), (3, .int (x2 + r2)), (0, .ref (G.2.2 + k0)), (1, .ref (G.2.2 + k1)), (2, .int x2)]) C.1 C.2.1 dX0_endOf_36 hl (by decide) rfl (fun ls hl => ?_)
      refine lv_iload C.1 C.2.1 dX0_endOf_38 (lv_at hl 0 rfl) ?_
      refine lv_if_le (tgt := 50) C.1 C.2.1 dX0_endOf_40 (by decide) (fun c17 => ?_) (fun c17 => ?_)
      · replace h := h.1 c17
        refine lv_bipush (v := (-9 : Int32)) C.1 C.2.1 dX0_endOf_50 (by decide) ?_
        exact hR _ _ _ _ _ _ dX0_endOf_52 h S
      · replace h := h.2 c17
        refine lv_iload_n C.1 C.2.1 dX0_endOf_43 rfl (lv_at hl 1 rfl) ?_
        refine lv_iload C.1 C.2.1 dX0_endOf_44 (lv_at hl 0 rfl) ?_
        refine lv_iadd C.1 C.2.1 dX0_endOf_46 ?_
        refine lv_goto (tgt := 52) C.1 C.2.1 dX0_endOf_47 (by decide) ?_
        exact hR _ _ _ _ _ _ dX0_endOf_52 h S
  · replace h := h.2 c7
    refine lv_bipush (v := (-9 : Int32)) C.1 C.2.1 dX0_endOf_20 (by decide) ?_
    exact hR _ _ _ _ _ _ dX0_endOf_22 h S
/-! X0_numberIn -/
abbrev rm_X0_numberIn : Room := { frames := 1, cells := 0, slots := 0, locals := 21 }
def BX0_numberIn_23 (k0 : Nat) (k1 : Nat) (x2 : Int32) (x3 : Int32) (post : Int32 → Sg → Prop) : Nat → Int32 → Int32 → Sg → Prop
  | 0, _, _, _ => False
  | n + 1, x5, x6, σ => (((x3 ≤ x6) → post x5 σ) ∧ ((¬ x3 ≤ x6) → ((((σ.1 k0 1) ≤ x6) → post x5 σ) ∧ ((¬ (σ.1 k0 1) ≤ x6) → wpX0_at k0 x6 σ (fun r4 σ3 => BX0_numberIn_23 k0 k1 x2 x3 post n (((((10 : Int32) * x5) + r4) - (48 : Int32))) ((x6 + 1)) σ3)))))
def wpX0_numberIn (k0 : Nat) (k1 : Nat) (x2 : Int32) (x3 : Int32) (σ : Sg) (post : Int32 → Sg → Prop) : Prop := wpX3_wordLength k1 σ (fun r6 σ5 => (((¬ (σ5.1 k1 1) = (1 : Int32)) → (((¬ (σ5.1 k1 1) = (2 : Int32)) → post ((1 : Int32)) σ5) ∧ (((σ5.1 k1 1) = (2 : Int32)) → wpX0_at k0 ((x2 + r6)) σ5 (fun r10 σ9 => post ((r10 - (65 : Int32))) σ9)))) ∧ (((σ5.1 k1 1) = (1 : Int32)) → ∃ nf, BX0_numberIn_23 k0 k1 x2 x3 post nf ((0 : Int32)) ((x2 + r6)) σ5)))
set_option maxHeartbeats 4000000 in
set_option maxRecDepth 100000 in
theorem TX0_numberIn_23 (C : s_C G p s args m c RX0 cX0_numberIn) (hml : c.maxLocals = 7) (hcs : cells ≤ (rm_X0_numberIn).cells ∧ slots ≤ (rm_X0_numberIn).slots) {k0 : Nat} {k1 : Nat} {x2 : Int32} {x3 : Int32} (hk0 : s_kd k0 = 0) (hk1 : s_kd k1 = 3) {post : Int32 → Sg → Prop} (hR : ∀ (r : Int32) (σ1 : Sg) (H : Heap) (locs : List Loc) (pc : Nat) (ls : Array Slot), decode cX0_numberIn pc = .ok (.ireturn, 1) → post r σ1 → s_St G σ1 H0 H locs → W p l e rm_X0_numberIn s m args below meth c H locs cells slots Q (F0 m pc ls [.int r])) : ∀ (n : Nat) (x5 : Int32) (x6 : Int32), ∀ {σ : Sg} {H : Heap} {locs : List Loc} {ls : Array Slot}, s_St G σ H0 H locs → lv_has ls 7 [(0, .ref (G.2.2 + k0)), (3, .int x3), (5, .int x5), (6, .int x6)] → BX0_numberIn_23 k0 k1 x2 x3 post n x5 x6 σ → W p l e rm_X0_numberIn s m args below meth c H locs cells slots Q (F0 m 23 ls []) := by
  intro n
  induction n with
  | zero =>
    intro x5 x6  σ H locs ls S hl h
    exact absurd h (fun h => h)
  | succ n ih0 =>
    have ih : ∀ (x5 : Int32) (x6 : Int32), ∀ (σ : Sg) (H : Heap) (locs : List Loc) (ls : Array Slot), s_St G σ H0 H locs → lv_has ls 7 [(0, .ref (G.2.2 + k0)), (3, .int x3), (5, .int x5), (6, .int x6)] → BX0_numberIn_23 k0 k1 x2 x3 post n x5 x6 σ → W p l e rm_X0_numberIn s m args below meth c H locs cells slots Q (F0 m 23 ls []) := fun x5 x6  _ _ _ _ => ih0 x5 x6 
    intro x5 x6  σ H locs ls S hl h
    refine lv_iload C.1 C.2.1 dX0_numberIn_23 (lv_at hl 3 rfl) ?_
    refine lv_iload_n C.1 C.2.1 dX0_numberIn_25 rfl (lv_at hl 1 rfl) ?_
    refine lv_icmp_ge (tgt := 61) C.1 C.2.1 dX0_numberIn_26 (by decide) (fun c1 => ?_) (fun c1 => ?_)
    · replace h := h.1 c1
      refine lv_iload C.1 C.2.1 dX0_numberIn_61 (lv_at hl 2 rfl) ?_
      exact hR _ _ _ _ _ _ dX0_numberIn_63 h S
    · replace h := h.2 c1
      refine lv_iload C.1 C.2.1 dX0_numberIn_29 (lv_at hl 3 rfl) ?_
      refine lv_aload_n C.1 C.2.1 dX0_numberIn_31 rfl (lv_at hl 0 rfl) ?_
      refine g_X0_1 C fl_X0_15 hk0 S dX0_numberIn_32 ?_
      refine lv_icmp_ge (tgt := 61) C.1 C.2.1 dX0_numberIn_35 (by decide) (fun c2 => ?_) (fun c2 => ?_)
      · replace h := h.1 c2
        refine lv_iload C.1 C.2.1 dX0_numberIn_61 (lv_at hl 2 rfl) ?_
        exact hR _ _ _ _ _ _ dX0_numberIn_63 h S
      · replace h := h.2 c2
        refine lv_bipush (v := (10 : Int32)) C.1 C.2.1 dX0_numberIn_38 (by decide) ?_
        refine lv_iload C.1 C.2.1 dX0_numberIn_40 (lv_at hl 2 rfl) ?_
        refine lv_imul C.1 C.2.1 dX0_numberIn_42 ?_
        refine lv_aload_n C.1 C.2.1 dX0_numberIn_43 rfl (lv_at hl 0 rfl) ?_
        refine lv_iload C.1 C.2.1 dX0_numberIn_44 (lv_at hl 3 rfl) ?_
        refine k_i (r_V (As := [.int x6]) (rest := [.int ((10 : Int32) * x5)]) C hml (c_X0_at l G k0 x6 σ _ hk0 h) kM_X0_at im_X0_at se_X0_at ml_X0_19 ⟨rfl, rfl⟩ ⟨Nat.le_of_ble_eq_true rfl, Nat.le_of_ble_eq_true rfl⟩ hcs S hk0 (by decide) (T := TX0) (N := 2) rfl rfl hl.1 rfl (Nat.le_of_ble_eq_true rfl) dX0_numberIn_46) S (fun r4 σ3 H locs h S => ?_)
        refine lv_iadd C.1 C.2.1 dX0_numberIn_49 ?_
        refine lv_bipush (v := (48 : Int32)) C.1 C.2.1 dX0_numberIn_50 (by decide) ?_
        refine lv_isub C.1 C.2.1 dX0_numberIn_52 ?_
        refine lv_istore (lv' := [(5, .int ((((10 : Int32) * x5) + r4) - (48 : Int32))), (0, .ref (G.2.2 + k0)), (3, .int x3), (6, .int x6)]) C.1 C.2.1 dX0_numberIn_53 hl (by decide) rfl (fun ls hl => ?_)
        refine lv_iinc (v := (x6 + 1)) (lv' := [(6, .int (x6 + 1)), (5, .int ((((10 : Int32) * x5) + r4) - (48 : Int32))), (0, .ref (G.2.2 + k0)), (3, .int x3)]) C.1 C.2.1 dX0_numberIn_55 hl (k := 3) rfl rfl (by decide) rfl (fun ls hl => ?_)
        refine lv_goto (tgt := 23) C.1 C.2.1 dX0_numberIn_58 (by decide) ?_
        exact ih (((((10 : Int32) * x5) + r4) - (48 : Int32))) ((x6 + 1)) _ _ _ _ S (lv_sub hl [2, 3, 1, 0] rfl) h
theorem kM_X0_numberIn : s_M yX0_numberIn cX0_numberIn 7 (some .int) 3 := ⟨co_X0_numberIn, in_X0, by decide, by decide, by decide +kernel⟩
set_option maxHeartbeats 4000000 in
set_option maxRecDepth 100000 in
theorem c_X0_numberIn (l : Launch) (G : s_G) (k0 : Nat) (k1 : Nat) (x2 : Int32) (x3 : Int32) (σ : Sg) (post : Int32 → Sg → Prop) (hk0 : s_kd k0 = 0) (hk1 : s_kd k1 = 3) (h : wpX0_numberIn k0 k1 x2 x3 σ post) : Met l yX0_numberIn (wsU yX0_numberIn cX0_numberIn 7 (some .int)) rm_X0_numberIn (va_Pc [.ref (G.2.2 + k0), .ref (G.2.2 + k1), .int x2, .int x3] (s_Pre G σ)) (va_Qi post (s_B G) (s_A G.2.2)) 0 0 (s_A G.2.2) := by
  refine Met.ofW (cc := cX0_numberIn) (maxL := 7) (ret := (some .int)) (by decide) rfl ?_
  intro p e s m args below meth c s₁ B hml hv
  obtain ⟨rfl, hP, hrok, hK, hN⟩ := hv
  have C : s_C G p s (([.ref (G.2.2 + k0), .ref (G.2.2 + k1), .int x2, .int x3] : List Value).toArray) m c RX0 cX0_numberIn := ⟨B.exec, B.bytes, findClass_of_methodNamed B.named, fun w hw => atoms_spec (ws := wsU yX0_numberIn cX0_numberIn 7 (some .int)) B.pre w (List.mem_cons_of_mem _ hw), hK, hN⟩
  have hr := B.returns
  have hlocks := B.notSynchronized
  have S : s_St G σ s.heap s.heap [] := ⟨hP, va_S.rf, hrok⟩
  have hcs : 0 ≤ (rm_X0_numberIn).cells ∧ 0 ≤ (rm_X0_numberIn).slots := ⟨Nat.le_refl 0, Nat.le_refl 0⟩
  have hR : ∀ (r : Int32) (σ1 : Sg) (H : Heap) (locs : List Loc) (pc : Nat) (ls : Array Slot), decode cX0_numberIn pc = .ok (.ireturn, 1) → post r σ1 → s_St G σ1 s.heap H locs → W p l e rm_X0_numberIn s m ([.ref (G.2.2 + k0), .ref (G.2.2 + k1), .int x2, .int x3] : List Value).toArray below meth c H locs 0 0 (MQ below (va_Qi post (s_B G) (s_A G.2.2)) ([.ref (G.2.2 + k0), .ref (G.2.2 + k1), .int x2, .int x3] : List Value).toArray s 0 0 (s_A G.2.2)) (F0 m pc ls [.int r]) := fun _ _ _ _ _ _ hd hp S => ret_i C hr hlocks hd hp S
  have hl := lv_entry ([.ref (G.2.2 + k0), .ref (G.2.2 + k1), .int x2, .int x3]) (n := 7) (Nat.le_of_ble_eq_true rfl)
  rw [lg_entry_eq]
  generalize (lg_sl ([.ref (G.2.2 + k0), .ref (G.2.2 + k1), .int x2, .int x3]) ++ List.replicate (7 - (lg_sl ([.ref (G.2.2 + k0), .ref (G.2.2 + k1), .int x2, .int x3])).length) Slot.unset).toArray = ls at hl ⊢
  have hl : lv_has ls 7 [(0, .ref (G.2.2 + k0)), (1, .ref (G.2.2 + k1)), (2, .int x2), (3, .int x3)] := hl
  unfold wpX0_numberIn at h
  refine lv_iload_n C.1 C.2.1 dX0_numberIn_0 rfl (lv_at hl 2 rfl) ?_
  refine lv_aload_n C.1 C.2.1 dX0_numberIn_1 rfl (lv_at hl 1 rfl) ?_
  refine k_i (r_VN (As := []) (rest := [.int x2]) C hml (c_X3_wordLength l G k1 σ _ hk1 h) kM_X3_wordLength im_X3_wordLength se_X3_wordLength nm_X0_27 ⟨rfl, rfl⟩ ⟨Nat.le_of_ble_eq_true rfl, Nat.le_of_ble_eq_true rfl⟩ hcs S hk1 (by decide) (T := TX3) (N := 6) rfl rfl hl.1 rfl (Nat.le_of_ble_eq_true rfl) dX0_numberIn_2) S (fun r6 σ5 H locs h S => ?_)
  refine lv_iadd C.1 C.2.1 dX0_numberIn_5 ?_
  refine lv_istore (lv' := [(4, .int (x2 + r6)), (0, .ref (G.2.2 + k0)), (1, .ref (G.2.2 + k1)), (2, .int x2), (3, .int x3)]) C.1 C.2.1 dX0_numberIn_6 hl (by decide) rfl (fun ls hl => ?_)
  refine lv_aload_n C.1 C.2.1 dX0_numberIn_8 rfl (lv_at hl 2 rfl) ?_
  refine gn_X3_1 C nf_X0_43 hk1 S dX0_numberIn_9 ?_
  refine lv_iconst (v := (1 : Int32)) C.1 C.2.1 dX0_numberIn_12 (by decide) ?_
  refine lv_icmp_ne (tgt := 64) C.1 C.2.1 dX0_numberIn_13 (by decide) (fun c7 => ?_) (fun c7 => ?_)
  · replace h := h.1 c7
    refine lv_aload_n C.1 C.2.1 dX0_numberIn_64 rfl (lv_at hl 2 rfl) ?_
    refine gn_X3_1 C nf_X0_43 hk1 S dX0_numberIn_65 ?_
    refine lv_iconst (v := (2 : Int32)) C.1 C.2.1 dX0_numberIn_68 (by decide) ?_
    refine lv_icmp_ne (tgt := 84) C.1 C.2.1 dX0_numberIn_69 (by decide) (fun c8 => ?_) (fun c8 => ?_)
    · replace h := h.1 c8
      refine lv_iconst (v := (1 : Int32)) C.1 C.2.1 dX0_numberIn_84 (by decide) ?_
      exact hR _ _ _ _ _ _ dX0_numberIn_85 h S
    · replace h := h.2 c8
      refine lv_aload_n C.1 C.2.1 dX0_numberIn_72 rfl (lv_at hl 1 rfl) ?_
      refine lv_iload C.1 C.2.1 dX0_numberIn_73 (lv_at hl 0 rfl) ?_
      refine k_i (r_V (As := [.int (x2 + r6)]) (rest := []) C hml (c_X0_at l G k0 ((x2 + r6)) σ5 _ hk0 h) kM_X0_at im_X0_at se_X0_at ml_X0_19 ⟨rfl, rfl⟩ ⟨Nat.le_of_ble_eq_true rfl, Nat.le_of_ble_eq_true rfl⟩ hcs S hk0 (by decide) (T := TX0) (N := 2) rfl rfl hl.1 rfl (Nat.le_of_ble_eq_true rfl) dX0_numberIn_75) S (fun r10 σ9 H locs h S => ?_)
      refine lv_bipush (v := (65 : Int32)) C.1 C.2.1 dX0_numberIn_78 (by decide) ?_
      refine lv_isub C.1 C.2.1 dX0_numberIn_80 ?_
      refine lv_goto (tgt := 85) C.1 C.2.1 dX0_numberIn_81 (by decide) ?_
      exact hR _ _ _ _ _ _ dX0_numberIn_85 h S
  · replace h := h.2 c7
    refine lv_iconst (v := (0 : Int32)) C.1 C.2.1 dX0_numberIn_16 (by decide) ?_
    refine lv_istore (lv' := [(5, .int (0 : Int32)), (4, .int (x2 + r6)), (0, .ref (G.2.2 + k0)), (1, .ref (G.2.2 + k1)), (2, .int x2), (3, .int x3)]) C.1 C.2.1 dX0_numberIn_17 hl (by decide) rfl (fun ls hl => ?_)
    refine lv_iload C.1 C.2.1 dX0_numberIn_19 (lv_at hl 1 rfl) ?_
    refine lv_istore (lv' := [(6, .int (x2 + r6)), (5, .int (0 : Int32)), (4, .int (x2 + r6)), (0, .ref (G.2.2 + k0)), (1, .ref (G.2.2 + k1)), (2, .int x2), (3, .int x3)]) C.1 C.2.1 dX0_numberIn_21 hl (by decide) rfl (fun ls hl => ?_)
    obtain ⟨nf, h⟩ := h
    exact TX0_numberIn_23 C hml hcs hk0 hk1 hR nf ((0 : Int32)) ((x2 + r6)) S (lv_sub hl [3, 6, 1, 0] rfl) h
end M0
