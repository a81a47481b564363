section LAW
variable {p : Program} {l : Launch} {e : Env} {R : Room} {s : State} {m : MethodId} {args : Array Value} {below : List Frame} {meth : Method} {c : Code} {H0 : Heap} {cells slots : Nat} {Q : State → Prop} {G : s_G}
abbrev rm_L_law : Room := room_1
def BL_law_18 (L : Nat) (xs : Nat → Int32) (post : Int32 → Sg2 → Prop) : Nat → Int32 → Sg2 → Prop
  | 0, _, _ => False
  | n + 1, x3, σ => ((((16 : Int32) ≤ x3) → wpL_areAlike σ (fun r3 σ2 => (narrow .boolean (.int r3) = .int r3 ∧ post r3 σ2))) ∧ ((¬ (16 : Int32) ≤ x3) → ((((2 : Int32) * x3) < nI L → vp_in (((2 : Int32) * x3)) L) ∧ (((((2 : Int32) * x3) + (1 : Int32)) < nI L → vp_in ((((2 : Int32) * x3) + (1 : Int32))) L) ∧ wpL_change ((cellV L xs (((2 : Int32) * x3)))) ((cellV L xs ((((2 : Int32) * x3) + (1 : Int32))))) σ.1 (fun r7 σ6 => wpL_change ((cellV L xs (((2 : Int32) * x3)))) ((cellV L xs ((((2 : Int32) * x3) + (1 : Int32))))) σ.2 (fun r9 σ8 => (((¬ r7 = r9) → post (0 : Int32) (σ6, σ8)) ∧ ((r7 = r9) → wpL_areOrders σ6 (fun r12 σ11 => (((¬ r12 = 0) → wpL_text (((cellV L xs ((((2 : Int32) * x3) + (1 : Int32)))) ^^^ ((cellV L xs (((2 : Int32) * x3))) >>> ((3 : Int32) &&& 31)))) ((cellV L xs (((2 : Int32) * x3)))) σ11 (fun r15 σ14 => wpL_text (((cellV L xs ((((2 : Int32) * x3) + (1 : Int32)))) ^^^ ((cellV L xs (((2 : Int32) * x3))) >>> ((3 : Int32) &&& 31)))) ((cellV L xs (((2 : Int32) * x3)))) σ8 (fun r17 σ16 => (((¬ r17 = r15) → post (0 : Int32) (σ14, σ16)) ∧ ((r17 = r15) → wpL_isRead σ14 (fun r20 σ19 => (((r20 = 0) → post (0 : Int32) (σ19, σ16)) ∧ ((¬ r20 = 0) → wpL_isFollowed σ19 (fun r23 σ22 => (((¬ r23 = 0) → BL_law_18 L xs post n ((x3 + 1)) (σ22, σ16)) ∧ ((r23 = 0) → post (0 : Int32) (σ22, σ16)))))))))))) ∧ ((r12 = 0) → post (0 : Int32) (σ11, σ8))))))))))))
set_option maxHeartbeats 4000000 in
set_option maxRecDepth 100000 in
theorem TL_law_18 (C : s_C G p s args m c RL cL_law) (hml : c.maxLocals = 7) (hcs : cells ≤ (rm_L_law).cells ∧ slots ≤ (rm_L_law).slots) {L : Nat} {xs : Nat → Int32} {b : Nat} (hX : va_X b L xs s H0) (hbl : b < H0.size) (hbA : ¬ c_A G.2.2 b) {post : Int32 → Sg2 → Prop} (hR : ∀ (r : Int32) (σ1 : Sg2) (H : Heap) (locs : List Loc) (pc : Nat) (ls : Array Slot), decode cL_law pc = .ok (.ireturn, 1) → narrow .boolean (.int r) = .int r → post r σ1 → t_St G σ1 H0 H locs → W p l e rm_L_law s m args below meth c H locs cells slots Q (F0 m pc ls [.int r])) : ∀ (n : Nat) (x3 : Int32), ∀ {σ : Sg2} {H : Heap} {locs : List Loc} {ls : Array Slot}, t_St G σ H0 H locs → lv_has ls 7 [(0, .ref b), (1, .ref (G.2.2 + 0)), (2, .ref (G.2.2 + 117 + 0)), (3, .int x3)] → BL_law_18 L xs post n x3 σ → W p l e rm_L_law s m args below meth c H locs cells slots Q (F0 m 18 ls []) := by
  intro n
  induction n with
  | zero =>
    intro x3  σ H locs ls S hl h
    exact absurd h (fun h => h)
  | succ n ih0 =>
    have ih : ∀ (x3 : Int32), ∀ (σ : Sg2) (H : Heap) (locs : List Loc) (ls : Array Slot), t_St G σ H0 H locs → lv_has ls 7 [(0, .ref b), (1, .ref (G.2.2 + 0)), (2, .ref (G.2.2 + 117 + 0)), (3, .int x3)] → BL_law_18 L xs post n x3 σ → W p l e rm_L_law s m args below meth c H locs cells slots Q (F0 m 18 ls []) := fun x3  _ _ _ _ => ih0 x3 
    intro x3  σ H locs ls S hl h
    refine lv_iload_n C.1 C.2.1 dL_law_18 rfl (lv_at hl 3 rfl) ?_
    refine lv_bipush (v := (16 : Int32)) C.1 C.2.1 dL_law_19 (by decide) ?_
    refine lv_icmp_ge (tgt := 127) C.1 C.2.1 dL_law_21 (by decide) (fun c1 => ?_) (fun c1 => ?_)
    · replace h := h.1 c1
      refine lv_aload_n C.1 C.2.1 dL_law_127 rfl (lv_at hl 1 rfl) ?_
      refine lv_aload_n C.1 C.2.1 dL_law_128 rfl (lv_at hl 2 rfl) ?_
      refine t_i3 (r_S2 (As := [.ref (G.2.2 + 0), .ref (G.2.2 + 117 + 0)]) (rest := []) C hml (c_L_areAlike l G σ _ h) kM_L_areAlike st_L_areAlike ml_L_119 ⟨rfl, rfl⟩ ⟨Nat.le_of_ble_eq_true rfl, Nat.le_of_ble_eq_true rfl⟩ hcs S rfl hl.1 rfl (Nat.le_of_ble_eq_true rfl) dL_law_129) S (fun r3 σ2 H locs h S => ?_)
      exact hR _ _ _ _ _ _ dL_law_132 h.1 h.2 S
    · replace h := h.2 c1
      refine lv_aload_n C.1 C.2.1 dL_law_24 rfl (lv_at hl 0 rfl) ?_
      refine lv_iconst (v := (2 : Int32)) C.1 C.2.1 dL_law_25 (by decide) ?_
      refine lv_iload_n C.1 C.2.1 dL_law_26 rfl (lv_at hl 3 rfl) ?_
      refine lv_imul C.1 C.2.1 dL_law_27 ?_
      refine t_cell (v := 0) (As := [.ref b, .int ((2 : Int32) * x3)]) (rest := []) C hml (c_L_cell l (((2 : Int32) * x3)) h.1) kM_L_cell st_L_cell ml_L_98 ⟨rfl, rfl⟩ ⟨Nat.le_of_ble_eq_true rfl, Nat.le_of_ble_eq_true rfl⟩ hcs S hX hbl hbA rfl hl.1 rfl (Nat.le_of_ble_eq_true rfl) dL_law_28 (fun H locs S => ?_)
      replace h := h.2
      refine lv_istore (lv' := [(4, .int (cellV L xs (((2 : Int32) * x3)))), (0, .ref b), (1, .ref (G.2.2 + 0)), (2, .ref (G.2.2 + 117 + 0)), (3, .int x3)]) C.1 C.2.1 dL_law_31 hl (by decide) rfl (fun ls hl => ?_)
      refine lv_aload_n C.1 C.2.1 dL_law_33 rfl (lv_at hl 1 rfl) ?_
      refine lv_iconst (v := (2 : Int32)) C.1 C.2.1 dL_law_34 (by decide) ?_
      refine lv_iload_n C.1 C.2.1 dL_law_35 rfl (lv_at hl 4 rfl) ?_
      refine lv_imul C.1 C.2.1 dL_law_36 ?_
      refine lv_iconst (v := (1 : Int32)) C.1 C.2.1 dL_law_37 (by decide) ?_
      refine lv_iadd C.1 C.2.1 dL_law_38 ?_
      refine t_cell (v := 0) (As := [.ref b, .int (((2 : Int32) * x3) + (1 : Int32))]) (rest := []) C hml (c_L_cell l ((((2 : Int32) * x3) + (1 : Int32))) h.1) kM_L_cell st_L_cell ml_L_98 ⟨rfl, rfl⟩ ⟨Nat.le_of_ble_eq_true rfl, Nat.le_of_ble_eq_true rfl⟩ hcs S hX hbl hbA rfl hl.1 rfl (Nat.le_of_ble_eq_true rfl) dL_law_39 (fun H locs S => ?_)
      replace h := h.2
      refine lv_istore (lv' := [(5, .int (cellV L xs ((((2 : Int32) * x3) + (1 : Int32))))), (4, .int (cellV L xs (((2 : Int32) * x3)))), (0, .ref b), (1, .ref (G.2.2 + 0)), (2, .ref (G.2.2 + 117 + 0)), (3, .int x3)]) C.1 C.2.1 dL_law_42 hl (by decide) rfl (fun ls hl => ?_)
      refine lv_aload_n C.1 C.2.1 dL_law_44 rfl (lv_at hl 3 rfl) ?_
      refine lv_iload C.1 C.2.1 dL_law_45 (lv_at hl 1 rfl) ?_
      refine lv_iload C.1 C.2.1 dL_law_47 (lv_at hl 0 rfl) ?_
      refine t_i1 (r_S (G := G) (As := [.ref (G.2.2 + 0), .int (cellV L xs (((2 : Int32) * x3))), .int (cellV L xs ((((2 : Int32) * x3) + (1 : Int32))))]) (rest := []) C hml (c_L_change l G ((cellV L xs (((2 : Int32) * x3)))) ((cellV L xs ((((2 : Int32) * x3) + (1 : Int32))))) σ.1 _ h) kM_L_change st_L_change ml_L_102 ⟨rfl, rfl⟩ ⟨Nat.le_of_ble_eq_true rfl, Nat.le_of_ble_eq_true rfl⟩ hcs S.1 rfl hl.1 rfl (Nat.le_of_ble_eq_true rfl) dL_law_49) S (fun r7 σ6 H locs h S => ?_)
      refine lv_aload_n C.1 C.2.1 dL_law_52 rfl (lv_at hl 4 rfl) ?_
      refine lv_iload C.1 C.2.1 dL_law_53 (lv_at hl 1 rfl) ?_
      refine lv_iload C.1 C.2.1 dL_law_55 (lv_at hl 0 rfl) ?_
      refine t_i2 (r_S (G := gq G) (As := [.ref (G.2.2 + 117 + 0), .int (cellV L xs (((2 : Int32) * x3))), .int (cellV L xs ((((2 : Int32) * x3) + (1 : Int32))))]) (rest := [.int r7]) C.q hml (c_L_change l (gq G) ((cellV L xs (((2 : Int32) * x3)))) ((cellV L xs ((((2 : Int32) * x3) + (1 : Int32))))) σ.2 _ h) kM_L_change st_L_change ml_L_102 ⟨rfl, rfl⟩ ⟨Nat.le_of_ble_eq_true rfl, Nat.le_of_ble_eq_true rfl⟩ hcs S.2.1 rfl hl.1 rfl (Nat.le_of_ble_eq_true rfl) dL_law_57) S (fun r9 σ8 H locs h S => ?_)
      refine lv_icmp_ne (tgt := 70) C.1 C.2.1 dL_law_60 (by decide) (fun c10 => ?_) (fun c10 => ?_)
      · replace h := h.1 c10
        refine lv_iconst (v := (0 : Int32)) C.1 C.2.1 dL_law_70 (by decide) ?_
        exact hR _ _ _ _ _ _ dL_law_71 rfl h S
      · replace h := h.2 c10
        refine lv_aload_n C.1 C.2.1 dL_law_63 rfl (lv_at hl 3 rfl) ?_
        refine t_i1 (r_S (G := G) (As := [.ref (G.2.2 + 0)]) (rest := []) C hml (c_L_areOrders l G σ6 _ h) kM_L_areOrders st_L_areOrders ml_L_106 ⟨rfl, rfl⟩ ⟨Nat.le_of_ble_eq_true rfl, Nat.le_of_ble_eq_true rfl⟩ hcs S.1 rfl hl.1 rfl (Nat.le_of_ble_eq_true rfl) dL_law_64) S (fun r12 σ11 H locs h S => ?_)
        refine lv_if_ne (tgt := 72) C.1 C.2.1 dL_law_67 (by decide) (fun c13 => ?_) (fun c13 => ?_)
        · replace h := h.1 c13
          refine lv_aload_n C.1 C.2.1 dL_law_72 rfl (lv_at hl 3 rfl) ?_
          refine lv_iload C.1 C.2.1 dL_law_73 (lv_at hl 0 rfl) ?_
          refine lv_iload C.1 C.2.1 dL_law_75 (lv_at hl 1 rfl) ?_
          refine lv_iconst (v := (3 : Int32)) C.1 C.2.1 dL_law_77 (by decide) ?_
          refine lv_ishr C.1 C.2.1 dL_law_78 ?_
          refine lv_ixor C.1 C.2.1 dL_law_79 ?_
          refine lv_iload C.1 C.2.1 dL_law_80 (lv_at hl 1 rfl) ?_
          refine t_i1 (r_S (G := G) (As := [.ref (G.2.2 + 0), .int ((cellV L xs ((((2 : Int32) * x3) + (1 : Int32)))) ^^^ ((cellV L xs (((2 : Int32) * x3))) >>> ((3 : Int32) &&& 31))), .int (cellV L xs (((2 : Int32) * x3)))]) (rest := []) C hml (c_L_text l G (((cellV L xs ((((2 : Int32) * x3) + (1 : Int32)))) ^^^ ((cellV L xs (((2 : Int32) * x3))) >>> ((3 : Int32) &&& 31)))) ((cellV L xs (((2 : Int32) * x3)))) σ11 _ h) kM_L_text st_L_text ml_L_110 ⟨rfl, rfl⟩ ⟨Nat.le_of_ble_eq_true rfl, Nat.le_of_ble_eq_true rfl⟩ hcs S.1 rfl hl.1 rfl (Nat.le_of_ble_eq_true rfl) dL_law_82) S (fun r15 σ14 H locs h S => ?_)
          refine lv_istore (lv' := [(6, .int r15), (5, .int (cellV L xs ((((2 : Int32) * x3) + (1 : Int32))))), (4, .int (cellV L xs (((2 : Int32) * x3)))), (0, .ref b), (1, .ref (G.2.2 + 0)), (2, .ref (G.2.2 + 117 + 0)), (3, .int x3)]) C.1 C.2.1 dL_law_85 hl (by decide) rfl (fun ls hl => ?_)
          refine lv_aload_n C.1 C.2.1 dL_law_87 rfl (lv_at hl 5 rfl) ?_
          refine lv_iload C.1 C.2.1 dL_law_88 (lv_at hl 1 rfl) ?_
          refine lv_iload C.1 C.2.1 dL_law_90 (lv_at hl 2 rfl) ?_
          refine lv_iconst (v := (3 : Int32)) C.1 C.2.1 dL_law_92 (by decide) ?_
          refine lv_ishr C.1 C.2.1 dL_law_93 ?_
          refine lv_ixor C.1 C.2.1 dL_law_94 ?_
          refine lv_iload C.1 C.2.1 dL_law_95 (lv_at hl 2 rfl) ?_
          refine t_i2 (r_S (G := gq G) (As := [.ref (G.2.2 + 117 + 0), .int ((cellV L xs ((((2 : Int32) * x3) + (1 : Int32)))) ^^^ ((cellV L xs (((2 : Int32) * x3))) >>> ((3 : Int32) &&& 31))), .int (cellV L xs (((2 : Int32) * x3)))]) (rest := []) C.q hml (c_L_text l (gq G) (((cellV L xs ((((2 : Int32) * x3) + (1 : Int32)))) ^^^ ((cellV L xs (((2 : Int32) * x3))) >>> ((3 : Int32) &&& 31)))) ((cellV L xs (((2 : Int32) * x3)))) σ8 _ h) kM_L_text st_L_text ml_L_110 ⟨rfl, rfl⟩ ⟨Nat.le_of_ble_eq_true rfl, Nat.le_of_ble_eq_true rfl⟩ hcs S.2.1 rfl hl.1 rfl (Nat.le_of_ble_eq_true rfl) dL_law_97) S (fun r17 σ16 H locs h S => ?_)
          refine lv_iload C.1 C.2.1 dL_law_100 (lv_at hl 0 rfl) ?_
          refine lv_icmp_ne (tgt := 119) C.1 C.2.1 dL_law_102 (by decide) (fun c18 => ?_) (fun c18 => ?_)
          · replace h := h.1 c18
            refine lv_iconst (v := (0 : Int32)) C.1 C.2.1 dL_law_119 (by decide) ?_
            exact hR _ _ _ _ _ _ dL_law_120 rfl h S
          · replace h := h.2 c18
            refine lv_aload_n C.1 C.2.1 dL_law_105 rfl (lv_at hl 4 rfl) ?_
            refine t_i1 (r_S (G := G) (As := [.ref (G.2.2 + 0)]) (rest := []) C hml (c_L_isRead l G σ14 _ h) kM_L_isRead st_L_isRead ml_L_113 ⟨rfl, rfl⟩ ⟨Nat.le_of_ble_eq_true rfl, Nat.le_of_ble_eq_true rfl⟩ hcs S.1 rfl hl.1 rfl (Nat.le_of_ble_eq_true rfl) dL_law_106) S (fun r20 σ19 H locs h S => ?_)
            refine lv_if_eq (tgt := 119) C.1 C.2.1 dL_law_109 (by decide) (fun c21 => ?_) (fun c21 => ?_)
            · replace h := h.1 c21
              refine lv_iconst (v := (0 : Int32)) C.1 C.2.1 dL_law_119 (by decide) ?_
              exact hR _ _ _ _ _ _ dL_law_120 rfl h S
            · replace h := h.2 c21
              refine lv_aload_n C.1 C.2.1 dL_law_112 rfl (lv_at hl 4 rfl) ?_
              refine t_i1 (r_S (G := G) (As := [.ref (G.2.2 + 0)]) (rest := []) C hml (c_L_isFollowed l G σ19 _ h) kM_L_isFollowed st_L_isFollowed ml_L_116 ⟨rfl, rfl⟩ ⟨Nat.le_of_ble_eq_true rfl, Nat.le_of_ble_eq_true rfl⟩ hcs S.1 rfl hl.1 rfl (Nat.le_of_ble_eq_true rfl) dL_law_113) S (fun r23 σ22 H locs h S => ?_)
              refine lv_if_ne (tgt := 121) C.1 C.2.1 dL_law_116 (by decide) (fun c24 => ?_) (fun c24 => ?_)
              · replace h := h.1 c24
                refine lv_iinc (v := (x3 + 1)) (lv' := [(3, .int (x3 + 1)), (6, .int r15), (5, .int (cellV L xs ((((2 : Int32) * x3) + (1 : Int32))))), (4, .int (cellV L xs (((2 : Int32) * x3)))), (0, .ref b), (1, .ref (G.2.2 + 0)), (2, .ref (G.2.2 + 117 + 0))]) C.1 C.2.1 dL_law_121 hl (k := 6) rfl rfl (by decide) rfl (fun ls hl => ?_)
                refine lv_goto (tgt := 18) C.1 C.2.1 dL_law_124 (by decide) ?_
                exact ih ((x3 + 1)) _ _ _ _ S (lv_sub hl [4, 5, 6, 0] rfl) h
              · replace h := h.2 c24
                refine lv_iconst (v := (0 : Int32)) C.1 C.2.1 dL_law_119 (by decide) ?_
                exact hR _ _ _ _ _ _ dL_law_120 rfl h S
        · replace h := h.2 c13
          refine lv_iconst (v := (0 : Int32)) C.1 C.2.1 dL_law_70 (by decide) ?_
          exact hR _ _ _ _ _ _ dL_law_71 rfl h S
end LAW
