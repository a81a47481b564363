section LAW
variable {p : Program} {l : Launch} {e : Env} {R : Room} {s : State} {m : MethodId} {args : Array Value} {below : List Frame} {meth : Method} {c : Code} {H0 : Heap} {cells slots : Nat} {Q : State → Prop} {G : s_G}
abbrev rm_L_law : Room := room_1
theorem sw_0_21 (x : Int32) : (x.toInt < 0 ∨ 21 < x.toInt) ∨ x = 0 ∨ x = 1 ∨ x = 2 ∨ x = 3 ∨ x = 4 ∨ x = 5 ∨ x = 6 ∨ x = 7 ∨ x = 8 ∨ x = 9 ∨ x = 10 ∨ x = 11 ∨ x = 12 ∨ x = 13 ∨ x = 14 ∨ x = 15 ∨ x = 16 ∨ x = 17 ∨ x = 18 ∨ x = 19 ∨ x = 20 ∨ x = 21 := by
  by_cases h1 : x.toInt < 0
  · exact Or.inl (Or.inl h1)
  by_cases h2 : 21 < x.toInt
  · exact Or.inl (Or.inr h2)
  refine Or.inr ?_
  have h : x.toInt = 0 ∨ x.toInt = 1 ∨ x.toInt = 2 ∨ x.toInt = 3 ∨ x.toInt = 4 ∨ x.toInt = 5 ∨ x.toInt = 6 ∨ x.toInt = 7 ∨ x.toInt = 8 ∨ x.toInt = 9 ∨ x.toInt = 10 ∨ x.toInt = 11 ∨ x.toInt = 12 ∨ x.toInt = 13 ∨ x.toInt = 14 ∨ x.toInt = 15 ∨ x.toInt = 16 ∨ x.toInt = 17 ∨ x.toInt = 18 ∨ x.toInt = 19 ∨ x.toInt = 20 ∨ x.toInt = 21 := by omega
  rcases h with h | h | h | h | h | h | h | h | h | h | h | h | h | h | h | h | h | h | h | h | h | h
  · exact Or.inl (Int32.toInt_inj.mp h)
  · exact Or.inr (Or.inl (Int32.toInt_inj.mp h))
  · exact Or.inr (Or.inr (Or.inl (Int32.toInt_inj.mp h)))
  · exact Or.inr (Or.inr (Or.inr (Or.inl (Int32.toInt_inj.mp h))))
  · exact Or.inr (Or.inr (Or.inr (Or.inr (Or.inl (Int32.toInt_inj.mp h)))))
  · exact Or.inr (Or.inr (Or.inr (Or.inr (Or.inr (Or.inl (Int32.toInt_inj.mp h))))))
  · exact Or.inr (Or.inr (Or.inr (Or.inr (Or.inr (Or.inr (Or.inl (Int32.toInt_inj.mp h)))))))
  · exact Or.inr (Or.inr (Or.inr (Or.inr (Or.inr (Or.inr (Or.inr (Or.inl (Int32.toInt_inj.mp h))))))))
  · exact Or.inr (Or.inr (Or.inr (Or.inr (Or.inr (Or.inr (Or.inr (Or.inr (Or.inl (Int32.toInt_inj.mp h)))))))))
  · exact Or.inr (Or.inr (Or.inr (Or.inr (Or.inr (Or.inr (Or.inr (Or.inr (Or.inr (Or.inl (Int32.toInt_inj.mp h))))))))))
  · exact Or.inr (Or.inr (Or.inr (Or.inr (Or.inr (Or.inr (Or.inr (Or.inr (Or.inr (Or.inr (Or.inl (Int32.toInt_inj.mp h)))))))))))
  · exact Or.inr (Or.inr (Or.inr (Or.inr (Or.inr (Or.inr (Or.inr (Or.inr (Or.inr (Or.inr (Or.inr (Or.inl (Int32.toInt_inj.mp h))))))))))))
  · exact Or.inr (Or.inr (Or.inr (Or.inr (Or.inr (Or.inr (Or.inr (Or.inr (Or.inr (Or.inr (Or.inr (Or.inr (Or.inl (Int32.toInt_inj.mp h)))))))))))))
  · exact Or.inr (Or.inr (Or.inr (Or.inr (Or.inr (Or.inr (Or.inr (Or.inr (Or.inr (Or.inr (Or.inr (Or.inr (Or.inr (Or.inl (Int32.toInt_inj.mp h))))))))))))))
  · exact Or.inr (Or.inr (Or.inr (Or.inr (Or.inr (Or.inr (Or.inr (Or.inr (Or.inr (Or.inr (Or.inr (Or.inr (Or.inr (Or.inr (Or.inl (Int32.toInt_inj.mp h)))))))))))))))
  · exact Or.inr (Or.inr (Or.inr (Or.inr (Or.inr (Or.inr (Or.inr (Or.inr (Or.inr (Or.inr (Or.inr (Or.inr (Or.inr (Or.inr (Or.inr (Or.inl (Int32.toInt_inj.mp h))))))))))))))))
  · exact Or.inr (Or.inr (Or.inr (Or.inr (Or.inr (Or.inr (Or.inr (Or.inr (Or.inr (Or.inr (Or.inr (Or.inr (Or.inr (Or.inr (Or.inr (Or.inr (Or.inl (Int32.toInt_inj.mp h)))))))))))))))))
  · exact Or.inr (Or.inr (Or.inr (Or.inr (Or.inr (Or.inr (Or.inr (Or.inr (Or.inr (Or.inr (Or.inr (Or.inr (Or.inr (Or.inr (Or.inr (Or.inr (Or.inr (Or.inl (Int32.toInt_inj.mp h))))))))))))))))))
  · exact Or.inr (Or.inr (Or.inr (Or.inr (Or.inr (Or.inr (Or.inr (Or.inr (Or.inr (Or.inr (Or.inr (Or.inr (Or.inr (Or.inr (Or.inr (Or.inr (Or.inr (Or.inr (Or.inl (Int32.toInt_inj.mp h)))))))))))))))))))
  · exact Or.inr (Or.inr (Or.inr (Or.inr (Or.inr (Or.inr (Or.inr (Or.inr (Or.inr (Or.inr (Or.inr (Or.inr (Or.inr (Or.inr (Or.inr (Or.inr (Or.inr (Or.inr (Or.inr (Or.inl (Int32.toInt_inj.mp h))))))))))))))))))))
  · exact Or.inr (Or.inr (Or.inr (Or.inr (Or.inr (Or.inr (Or.inr (Or.inr (Or.inr (Or.inr (Or.inr (Or.inr (Or.inr (Or.inr (Or.inr (Or.inr (Or.inr (Or.inr (Or.inr (Or.inr (Or.inl (Int32.toInt_inj.mp h)))))))))))))))))))))
  · exact Or.inr (Or.inr (Or.inr (Or.inr (Or.inr (Or.inr (Or.inr (Or.inr (Or.inr (Or.inr (Or.inr (Or.inr (Or.inr (Or.inr (Or.inr (Or.inr (Or.inr (Or.inr (Or.inr (Or.inr (Or.inr (Int32.toInt_inj.mp h)))))))))))))))))))))
def BL_law_18 (L : Nat) (xs : Nat → Int32) (post : Int32 → Sg → Prop) : Nat → Int32 → Sg → Prop
  | 0, _, _ => False
  | n + 1, x3, σ => (((((nI L) - (4 : Int32)) < x3) → post (1 : Int32) σ) ∧ ((¬ ((nI L) - (4 : Int32)) < x3) → (vp_in x3 L ∧ ((((((xs (x3).toNatClampNeg) &&& (31 : Int32))).toInt < 0 ∨ 21 < (((xs (x3).toNatClampNeg) &&& (31 : Int32))).toInt) → BL_law_18 L xs post n ((x3 + 4)) σ) ∧ ((((xs (x3).toNatClampNeg) &&& (31 : Int32)) = 0) → (vp_in ((x3 + (1 : Int32))) L ∧ wpX6_write ((xs ((x3 + (1 : Int32))).toNatClampNeg)) σ (fun r4 σ3 => (vp_in ((x3 + (1 : Int32))) L ∧ wpX7_write ((xs ((x3 + (1 : Int32))).toNatClampNeg)) σ3 (fun r6 σ5 => (((r4 = r6) → BL_law_18 L xs post n ((x3 + 4)) σ5) ∧ ((¬ r4 = r6) → post (0 : Int32) σ5))))))) ∧ ((((xs (x3).toNatClampNeg) &&& (31 : Int32)) = 1) → wpX6_wipe σ (fun r9 σ8 => wpX7_wipe σ8 (fun r11 σ10 => (((r9 = r11) → BL_law_18 L xs post n ((x3 + 4)) σ10) ∧ ((¬ r9 = r11) → post (0 : Int32) σ10))))) ∧ ((((xs (x3).toNatClampNeg) &&& (31 : Int32)) = 2) → (vp_in ((x3 + (1 : Int32))) L ∧ (vp_in ((x3 + (2 : Int32))) L ∧ (vp_in ((x3 + (3 : Int32))) L ∧ wpX6_declare ((xs ((x3 + (1 : Int32))).toNatClampNeg)) ((xs ((x3 + (2 : Int32))).toNatClampNeg)) ((xs ((x3 + (3 : Int32))).toNatClampNeg)) σ (fun r14 σ13 => (vp_in ((x3 + (1 : Int32))) L ∧ (vp_in ((x3 + (2 : Int32))) L ∧ (vp_in ((x3 + (3 : Int32))) L ∧ wpX7_declare ((xs ((x3 + (1 : Int32))).toNatClampNeg)) ((xs ((x3 + (2 : Int32))).toNatClampNeg)) ((xs ((x3 + (3 : Int32))).toNatClampNeg)) σ13 (fun r16 σ15 => (((r14 = r16) → BL_law_18 L xs post n ((x3 + 4)) σ15) ∧ ((¬ r14 = r16) → post (0 : Int32) σ15))))))))))) ∧ ((((xs (x3).toNatClampNeg) &&& (31 : Int32)) = 3) → (vp_in ((x3 + (1 : Int32))) L ∧ wpX6_remove ((xs ((x3 + (1 : Int32))).toNatClampNeg)) σ (fun r19 σ18 => (vp_in ((x3 + (1 : Int32))) L ∧ wpX7_remove ((xs ((x3 + (1 : Int32))).toNatClampNeg)) σ18 (fun r21 σ20 => (((r19 = r21) → BL_law_18 L xs post n ((x3 + 4)) σ20) ∧ ((¬ r19 = r21) → post (0 : Int32) σ20))))))) ∧ ((((xs (x3).toNatClampNeg) &&& (31 : Int32)) = 4) → (vp_in ((x3 + (1 : Int32))) L ∧ (vp_in ((x3 + (2 : Int32))) L ∧ (vp_in ((x3 + (3 : Int32))) L ∧ wpX6_set ((xs ((x3 + (1 : Int32))).toNatClampNeg)) ((xs ((x3 + (2 : Int32))).toNatClampNeg)) ((xs ((x3 + (3 : Int32))).toNatClampNeg)) σ (fun r24 σ23 => (vp_in ((x3 + (1 : Int32))) L ∧ (vp_in ((x3 + (2 : Int32))) L ∧ (vp_in ((x3 + (3 : Int32))) L ∧ wpX7_set ((xs ((x3 + (1 : Int32))).toNatClampNeg)) ((xs ((x3 + (2 : Int32))).toNatClampNeg)) ((xs ((x3 + (3 : Int32))).toNatClampNeg)) σ23 (fun r26 σ25 => (((r24 = r26) → BL_law_18 L xs post n ((x3 + 4)) σ25) ∧ ((¬ r24 = r26) → post (0 : Int32) σ25))))))))))) ∧ ((((xs (x3).toNatClampNeg) &&& (31 : Int32)) = 5) → (vp_in ((x3 + (1 : Int32))) L ∧ (vp_in ((x3 + (2 : Int32))) L ∧ wpX6_move ((xs ((x3 + (1 : Int32))).toNatClampNeg)) ((xs ((x3 + (2 : Int32))).toNatClampNeg)) σ (fun r29 σ28 => (vp_in ((x3 + (1 : Int32))) L ∧ (vp_in ((x3 + (2 : Int32))) L ∧ wpX7_move ((xs ((x3 + (1 : Int32))).toNatClampNeg)) ((xs ((x3 + (2 : Int32))).toNatClampNeg)) σ28 (fun r31 σ30 => (((r29 = r31) → BL_law_18 L xs post n ((x3 + 4)) σ30) ∧ ((¬ r29 = r31) → post (0 : Int32) σ30))))))))) ∧ ((((xs (x3).toNatClampNeg) &&& (31 : Int32)) = 6) → (vp_in ((x3 + (1 : Int32))) L ∧ wpX6_setSeparator ((xs ((x3 + (1 : Int32))).toNatClampNeg)) σ (fun r34 σ33 => (vp_in ((x3 + (1 : Int32))) L ∧ wpX7_setSeparator ((xs ((x3 + (1 : Int32))).toNatClampNeg)) σ33 (fun r36 σ35 => (((r34 = r36) → BL_law_18 L xs post n ((x3 + 4)) σ35) ∧ ((¬ r34 = r36) → post (0 : Int32) σ35))))))) ∧ ((((xs (x3).toNatClampNeg) &&& (31 : Int32)) = 7) → (vp_in ((x3 + (1 : Int32))) L ∧ (vp_in ((x3 + (2 : Int32))) L ∧ (vp_in ((x3 + (3 : Int32))) L ∧ wpX6_rule ((xs ((x3 + (1 : Int32))).toNatClampNeg)) ((xs ((x3 + (2 : Int32))).toNatClampNeg)) ((xs ((x3 + (3 : Int32))).toNatClampNeg)) σ (fun r39 σ38 => (vp_in ((x3 + (1 : Int32))) L ∧ (vp_in ((x3 + (2 : Int32))) L ∧ (vp_in ((x3 + (3 : Int32))) L ∧ wpX7_rule ((xs ((x3 + (1 : Int32))).toNatClampNeg)) ((xs ((x3 + (2 : Int32))).toNatClampNeg)) ((xs ((x3 + (3 : Int32))).toNatClampNeg)) σ38 (fun r41 σ40 => (((r39 = r41) → BL_law_18 L xs post n ((x3 + 4)) σ40) ∧ ((¬ r39 = r41) → post (0 : Int32) σ40))))))))))) ∧ ((((xs (x3).toNatClampNeg) &&& (31 : Int32)) = 8) → wpX6_undo σ (fun r44 σ43 => wpX7_undo σ43 (fun r46 σ45 => (((r44 = r46) → BL_law_18 L xs post n ((x3 + 4)) σ45) ∧ ((¬ r44 = r46) → post (0 : Int32) σ45))))) ∧ ((((xs (x3).toNatClampNeg) &&& (31 : Int32)) = 9) → (vp_in ((x3 + (1 : Int32))) L ∧ wpX6_told ((xs ((x3 + (1 : Int32))).toNatClampNeg)) σ (fun r49 σ48 => (vp_in ((x3 + (1 : Int32))) L ∧ wpX7_told ((xs ((x3 + (1 : Int32))).toNatClampNeg)) σ48 (fun r51 σ50 => (((r49 = r51) → BL_law_18 L xs post n ((x3 + 4)) σ50) ∧ ((¬ r49 = r51) → post (0 : Int32) σ50))))))) ∧ ((((xs (x3).toNatClampNeg) &&& (31 : Int32)) = 10) → (vp_in ((x3 + (1 : Int32))) L ∧ (vp_in ((x3 + (2 : Int32))) L ∧ wpX6_member ((xs ((x3 + (1 : Int32))).toNatClampNeg)) ((xs ((x3 + (2 : Int32))).toNatClampNeg)) σ (fun r54 σ53 => (vp_in ((x3 + (1 : Int32))) L ∧ (vp_in ((x3 + (2 : Int32))) L ∧ wpX7_member ((xs ((x3 + (1 : Int32))).toNatClampNeg)) ((xs ((x3 + (2 : Int32))).toNatClampNeg)) σ53 (fun r56 σ55 => (((r54 = r56) → BL_law_18 L xs post n ((x3 + 4)) σ55) ∧ ((¬ r54 = r56) → post (0 : Int32) σ55))))))))) ∧ ((((xs (x3).toNatClampNeg) &&& (31 : Int32)) = 11) → wpX6_fault σ (fun r59 σ58 => wpX7_fault σ58 (fun r61 σ60 => (((r59 = r61) → BL_law_18 L xs post n ((x3 + 4)) σ60) ∧ ((¬ r59 = r61) → post (0 : Int32) σ60))))) ∧ ((((xs (x3).toNatClampNeg) &&& (31 : Int32)) = 12) → wpX6_readings σ (fun r64 σ63 => wpX7_readings σ63 (fun r66 σ65 => (((r64 = r66) → BL_law_18 L xs post n ((x3 + 4)) σ65) ∧ ((¬ r64 = r66) → post (0 : Int32) σ65))))) ∧ ((((xs (x3).toNatClampNeg) &&& (31 : Int32)) = 13) → (vp_in ((x3 + (1 : Int32))) L ∧ (vp_in ((x3 + (2 : Int32))) L ∧ wpX6_occurrence ((xs ((x3 + (1 : Int32))).toNatClampNeg)) ((xs ((x3 + (2 : Int32))).toNatClampNeg)) σ (fun r69 σ68 => (vp_in ((x3 + (1 : Int32))) L ∧ (vp_in ((x3 + (2 : Int32))) L ∧ wpX7_occurrence ((xs ((x3 + (1 : Int32))).toNatClampNeg)) ((xs ((x3 + (2 : Int32))).toNatClampNeg)) σ68 (fun r71 σ70 => (((r69 = r71) → BL_law_18 L xs post n ((x3 + 4)) σ70) ∧ ((¬ r69 = r71) → post (0 : Int32) σ70))))))))) ∧ ((((xs (x3).toNatClampNeg) &&& (31 : Int32)) = 14) → (vp_in ((x3 + (1 : Int32))) L ∧ (vp_in ((x3 + (2 : Int32))) L ∧ wpX6_value ((xs ((x3 + (1 : Int32))).toNatClampNeg)) ((xs ((x3 + (2 : Int32))).toNatClampNeg)) σ (fun r74 σ73 => (vp_in ((x3 + (1 : Int32))) L ∧ (vp_in ((x3 + (2 : Int32))) L ∧ wpX7_value ((xs ((x3 + (1 : Int32))).toNatClampNeg)) ((xs ((x3 + (2 : Int32))).toNatClampNeg)) σ73 (fun r76 σ75 => (((r74 = r76) → BL_law_18 L xs post n ((x3 + 4)) σ75) ∧ ((¬ r74 = r76) → post (0 : Int32) σ75))))))))) ∧ ((((xs (x3).toNatClampNeg) &&& (31 : Int32)) = 15) → wpX6_next σ (fun r79 σ78 => wpX7_next σ78 (fun r81 σ80 => (((r79 = r81) → BL_law_18 L xs post n ((x3 + 4)) σ80) ∧ ((¬ r79 = r81) → post (0 : Int32) σ80))))) ∧ ((((xs (x3).toNatClampNeg) &&& (31 : Int32)) = 16) → (vp_in ((x3 + (1 : Int32))) L ∧ wpX6_normal ((xs ((x3 + (1 : Int32))).toNatClampNeg)) σ (fun r84 σ83 => (vp_in ((x3 + (1 : Int32))) L ∧ wpX7_normal ((xs ((x3 + (1 : Int32))).toNatClampNeg)) σ83 (fun r86 σ85 => (((r84 = r86) → BL_law_18 L xs post n ((x3 + 4)) σ85) ∧ ((¬ r84 = r86) → post (0 : Int32) σ85))))))) ∧ ((((xs (x3).toNatClampNeg) &&& (31 : Int32)) = 17) → (vp_in ((x3 + (1 : Int32))) L ∧ wpX6_orders ((xs ((x3 + (1 : Int32))).toNatClampNeg)) σ (fun r89 σ88 => (vp_in ((x3 + (1 : Int32))) L ∧ wpX7_orders ((xs ((x3 + (1 : Int32))).toNatClampNeg)) σ88 (fun r91 σ90 => ((((lg_cmp r89 r91) = 0) → BL_law_18 L xs post n ((x3 + 4)) σ90) ∧ ((¬ (lg_cmp r89 r91) = 0) → post (0 : Int32) σ90))))))) ∧ ((((xs (x3).toNatClampNeg) &&& (31 : Int32)) = 18) → (vp_in ((x3 + (1 : Int32))) L ∧ (vp_in ((x3 + (2 : Int32))) L ∧ (vp_in ((x3 + (3 : Int32))) L ∧ wpX6_order ((((((xs ((x3 + (1 : Int32))).toNatClampNeg)).toInt64) <<< (((32 : Int32)).toInt64 &&& 63)) ||| ((((xs ((x3 + (2 : Int32))).toNatClampNeg)).toInt64) &&& (4294967295 : Int64)))) ((xs ((x3 + (3 : Int32))).toNatClampNeg)) σ (fun r94 σ93 => (vp_in ((x3 + (1 : Int32))) L ∧ (vp_in ((x3 + (2 : Int32))) L ∧ (vp_in ((x3 + (3 : Int32))) L ∧ wpX7_order ((((((xs ((x3 + (1 : Int32))).toNatClampNeg)).toInt64) <<< (((32 : Int32)).toInt64 &&& 63)) ||| ((((xs ((x3 + (2 : Int32))).toNatClampNeg)).toInt64) &&& (4294967295 : Int64)))) ((xs ((x3 + (3 : Int32))).toNatClampNeg)) σ93 (fun r96 σ95 => (((r94 = r96) → BL_law_18 L xs post n ((x3 + 4)) σ95) ∧ ((¬ r94 = r96) → post (0 : Int32) σ95))))))))))) ∧ ((((xs (x3).toNatClampNeg) &&& (31 : Int32)) = 19) → wpX6_rank σ (fun r99 σ98 => wpX7_rank σ98 (fun r101 σ100 => ((((lg_cmp r99 r101) = 0) → BL_law_18 L xs post n ((x3 + 4)) σ100) ∧ ((¬ (lg_cmp r99 r101) = 0) → post (0 : Int32) σ100))))) ∧ ((((xs (x3).toNatClampNeg) &&& (31 : Int32)) = 20) → (vp_in ((x3 + (1 : Int32))) L ∧ wpX6_keep ((xs ((x3 + (1 : Int32))).toNatClampNeg)) σ (fun r104 σ103 => (vp_in ((x3 + (1 : Int32))) L ∧ wpX7_keep ((xs ((x3 + (1 : Int32))).toNatClampNeg)) σ103 (fun r106 σ105 => (((r104 = r106) → BL_law_18 L xs post n ((x3 + 4)) σ105) ∧ ((¬ r104 = r106) → post (0 : Int32) σ105))))))) ∧ ((((xs (x3).toNatClampNeg) &&& (31 : Int32)) = 21) → (vp_in ((x3 + (1 : Int32))) L ∧ wpX6_back ((xs ((x3 + (1 : Int32))).toNatClampNeg)) σ (fun r109 σ108 => (vp_in ((x3 + (1 : Int32))) L ∧ wpX7_back ((xs ((x3 + (1 : Int32))).toNatClampNeg)) σ108 (fun r111 σ110 => (((r109 = r111) → BL_law_18 L xs post n ((x3 + 4)) σ110) ∧ ((¬ r109 = r111) → post (0 : Int32) σ110)))))))))))
set_option maxHeartbeats 4000000 in
set_option maxRecDepth 100000 in
theorem TL_law_18 (C : s_C G p s args m c RL cL_law) (hml : c.maxLocals = 4) (hcs : cells ≤ (rm_L_law).cells ∧ slots ≤ (rm_L_law).slots) {L : Nat} {xs : Nat → Int32} {b : Nat} (hX : va_X b L xs s H0) (hbl : b < H0.size) (hbA : ¬ s_A G.2.2 b) {post : Int32 → Sg → Prop} (hR : ∀ (r : Int32) (σ1 : Sg) (H : Heap) (locs : List Loc) (pc : Nat) (ls : Array Slot), decode cL_law pc = .ok (.ireturn, 1) → narrow .boolean (.int r) = .int r → post r σ1 → s_St G σ1 H0 H locs → W p l e rm_L_law s m args below meth c H locs cells slots Q (F0 m pc ls [.int r])) : ∀ (n : Nat) (x3 : Int32), ∀ {σ : Sg} {H : Heap} {locs : List Loc} {ls : Array Slot}, s_St G σ H0 H locs → lv_has ls 4 [(0, .ref b), (1, .ref (G.2.2 + 0)), (2, .ref (G.2.2 + 117)), (3, .int x3)] → BL_law_18 L xs post n x3 σ → W p l e rm_L_law s m args below meth c H locs cells slots Q (F0 m 18 ls []) := by
  intro n
  induction n with
  | zero =>
    intro x3  σ H locs ls S hl h
    exact absurd h (fun h => h)
  | succ n ih0 =>
    have ih : ∀ (x3 : Int32), ∀ (σ : Sg) (H : Heap) (locs : List Loc) (ls : Array Slot), s_St G σ H0 H locs → lv_has ls 4 [(0, .ref b), (1, .ref (G.2.2 + 0)), (2, .ref (G.2.2 + 117)), (3, .int x3)] → BL_law_18 L xs post n x3 σ → W p l e rm_L_law s m args below meth c H locs cells slots Q (F0 m 18 ls []) := fun x3  _ _ _ _ => ih0 x3 
    intro x3  σ H locs ls S hl h
    refine lv_iload_n C.1 C.2.1 dL_law_18 rfl (lv_at hl 3 rfl) ?_
    refine lv_aload_n C.1 C.2.1 dL_law_19 rfl (lv_at hl 0 rfl) ?_
    refine va_slen C.1 C.2.1 hX hbl hbA S.2.1 dL_law_20 ?_
    refine W.eq (g2 := F0 m 21 ls [.int (nI L), .int x3]) rfl ?_
    refine lv_iconst (v := (4 : Int32)) C.1 C.2.1 dL_law_21 (by decide) ?_
    refine lv_isub C.1 C.2.1 dL_law_22 ?_
    refine lv_icmp_gt (tgt := 730) C.1 C.2.1 dL_law_23 (by decide) (fun c1 => ?_) (fun c1 => ?_)
    · replace h := h.1 c1
      refine lv_iconst (v := (1 : Int32)) C.1 C.2.1 dL_law_730 (by decide) ?_
      exact hR _ _ _ _ _ _ dL_law_731 rfl h S
    · replace h := h.2 c1
      refine lv_aload_n C.1 C.2.1 dL_law_26 rfl (lv_at hl 0 rfl) ?_
      refine lv_iload_n C.1 C.2.1 dL_law_27 rfl (lv_at hl 3 rfl) ?_
      refine va_sld C.1 C.2.1 hX hbl hbA S.2.1 h.1 dL_law_28 ?_
      replace h := h.2
      refine lv_bipush (v := (31 : Int32)) C.1 C.2.1 dL_law_29 (by decide) ?_
      refine lv_iand C.1 C.2.1 dL_law_31 ?_
      rcases (sw_0_21 (((xs (x3).toNatClampNeg) &&& (31 : Int32)))) with c2 | c2 | c2 | c2 | c2 | c2 | c2 | c2 | c2 | c2 | c2 | c2 | c2 | c2 | c2 | c2 | c2 | c2 | c2 | c2 | c2 | c2 | c2
      · replace h := h.1 c2
        refine lv_tableOut (tgt := 724) C.1 C.2.1 dL_law_32 c2 (by decide) ?_
        refine lv_iinc (v := (x3 + 4)) (lv' := [(3, .int (x3 + 4)), (0, .ref b), (1, .ref (G.2.2 + 0)), (2, .ref (G.2.2 + 117))]) C.1 C.2.1 dL_law_724 hl (k := 3) rfl rfl (by decide) rfl (fun ls hl => ?_)
        refine lv_goto (tgt := 18) C.1 C.2.1 dL_law_727 (by decide) ?_
        exact ih ((x3 + 4)) _ _ _ _ S (lv_sub hl [1, 2, 3, 0] rfl) h
      · replace h := h.2.1 c2
        refine lv_tableIn (tgt := 136) (off := 104) C.1 C.2.1 dL_law_32 (by rw [c2]; decide) (by rw [c2]; decide) (by rw [c2]; decide) (by decide) ?_
        refine lv_aload_n C.1 C.2.1 dL_law_136 rfl (lv_at hl 1 rfl) ?_
        refine lv_aload_n C.1 C.2.1 dL_law_137 rfl (lv_at hl 0 rfl) ?_
        refine lv_iload_n C.1 C.2.1 dL_law_138 rfl (lv_at hl 3 rfl) ?_
        refine lv_iconst (v := (1 : Int32)) C.1 C.2.1 dL_law_139 (by decide) ?_
        refine lv_iadd C.1 C.2.1 dL_law_140 ?_
        refine va_sld C.1 C.2.1 hX hbl hbA S.2.1 h.1 dL_law_141 ?_
        replace h := h.2
        refine k_i (r_V (As := [.int (xs ((x3 + (1 : Int32))).toNatClampNeg)]) (rest := []) C hml (c_X6_write l G ((xs ((x3 + (1 : Int32))).toNatClampNeg)) σ _ h) kM_X6_write im_X6_write se_X6_write ml_L_13 ⟨rfl, rfl⟩ ⟨Nat.le_of_ble_eq_true rfl, Nat.le_of_ble_eq_true rfl⟩ hcs S kd_0 (by decide) (T := TX6) (N := 8) rfl rfl hl.1 rfl (Nat.le_of_ble_eq_true rfl) dL_law_142) S (fun r4 σ3 H locs h S => ?_)
        refine lv_aload_n C.1 C.2.1 dL_law_145 rfl (lv_at hl 2 rfl) ?_
        refine lv_aload_n C.1 C.2.1 dL_law_146 rfl (lv_at hl 0 rfl) ?_
        refine lv_iload_n C.1 C.2.1 dL_law_147 rfl (lv_at hl 3 rfl) ?_
        refine lv_iconst (v := (1 : Int32)) C.1 C.2.1 dL_law_148 (by decide) ?_
        refine lv_iadd C.1 C.2.1 dL_law_149 ?_
        refine va_sld C.1 C.2.1 hX hbl hbA S.2.1 h.1 dL_law_150 ?_
        replace h := h.2
        refine k_i (r_V (As := [.int (xs ((x3 + (1 : Int32))).toNatClampNeg)]) (rest := [.int r4]) C hml (c_X7_write l G ((xs ((x3 + (1 : Int32))).toNatClampNeg)) σ3 _ h) kM_X7_write im_X7_write se_X7_write ml_L_17 ⟨rfl, rfl⟩ ⟨Nat.le_of_ble_eq_true rfl, Nat.le_of_ble_eq_true rfl⟩ hcs S kd_117 (by decide) (T := TX7) (N := 17) rfl rfl hl.1 rfl (Nat.le_of_ble_eq_true rfl) dL_law_151) S (fun r6 σ5 H locs h S => ?_)
        refine lv_icmp_eq (tgt := 724) C.1 C.2.1 dL_law_154 (by decide) (fun c7 => ?_) (fun c7 => ?_)
        · replace h := h.1 c7
          refine lv_iinc (v := (x3 + 4)) (lv' := [(3, .int (x3 + 4)), (0, .ref b), (1, .ref (G.2.2 + 0)), (2, .ref (G.2.2 + 117))]) C.1 C.2.1 dL_law_724 hl (k := 3) rfl rfl (by decide) rfl (fun ls hl => ?_)
          refine lv_goto (tgt := 18) C.1 C.2.1 dL_law_727 (by decide) ?_
          exact ih ((x3 + 4)) _ _ _ _ S (lv_sub hl [1, 2, 3, 0] rfl) h
        · replace h := h.2 c7
          refine lv_iconst (v := (0 : Int32)) C.1 C.2.1 dL_law_157 (by decide) ?_
          exact hR _ _ _ _ _ _ dL_law_158 rfl h S
      · replace h := h.2.2.1 c2
        refine lv_tableIn (tgt := 159) (off := 127) C.1 C.2.1 dL_law_32 (by rw [c2]; decide) (by rw [c2]; decide) (by rw [c2]; decide) (by decide) ?_
        refine lv_aload_n C.1 C.2.1 dL_law_159 rfl (lv_at hl 1 rfl) ?_
        refine k_i (r_V (As := []) (rest := []) C hml (c_X6_wipe l G σ _ h) kM_X6_wipe im_X6_wipe se_X6_wipe ml_L_18 ⟨rfl, rfl⟩ ⟨Nat.le_of_ble_eq_true rfl, Nat.le_of_ble_eq_true rfl⟩ hcs S kd_0 (by decide) (T := TX6) (N := 8) rfl rfl hl.1 rfl (Nat.le_of_ble_eq_true rfl) dL_law_160) S (fun r9 σ8 H locs h S => ?_)
        refine lv_aload_n C.1 C.2.1 dL_law_163 rfl (lv_at hl 2 rfl) ?_
        refine k_i (r_V (As := []) (rest := [.int r9]) C hml (c_X7_wipe l G σ8 _ h) kM_X7_wipe im_X7_wipe se_X7_wipe ml_L_22 ⟨rfl, rfl⟩ ⟨Nat.le_of_ble_eq_true rfl, Nat.le_of_ble_eq_true rfl⟩ hcs S kd_117 (by decide) (T := TX7) (N := 17) rfl rfl hl.1 rfl (Nat.le_of_ble_eq_true rfl) dL_law_164) S (fun r11 σ10 H locs h S => ?_)
        refine lv_icmp_eq (tgt := 724) C.1 C.2.1 dL_law_167 (by decide) (fun c12 => ?_) (fun c12 => ?_)
        · replace h := h.1 c12
          refine lv_iinc (v := (x3 + 4)) (lv' := [(3, .int (x3 + 4)), (0, .ref b), (1, .ref (G.2.2 + 0)), (2, .ref (G.2.2 + 117))]) C.1 C.2.1 dL_law_724 hl (k := 3) rfl rfl (by decide) rfl (fun ls hl => ?_)
          refine lv_goto (tgt := 18) C.1 C.2.1 dL_law_727 (by decide) ?_
          exact ih ((x3 + 4)) _ _ _ _ S (lv_sub hl [1, 2, 3, 0] rfl) h
        · replace h := h.2 c12
          refine lv_iconst (v := (0 : Int32)) C.1 C.2.1 dL_law_170 (by decide) ?_
          exact hR _ _ _ _ _ _ dL_law_171 rfl h S
      · replace h := h.2.2.2.1 c2
        refine lv_tableIn (tgt := 172) (off := 140) C.1 C.2.1 dL_law_32 (by rw [c2]; decide) (by rw [c2]; decide) (by rw [c2]; decide) (by decide) ?_
        refine lv_aload_n C.1 C.2.1 dL_law_172 rfl (lv_at hl 1 rfl) ?_
        refine lv_aload_n C.1 C.2.1 dL_law_173 rfl (lv_at hl 0 rfl) ?_
        refine lv_iload_n C.1 C.2.1 dL_law_174 rfl (lv_at hl 3 rfl) ?_
        refine lv_iconst (v := (1 : Int32)) C.1 C.2.1 dL_law_175 (by decide) ?_
        refine lv_iadd C.1 C.2.1 dL_law_176 ?_
        refine va_sld C.1 C.2.1 hX hbl hbA S.2.1 h.1 dL_law_177 ?_
        replace h := h.2
        refine lv_aload_n C.1 C.2.1 dL_law_178 rfl (lv_at hl 0 rfl) ?_
        refine lv_iload_n C.1 C.2.1 dL_law_179 rfl (lv_at hl 3 rfl) ?_
        refine lv_iconst (v := (2 : Int32)) C.1 C.2.1 dL_law_180 (by decide) ?_
        refine lv_iadd C.1 C.2.1 dL_law_181 ?_
        refine va_sld C.1 C.2.1 hX hbl hbA S.2.1 h.1 dL_law_182 ?_
        replace h := h.2
        refine lv_aload_n C.1 C.2.1 dL_law_183 rfl (lv_at hl 0 rfl) ?_
        refine lv_iload_n C.1 C.2.1 dL_law_184 rfl (lv_at hl 3 rfl) ?_
        refine lv_iconst (v := (3 : Int32)) C.1 C.2.1 dL_law_185 (by decide) ?_
        refine lv_iadd C.1 C.2.1 dL_law_186 ?_
        refine va_sld C.1 C.2.1 hX hbl hbA S.2.1 h.1 dL_law_187 ?_
        replace h := h.2
        refine k_i (r_V (As := [.int (xs ((x3 + (1 : Int32))).toNatClampNeg), .int (xs ((x3 + (2 : Int32))).toNatClampNeg), .int (xs ((x3 + (3 : Int32))).toNatClampNeg)]) (rest := []) C hml (c_X6_declare l G ((xs ((x3 + (1 : Int32))).toNatClampNeg)) ((xs ((x3 + (2 : Int32))).toNatClampNeg)) ((xs ((x3 + (3 : Int32))).toNatClampNeg)) σ _ h) kM_X6_declare im_X6_declare se_X6_declare ml_L_23 ⟨rfl, rfl⟩ ⟨Nat.le_of_ble_eq_true rfl, Nat.le_of_ble_eq_true rfl⟩ hcs S kd_0 (by decide) (T := TX6) (N := 8) rfl rfl hl.1 rfl (Nat.le_of_ble_eq_true rfl) dL_law_188) S (fun r14 σ13 H locs h S => ?_)
        refine lv_aload_n C.1 C.2.1 dL_law_191 rfl (lv_at hl 2 rfl) ?_
        refine lv_aload_n C.1 C.2.1 dL_law_192 rfl (lv_at hl 0 rfl) ?_
        refine lv_iload_n C.1 C.2.1 dL_law_193 rfl (lv_at hl 3 rfl) ?_
        refine lv_iconst (v := (1 : Int32)) C.1 C.2.1 dL_law_194 (by decide) ?_
        refine lv_iadd C.1 C.2.1 dL_law_195 ?_
        refine va_sld C.1 C.2.1 hX hbl hbA S.2.1 h.1 dL_law_196 ?_
        replace h := h.2
        refine lv_aload_n C.1 C.2.1 dL_law_197 rfl (lv_at hl 0 rfl) ?_
        refine lv_iload_n C.1 C.2.1 dL_law_198 rfl (lv_at hl 3 rfl) ?_
        refine lv_iconst (v := (2 : Int32)) C.1 C.2.1 dL_law_199 (by decide) ?_
        refine lv_iadd C.1 C.2.1 dL_law_200 ?_
        refine va_sld C.1 C.2.1 hX hbl hbA S.2.1 h.1 dL_law_201 ?_
        replace h := h.2
        refine lv_aload_n C.1 C.2.1 dL_law_202 rfl (lv_at hl 0 rfl) ?_
        refine lv_iload_n C.1 C.2.1 dL_law_203 rfl (lv_at hl 3 rfl) ?_
        refine lv_iconst (v := (3 : Int32)) C.1 C.2.1 dL_law_204 (by decide) ?_
        refine lv_iadd C.1 C.2.1 dL_law_205 ?_
        refine va_sld C.1 C.2.1 hX hbl hbA S.2.1 h.1 dL_law_206 ?_
        replace h := h.2
        refine k_i (r_V (As := [.int (xs ((x3 + (1 : Int32))).toNatClampNeg), .int (xs ((x3 + (2 : Int32))).toNatClampNeg), .int (xs ((x3 + (3 : Int32))).toNatClampNeg)]) (rest := [.int r14]) C hml (c_X7_declare l G ((xs ((x3 + (1 : Int32))).toNatClampNeg)) ((xs ((x3 + (2 : Int32))).toNatClampNeg)) ((xs ((x3 + (3 : Int32))).toNatClampNeg)) σ13 _ h) kM_X7_declare im_X7_declare se_X7_declare ml_L_27 ⟨rfl, rfl⟩ ⟨Nat.le_of_ble_eq_true rfl, Nat.le_of_ble_eq_true rfl⟩ hcs S kd_117 (by decide) (T := TX7) (N := 17) rfl rfl hl.1 rfl (Nat.le_of_ble_eq_true rfl) dL_law_207) S (fun r16 σ15 H locs h S => ?_)
        refine lv_icmp_eq (tgt := 724) C.1 C.2.1 dL_law_210 (by decide) (fun c17 => ?_) (fun c17 => ?_)
        · replace h := h.1 c17
          refine lv_iinc (v := (x3 + 4)) (lv' := [(3, .int (x3 + 4)), (0, .ref b), (1, .ref (G.2.2 + 0)), (2, .ref (G.2.2 + 117))]) C.1 C.2.1 dL_law_724 hl (k := 3) rfl rfl (by decide) rfl (fun ls hl => ?_)
          refine lv_goto (tgt := 18) C.1 C.2.1 dL_law_727 (by decide) ?_
          exact ih ((x3 + 4)) _ _ _ _ S (lv_sub hl [1, 2, 3, 0] rfl) h
        · replace h := h.2 c17
          refine lv_iconst (v := (0 : Int32)) C.1 C.2.1 dL_law_213 (by decide) ?_
          exact hR _ _ _ _ _ _ dL_law_214 rfl h S
      · replace h := h.2.2.2.2.1 c2
        refine lv_tableIn (tgt := 215) (off := 183) C.1 C.2.1 dL_law_32 (by rw [c2]; decide) (by rw [c2]; decide) (by rw [c2]; decide) (by decide) ?_
        refine lv_aload_n C.1 C.2.1 dL_law_215 rfl (lv_at hl 1 rfl) ?_
        refine lv_aload_n C.1 C.2.1 dL_law_216 rfl (lv_at hl 0 rfl) ?_
        refine lv_iload_n C.1 C.2.1 dL_law_217 rfl (lv_at hl 3 rfl) ?_
        refine lv_iconst (v := (1 : Int32)) C.1 C.2.1 dL_law_218 (by decide) ?_
        refine lv_iadd C.1 C.2.1 dL_law_219 ?_
        refine va_sld C.1 C.2.1 hX hbl hbA S.2.1 h.1 dL_law_220 ?_
        replace h := h.2
        refine k_i (r_V (As := [.int (xs ((x3 + (1 : Int32))).toNatClampNeg)]) (rest := []) C hml (c_X6_remove l G ((xs ((x3 + (1 : Int32))).toNatClampNeg)) σ _ h) kM_X6_remove im_X6_remove se_X6_remove ml_L_28 ⟨rfl, rfl⟩ ⟨Nat.le_of_ble_eq_true rfl, Nat.le_of_ble_eq_true rfl⟩ hcs S kd_0 (by decide) (T := TX6) (N := 8) rfl rfl hl.1 rfl (Nat.le_of_ble_eq_true rfl) dL_law_221) S (fun r19 σ18 H locs h S => ?_)
        refine lv_aload_n C.1 C.2.1 dL_law_224 rfl (lv_at hl 2 rfl) ?_
        refine lv_aload_n C.1 C.2.1 dL_law_225 rfl (lv_at hl 0 rfl) ?_
        refine lv_iload_n C.1 C.2.1 dL_law_226 rfl (lv_at hl 3 rfl) ?_
        refine lv_iconst (v := (1 : Int32)) C.1 C.2.1 dL_law_227 (by decide) ?_
        refine lv_iadd C.1 C.2.1 dL_law_228 ?_
        refine va_sld C.1 C.2.1 hX hbl hbA S.2.1 h.1 dL_law_229 ?_
        replace h := h.2
        refine k_i (r_V (As := [.int (xs ((x3 + (1 : Int32))).toNatClampNeg)]) (rest := [.int r19]) C hml (c_X7_remove l G ((xs ((x3 + (1 : Int32))).toNatClampNeg)) σ18 _ h) kM_X7_remove im_X7_remove se_X7_remove ml_L_31 ⟨rfl, rfl⟩ ⟨Nat.le_of_ble_eq_true rfl, Nat.le_of_ble_eq_true rfl⟩ hcs S kd_117 (by decide) (T := TX7) (N := 17) rfl rfl hl.1 rfl (Nat.le_of_ble_eq_true rfl) dL_law_230) S (fun r21 σ20 H locs h S => ?_)
        refine lv_icmp_eq (tgt := 724) C.1 C.2.1 dL_law_233 (by decide) (fun c22 => ?_) (fun c22 => ?_)
        · replace h := h.1 c22
          refine lv_iinc (v := (x3 + 4)) (lv' := [(3, .int (x3 + 4)), (0, .ref b), (1, .ref (G.2.2 + 0)), (2, .ref (G.2.2 + 117))]) C.1 C.2.1 dL_law_724 hl (k := 3) rfl rfl (by decide) rfl (fun ls hl => ?_)
          refine lv_goto (tgt := 18) C.1 C.2.1 dL_law_727 (by decide) ?_
          exact ih ((x3 + 4)) _ _ _ _ S (lv_sub hl [1, 2, 3, 0] rfl) h
        · replace h := h.2 c22
          refine lv_iconst (v := (0 : Int32)) C.1 C.2.1 dL_law_236 (by decide) ?_
          exact hR _ _ _ _ _ _ dL_law_237 rfl h S
      · replace h := h.2.2.2.2.2.1 c2
        refine lv_tableIn (tgt := 238) (off := 206) C.1 C.2.1 dL_law_32 (by rw [c2]; decide) (by rw [c2]; decide) (by rw [c2]; decide) (by decide) ?_
        refine lv_aload_n C.1 C.2.1 dL_law_238 rfl (lv_at hl 1 rfl) ?_
        refine lv_aload_n C.1 C.2.1 dL_law_239 rfl (lv_at hl 0 rfl) ?_
        refine lv_iload_n C.1 C.2.1 dL_law_240 rfl (lv_at hl 3 rfl) ?_
        refine lv_iconst (v := (1 : Int32)) C.1 C.2.1 dL_law_241 (by decide) ?_
        refine lv_iadd C.1 C.2.1 dL_law_242 ?_
        refine va_sld C.1 C.2.1 hX hbl hbA S.2.1 h.1 dL_law_243 ?_
        replace h := h.2
        refine lv_aload_n C.1 C.2.1 dL_law_244 rfl (lv_at hl 0 rfl) ?_
        refine lv_iload_n C.1 C.2.1 dL_law_245 rfl (lv_at hl 3 rfl) ?_
        refine lv_iconst (v := (2 : Int32)) C.1 C.2.1 dL_law_246 (by decide) ?_
        refine lv_iadd C.1 C.2.1 dL_law_247 ?_
        refine va_sld C.1 C.2.1 hX hbl hbA S.2.1 h.1 dL_law_248 ?_
        replace h := h.2
        refine lv_aload_n C.1 C.2.1 dL_law_249 rfl (lv_at hl 0 rfl) ?_
        refine lv_iload_n C.1 C.2.1 dL_law_250 rfl (lv_at hl 3 rfl) ?_
        refine lv_iconst (v := (3 : Int32)) C.1 C.2.1 dL_law_251 (by decide) ?_
        refine lv_iadd C.1 C.2.1 dL_law_252 ?_
        refine va_sld C.1 C.2.1 hX hbl hbA S.2.1 h.1 dL_law_253 ?_
        replace h := h.2
        refine k_i (r_V (As := [.int (xs ((x3 + (1 : Int32))).toNatClampNeg), .int (xs ((x3 + (2 : Int32))).toNatClampNeg), .int (xs ((x3 + (3 : Int32))).toNatClampNeg)]) (rest := []) C hml (c_X6_set l G ((xs ((x3 + (1 : Int32))).toNatClampNeg)) ((xs ((x3 + (2 : Int32))).toNatClampNeg)) ((xs ((x3 + (3 : Int32))).toNatClampNeg)) σ _ h) kM_X6_set im_X6_set se_X6_set ml_L_32 ⟨rfl, rfl⟩ ⟨Nat.le_of_ble_eq_true rfl, Nat.le_of_ble_eq_true rfl⟩ hcs S kd_0 (by decide) (T := TX6) (N := 8) rfl rfl hl.1 rfl (Nat.le_of_ble_eq_true rfl) dL_law_254) S (fun r24 σ23 H locs h S => ?_)
        refine lv_aload_n C.1 C.2.1 dL_law_257 rfl (lv_at hl 2 rfl) ?_
        refine lv_aload_n C.1 C.2.1 dL_law_258 rfl (lv_at hl 0 rfl) ?_
        refine lv_iload_n C.1 C.2.1 dL_law_259 rfl (lv_at hl 3 rfl) ?_
        refine lv_iconst (v := (1 : Int32)) C.1 C.2.1 dL_law_260 (by decide) ?_
        refine lv_iadd C.1 C.2.1 dL_law_261 ?_
        refine va_sld C.1 C.2.1 hX hbl hbA S.2.1 h.1 dL_law_262 ?_
        replace h := h.2
        refine lv_aload_n C.1 C.2.1 dL_law_263 rfl (lv_at hl 0 rfl) ?_
        refine lv_iload_n C.1 C.2.1 dL_law_264 rfl (lv_at hl 3 rfl) ?_
        refine lv_iconst (v := (2 : Int32)) C.1 C.2.1 dL_law_265 (by decide) ?_
        refine lv_iadd C.1 C.2.1 dL_law_266 ?_
        refine va_sld C.1 C.2.1 hX hbl hbA S.2.1 h.1 dL_law_267 ?_
        replace h := h.2
        refine lv_aload_n C.1 C.2.1 dL_law_268 rfl (lv_at hl 0 rfl) ?_
        refine lv_iload_n C.1 C.2.1 dL_law_269 rfl (lv_at hl 3 rfl) ?_
        refine lv_iconst (v := (3 : Int32)) C.1 C.2.1 dL_law_270 (by decide) ?_
        refine lv_iadd C.1 C.2.1 dL_law_271 ?_
        refine va_sld C.1 C.2.1 hX hbl hbA S.2.1 h.1 dL_law_272 ?_
        replace h := h.2
        refine k_i (r_V (As := [.int (xs ((x3 + (1 : Int32))).toNatClampNeg), .int (xs ((x3 + (2 : Int32))).toNatClampNeg), .int (xs ((x3 + (3 : Int32))).toNatClampNeg)]) (rest := [.int r24]) C hml (c_X7_set l G ((xs ((x3 + (1 : Int32))).toNatClampNeg)) ((xs ((x3 + (2 : Int32))).toNatClampNeg)) ((xs ((x3 + (3 : Int32))).toNatClampNeg)) σ23 _ h) kM_X7_set im_X7_set se_X7_set ml_L_35 ⟨rfl, rfl⟩ ⟨Nat.le_of_ble_eq_true rfl, Nat.le_of_ble_eq_true rfl⟩ hcs S kd_117 (by decide) (T := TX7) (N := 17) rfl rfl hl.1 rfl (Nat.le_of_ble_eq_true rfl) dL_law_273) S (fun r26 σ25 H locs h S => ?_)
        refine lv_icmp_eq (tgt := 724) C.1 C.2.1 dL_law_276 (by decide) (fun c27 => ?_) (fun c27 => ?_)
        · replace h := h.1 c27
          refine lv_iinc (v := (x3 + 4)) (lv' := [(3, .int (x3 + 4)), (0, .ref b), (1, .ref (G.2.2 + 0)), (2, .ref (G.2.2 + 117))]) C.1 C.2.1 dL_law_724 hl (k := 3) rfl rfl (by decide) rfl (fun ls hl => ?_)
          refine lv_goto (tgt := 18) C.1 C.2.1 dL_law_727 (by decide) ?_
          exact ih ((x3 + 4)) _ _ _ _ S (lv_sub hl [1, 2, 3, 0] rfl) h
        · replace h := h.2 c27
          refine lv_iconst (v := (0 : Int32)) C.1 C.2.1 dL_law_279 (by decide) ?_
          exact hR _ _ _ _ _ _ dL_law_280 rfl h S
      · replace h := h.2.2.2.2.2.2.1 c2
        refine lv_tableIn (tgt := 281) (off := 249) C.1 C.2.1 dL_law_32 (by rw [c2]; decide) (by rw [c2]; decide) (by rw [c2]; decide) (by decide) ?_
        refine lv_aload_n C.1 C.2.1 dL_law_281 rfl (lv_at hl 1 rfl) ?_
        refine lv_aload_n C.1 C.2.1 dL_law_282 rfl (lv_at hl 0 rfl) ?_
        refine lv_iload_n C.1 C.2.1 dL_law_283 rfl (lv_at hl 3 rfl) ?_
        refine lv_iconst (v := (1 : Int32)) C.1 C.2.1 dL_law_284 (by decide) ?_
        refine lv_iadd C.1 C.2.1 dL_law_285 ?_
        refine va_sld C.1 C.2.1 hX hbl hbA S.2.1 h.1 dL_law_286 ?_
        replace h := h.2
        refine lv_aload_n C.1 C.2.1 dL_law_287 rfl (lv_at hl 0 rfl) ?_
        refine lv_iload_n C.1 C.2.1 dL_law_288 rfl (lv_at hl 3 rfl) ?_
        refine lv_iconst (v := (2 : Int32)) C.1 C.2.1 dL_law_289 (by decide) ?_
        refine lv_iadd C.1 C.2.1 dL_law_290 ?_
        refine va_sld C.1 C.2.1 hX hbl hbA S.2.1 h.1 dL_law_291 ?_
        replace h := h.2
        refine k_i (r_V (As := [.int (xs ((x3 + (1 : Int32))).toNatClampNeg), .int (xs ((x3 + (2 : Int32))).toNatClampNeg)]) (rest := []) C hml (c_X6_move l G ((xs ((x3 + (1 : Int32))).toNatClampNeg)) ((xs ((x3 + (2 : Int32))).toNatClampNeg)) σ _ h) kM_X6_move im_X6_move se_X6_move ml_L_36 ⟨rfl, rfl⟩ ⟨Nat.le_of_ble_eq_true rfl, Nat.le_of_ble_eq_true rfl⟩ hcs S kd_0 (by decide) (T := TX6) (N := 8) rfl rfl hl.1 rfl (Nat.le_of_ble_eq_true rfl) dL_law_292) S (fun r29 σ28 H locs h S => ?_)
        refine lv_aload_n C.1 C.2.1 dL_law_295 rfl (lv_at hl 2 rfl) ?_
        refine lv_aload_n C.1 C.2.1 dL_law_296 rfl (lv_at hl 0 rfl) ?_
        refine lv_iload_n C.1 C.2.1 dL_law_297 rfl (lv_at hl 3 rfl) ?_
        refine lv_iconst (v := (1 : Int32)) C.1 C.2.1 dL_law_298 (by decide) ?_
        refine lv_iadd C.1 C.2.1 dL_law_299 ?_
        refine va_sld C.1 C.2.1 hX hbl hbA S.2.1 h.1 dL_law_300 ?_
        replace h := h.2
        refine lv_aload_n C.1 C.2.1 dL_law_301 rfl (lv_at hl 0 rfl) ?_
        refine lv_iload_n C.1 C.2.1 dL_law_302 rfl (lv_at hl 3 rfl) ?_
        refine lv_iconst (v := (2 : Int32)) C.1 C.2.1 dL_law_303 (by decide) ?_
        refine lv_iadd C.1 C.2.1 dL_law_304 ?_
        refine va_sld C.1 C.2.1 hX hbl hbA S.2.1 h.1 dL_law_305 ?_
        replace h := h.2
        refine k_i (r_V (As := [.int (xs ((x3 + (1 : Int32))).toNatClampNeg), .int (xs ((x3 + (2 : Int32))).toNatClampNeg)]) (rest := [.int r29]) C hml (c_X7_move l G ((xs ((x3 + (1 : Int32))).toNatClampNeg)) ((xs ((x3 + (2 : Int32))).toNatClampNeg)) σ28 _ h) kM_X7_move im_X7_move se_X7_move ml_L_40 ⟨rfl, rfl⟩ ⟨Nat.le_of_ble_eq_true rfl, Nat.le_of_ble_eq_true rfl⟩ hcs S kd_117 (by decide) (T := TX7) (N := 17) rfl rfl hl.1 rfl (Nat.le_of_ble_eq_true rfl) dL_law_306) S (fun r31 σ30 H locs h S => ?_)
        refine lv_icmp_eq (tgt := 724) C.1 C.2.1 dL_law_309 (by decide) (fun c32 => ?_) (fun c32 => ?_)
        · replace h := h.1 c32
          refine lv_iinc (v := (x3 + 4)) (lv' := [(3, .int (x3 + 4)), (0, .ref b), (1, .ref (G.2.2 + 0)), (2, .ref (G.2.2 + 117))]) C.1 C.2.1 dL_law_724 hl (k := 3) rfl rfl (by decide) rfl (fun ls hl => ?_)
          refine lv_goto (tgt := 18) C.1 C.2.1 dL_law_727 (by decide) ?_
          exact ih ((x3 + 4)) _ _ _ _ S (lv_sub hl [1, 2, 3, 0] rfl) h
        · replace h := h.2 c32
          refine lv_iconst (v := (0 : Int32)) C.1 C.2.1 dL_law_312 (by decide) ?_
          exact hR _ _ _ _ _ _ dL_law_313 rfl h S
      · replace h := h.2.2.2.2.2.2.2.1 c2
        refine lv_tableIn (tgt := 314) (off := 282) C.1 C.2.1 dL_law_32 (by rw [c2]; decide) (by rw [c2]; decide) (by rw [c2]; decide) (by decide) ?_
        refine lv_aload_n C.1 C.2.1 dL_law_314 rfl (lv_at hl 1 rfl) ?_
        refine lv_aload_n C.1 C.2.1 dL_law_315 rfl (lv_at hl 0 rfl) ?_
        refine lv_iload_n C.1 C.2.1 dL_law_316 rfl (lv_at hl 3 rfl) ?_
        refine lv_iconst (v := (1 : Int32)) C.1 C.2.1 dL_law_317 (by decide) ?_
        refine lv_iadd C.1 C.2.1 dL_law_318 ?_
        refine va_sld C.1 C.2.1 hX hbl hbA S.2.1 h.1 dL_law_319 ?_
        replace h := h.2
        refine k_i (r_V (As := [.int (xs ((x3 + (1 : Int32))).toNatClampNeg)]) (rest := []) C hml (c_X6_setSeparator l G ((xs ((x3 + (1 : Int32))).toNatClampNeg)) σ _ h) kM_X6_setSeparator im_X6_setSeparator se_X6_setSeparator ml_L_41 ⟨rfl, rfl⟩ ⟨Nat.le_of_ble_eq_true rfl, Nat.le_of_ble_eq_true rfl⟩ hcs S kd_0 (by decide) (T := TX6) (N := 8) rfl rfl hl.1 rfl (Nat.le_of_ble_eq_true rfl) dL_law_320) S (fun r34 σ33 H locs h S => ?_)
        refine lv_aload_n C.1 C.2.1 dL_law_323 rfl (lv_at hl 2 rfl) ?_
        refine lv_aload_n C.1 C.2.1 dL_law_324 rfl (lv_at hl 0 rfl) ?_
        refine lv_iload_n C.1 C.2.1 dL_law_325 rfl (lv_at hl 3 rfl) ?_
        refine lv_iconst (v := (1 : Int32)) C.1 C.2.1 dL_law_326 (by decide) ?_
        refine lv_iadd C.1 C.2.1 dL_law_327 ?_
        refine va_sld C.1 C.2.1 hX hbl hbA S.2.1 h.1 dL_law_328 ?_
        replace h := h.2
        refine k_i (r_V (As := [.int (xs ((x3 + (1 : Int32))).toNatClampNeg)]) (rest := [.int r34]) C hml (c_X7_setSeparator l G ((xs ((x3 + (1 : Int32))).toNatClampNeg)) σ33 _ h) kM_X7_setSeparator im_X7_setSeparator se_X7_setSeparator ml_L_44 ⟨rfl, rfl⟩ ⟨Nat.le_of_ble_eq_true rfl, Nat.le_of_ble_eq_true rfl⟩ hcs S kd_117 (by decide) (T := TX7) (N := 17) rfl rfl hl.1 rfl (Nat.le_of_ble_eq_true rfl) dL_law_329) S (fun r36 σ35 H locs h S => ?_)
        refine lv_icmp_eq (tgt := 724) C.1 C.2.1 dL_law_332 (by decide) (fun c37 => ?_) (fun c37 => ?_)
        · replace h := h.1 c37
          refine lv_iinc (v := (x3 + 4)) (lv' := [(3, .int (x3 + 4)), (0, .ref b), (1, .ref (G.2.2 + 0)), (2, .ref (G.2.2 + 117))]) C.1 C.2.1 dL_law_724 hl (k := 3) rfl rfl (by decide) rfl (fun ls hl => ?_)
          refine lv_goto (tgt := 18) C.1 C.2.1 dL_law_727 (by decide) ?_
          exact ih ((x3 + 4)) _ _ _ _ S (lv_sub hl [1, 2, 3, 0] rfl) h
        · replace h := h.2 c37
          refine lv_iconst (v := (0 : Int32)) C.1 C.2.1 dL_law_335 (by decide) ?_
          exact hR _ _ _ _ _ _ dL_law_336 rfl h S
      · replace h := h.2.2.2.2.2.2.2.2.1 c2
        refine lv_tableIn (tgt := 337) (off := 305) C.1 C.2.1 dL_law_32 (by rw [c2]; decide) (by rw [c2]; decide) (by rw [c2]; decide) (by decide) ?_
        refine lv_aload_n C.1 C.2.1 dL_law_337 rfl (lv_at hl 1 rfl) ?_
        refine lv_aload_n C.1 C.2.1 dL_law_338 rfl (lv_at hl 0 rfl) ?_
        refine lv_iload_n C.1 C.2.1 dL_law_339 rfl (lv_at hl 3 rfl) ?_
        refine lv_iconst (v := (1 : Int32)) C.1 C.2.1 dL_law_340 (by decide) ?_
        refine lv_iadd C.1 C.2.1 dL_law_341 ?_
        refine va_sld C.1 C.2.1 hX hbl hbA S.2.1 h.1 dL_law_342 ?_
        replace h := h.2
        refine lv_aload_n C.1 C.2.1 dL_law_343 rfl (lv_at hl 0 rfl) ?_
        refine lv_iload_n C.1 C.2.1 dL_law_344 rfl (lv_at hl 3 rfl) ?_
        refine lv_iconst (v := (2 : Int32)) C.1 C.2.1 dL_law_345 (by decide) ?_
        refine lv_iadd C.1 C.2.1 dL_law_346 ?_
        refine va_sld C.1 C.2.1 hX hbl hbA S.2.1 h.1 dL_law_347 ?_
        replace h := h.2
        refine lv_aload_n C.1 C.2.1 dL_law_348 rfl (lv_at hl 0 rfl) ?_
        refine lv_iload_n C.1 C.2.1 dL_law_349 rfl (lv_at hl 3 rfl) ?_
        refine lv_iconst (v := (3 : Int32)) C.1 C.2.1 dL_law_350 (by decide) ?_
        refine lv_iadd C.1 C.2.1 dL_law_351 ?_
        refine va_sld C.1 C.2.1 hX hbl hbA S.2.1 h.1 dL_law_352 ?_
        replace h := h.2
        refine k_i (r_V (As := [.int (xs ((x3 + (1 : Int32))).toNatClampNeg), .int (xs ((x3 + (2 : Int32))).toNatClampNeg), .int (xs ((x3 + (3 : Int32))).toNatClampNeg)]) (rest := []) C hml (c_X6_rule l G ((xs ((x3 + (1 : Int32))).toNatClampNeg)) ((xs ((x3 + (2 : Int32))).toNatClampNeg)) ((xs ((x3 + (3 : Int32))).toNatClampNeg)) σ _ h) kM_X6_rule im_X6_rule se_X6_rule ml_L_45 ⟨rfl, rfl⟩ ⟨Nat.le_of_ble_eq_true rfl, Nat.le_of_ble_eq_true rfl⟩ hcs S kd_0 (by decide) (T := TX6) (N := 8) rfl rfl hl.1 rfl (Nat.le_of_ble_eq_true rfl) dL_law_353) S (fun r39 σ38 H locs h S => ?_)
        refine lv_aload_n C.1 C.2.1 dL_law_356 rfl (lv_at hl 2 rfl) ?_
        refine lv_aload_n C.1 C.2.1 dL_law_357 rfl (lv_at hl 0 rfl) ?_
        refine lv_iload_n C.1 C.2.1 dL_law_358 rfl (lv_at hl 3 rfl) ?_
        refine lv_iconst (v := (1 : Int32)) C.1 C.2.1 dL_law_359 (by decide) ?_
        refine lv_iadd C.1 C.2.1 dL_law_360 ?_
        refine va_sld C.1 C.2.1 hX hbl hbA S.2.1 h.1 dL_law_361 ?_
        replace h := h.2
        refine lv_aload_n C.1 C.2.1 dL_law_362 rfl (lv_at hl 0 rfl) ?_
        refine lv_iload_n C.1 C.2.1 dL_law_363 rfl (lv_at hl 3 rfl) ?_
        refine lv_iconst (v := (2 : Int32)) C.1 C.2.1 dL_law_364 (by decide) ?_
        refine lv_iadd C.1 C.2.1 dL_law_365 ?_
        refine va_sld C.1 C.2.1 hX hbl hbA S.2.1 h.1 dL_law_366 ?_
        replace h := h.2
        refine lv_aload_n C.1 C.2.1 dL_law_367 rfl (lv_at hl 0 rfl) ?_
        refine lv_iload_n C.1 C.2.1 dL_law_368 rfl (lv_at hl 3 rfl) ?_
        refine lv_iconst (v := (3 : Int32)) C.1 C.2.1 dL_law_369 (by decide) ?_
        refine lv_iadd C.1 C.2.1 dL_law_370 ?_
        refine va_sld C.1 C.2.1 hX hbl hbA S.2.1 h.1 dL_law_371 ?_
        replace h := h.2
        refine k_i (r_V (As := [.int (xs ((x3 + (1 : Int32))).toNatClampNeg), .int (xs ((x3 + (2 : Int32))).toNatClampNeg), .int (xs ((x3 + (3 : Int32))).toNatClampNeg)]) (rest := [.int r39]) C hml (c_X7_rule l G ((xs ((x3 + (1 : Int32))).toNatClampNeg)) ((xs ((x3 + (2 : Int32))).toNatClampNeg)) ((xs ((x3 + (3 : Int32))).toNatClampNeg)) σ38 _ h) kM_X7_rule im_X7_rule se_X7_rule ml_L_48 ⟨rfl, rfl⟩ ⟨Nat.le_of_ble_eq_true rfl, Nat.le_of_ble_eq_true rfl⟩ hcs S kd_117 (by decide) (T := TX7) (N := 17) rfl rfl hl.1 rfl (Nat.le_of_ble_eq_true rfl) dL_law_372) S (fun r41 σ40 H locs h S => ?_)
        refine lv_icmp_eq (tgt := 724) C.1 C.2.1 dL_law_375 (by decide) (fun c42 => ?_) (fun c42 => ?_)
        · replace h := h.1 c42
          refine lv_iinc (v := (x3 + 4)) (lv' := [(3, .int (x3 + 4)), (0, .ref b), (1, .ref (G.2.2 + 0)), (2, .ref (G.2.2 + 117))]) C.1 C.2.1 dL_law_724 hl (k := 3) rfl rfl (by decide) rfl (fun ls hl => ?_)
          refine lv_goto (tgt := 18) C.1 C.2.1 dL_law_727 (by decide) ?_
          exact ih ((x3 + 4)) _ _ _ _ S (lv_sub hl [1, 2, 3, 0] rfl) h
        · replace h := h.2 c42
          refine lv_iconst (v := (0 : Int32)) C.1 C.2.1 dL_law_378 (by decide) ?_
          exact hR _ _ _ _ _ _ dL_law_379 rfl h S
      · replace h := h.2.2.2.2.2.2.2.2.2.1 c2
        refine lv_tableIn (tgt := 380) (off := 348) C.1 C.2.1 dL_law_32 (by rw [c2]; decide) (by rw [c2]; decide) (by rw [c2]; decide) (by decide) ?_
        refine lv_aload_n C.1 C.2.1 dL_law_380 rfl (lv_at hl 1 rfl) ?_
        refine k_i (r_V (As := []) (rest := []) C hml (c_X6_undo l G σ _ h) kM_X6_undo im_X6_undo se_X6_undo ml_L_49 ⟨rfl, rfl⟩ ⟨Nat.le_of_ble_eq_true rfl, Nat.le_of_ble_eq_true rfl⟩ hcs S kd_0 (by decide) (T := TX6) (N := 8) rfl rfl hl.1 rfl (Nat.le_of_ble_eq_true rfl) dL_law_381) S (fun r44 σ43 H locs h S => ?_)
        refine lv_aload_n C.1 C.2.1 dL_law_384 rfl (lv_at hl 2 rfl) ?_
        refine k_i (r_V (As := []) (rest := [.int r44]) C hml (c_X7_undo l G σ43 _ h) kM_X7_undo im_X7_undo se_X7_undo ml_L_52 ⟨rfl, rfl⟩ ⟨Nat.le_of_ble_eq_true rfl, Nat.le_of_ble_eq_true rfl⟩ hcs S kd_117 (by decide) (T := TX7) (N := 17) rfl rfl hl.1 rfl (Nat.le_of_ble_eq_true rfl) dL_law_385) S (fun r46 σ45 H locs h S => ?_)
        refine lv_icmp_eq (tgt := 724) C.1 C.2.1 dL_law_388 (by decide) (fun c47 => ?_) (fun c47 => ?_)
        · replace h := h.1 c47
          refine lv_iinc (v := (x3 + 4)) (lv' := [(3, .int (x3 + 4)), (0, .ref b), (1, .ref (G.2.2 + 0)), (2, .ref (G.2.2 + 117))]) C.1 C.2.1 dL_law_724 hl (k := 3) rfl rfl (by decide) rfl (fun ls hl => ?_)
          refine lv_goto (tgt := 18) C.1 C.2.1 dL_law_727 (by decide) ?_
          exact ih ((x3 + 4)) _ _ _ _ S (lv_sub hl [1, 2, 3, 0] rfl) h
        · replace h := h.2 c47
          refine lv_iconst (v := (0 : Int32)) C.1 C.2.1 dL_law_391 (by decide) ?_
          exact hR _ _ _ _ _ _ dL_law_392 rfl h S
      · replace h := h.2.2.2.2.2.2.2.2.2.2.1 c2
        refine lv_tableIn (tgt := 393) (off := 361) C.1 C.2.1 dL_law_32 (by rw [c2]; decide) (by rw [c2]; decide) (by rw [c2]; decide) (by decide) ?_
        refine lv_aload_n C.1 C.2.1 dL_law_393 rfl (lv_at hl 1 rfl) ?_
        refine lv_aload_n C.1 C.2.1 dL_law_394 rfl (lv_at hl 0 rfl) ?_
        refine lv_iload_n C.1 C.2.1 dL_law_395 rfl (lv_at hl 3 rfl) ?_
        refine lv_iconst (v := (1 : Int32)) C.1 C.2.1 dL_law_396 (by decide) ?_
        refine lv_iadd C.1 C.2.1 dL_law_397 ?_
        refine va_sld C.1 C.2.1 hX hbl hbA S.2.1 h.1 dL_law_398 ?_
        replace h := h.2
        refine k_i (r_V (As := [.int (xs ((x3 + (1 : Int32))).toNatClampNeg)]) (rest := []) C hml (c_X6_told l G ((xs ((x3 + (1 : Int32))).toNatClampNeg)) σ _ h) kM_X6_told im_X6_told se_X6_told ml_L_53 ⟨rfl, rfl⟩ ⟨Nat.le_of_ble_eq_true rfl, Nat.le_of_ble_eq_true rfl⟩ hcs S kd_0 (by decide) (T := TX6) (N := 8) rfl rfl hl.1 rfl (Nat.le_of_ble_eq_true rfl) dL_law_399) S (fun r49 σ48 H locs h S => ?_)
        refine lv_aload_n C.1 C.2.1 dL_law_402 rfl (lv_at hl 2 rfl) ?_
        refine lv_aload_n C.1 C.2.1 dL_law_403 rfl (lv_at hl 0 rfl) ?_
        refine lv_iload_n C.1 C.2.1 dL_law_404 rfl (lv_at hl 3 rfl) ?_
        refine lv_iconst (v := (1 : Int32)) C.1 C.2.1 dL_law_405 (by decide) ?_
        refine lv_iadd C.1 C.2.1 dL_law_406 ?_
        refine va_sld C.1 C.2.1 hX hbl hbA S.2.1 h.1 dL_law_407 ?_
        replace h := h.2
        refine k_i (r_V (As := [.int (xs ((x3 + (1 : Int32))).toNatClampNeg)]) (rest := [.int r49]) C hml (c_X7_told l G ((xs ((x3 + (1 : Int32))).toNatClampNeg)) σ48 _ h) kM_X7_told im_X7_told se_X7_told ml_L_56 ⟨rfl, rfl⟩ ⟨Nat.le_of_ble_eq_true rfl, Nat.le_of_ble_eq_true rfl⟩ hcs S kd_117 (by decide) (T := TX7) (N := 17) rfl rfl hl.1 rfl (Nat.le_of_ble_eq_true rfl) dL_law_408) S (fun r51 σ50 H locs h S => ?_)
        refine lv_icmp_eq (tgt := 724) C.1 C.2.1 dL_law_411 (by decide) (fun c52 => ?_) (fun c52 => ?_)
        · replace h := h.1 c52
          refine lv_iinc (v := (x3 + 4)) (lv' := [(3, .int (x3 + 4)), (0, .ref b), (1, .ref (G.2.2 + 0)), (2, .ref (G.2.2 + 117))]) C.1 C.2.1 dL_law_724 hl (k := 3) rfl rfl (by decide) rfl (fun ls hl => ?_)
          refine lv_goto (tgt := 18) C.1 C.2.1 dL_law_727 (by decide) ?_
          exact ih ((x3 + 4)) _ _ _ _ S (lv_sub hl [1, 2, 3, 0] rfl) h
        · replace h := h.2 c52
          refine lv_iconst (v := (0 : Int32)) C.1 C.2.1 dL_law_414 (by decide) ?_
          exact hR _ _ _ _ _ _ dL_law_415 rfl h S
      · replace h := h.2.2.2.2.2.2.2.2.2.2.2.1 c2
        refine lv_tableIn (tgt := 416) (off := 384) C.1 C.2.1 dL_law_32 (by rw [c2]; decide) (by rw [c2]; decide) (by rw [c2]; decide) (by decide) ?_
        refine lv_aload_n C.1 C.2.1 dL_law_416 rfl (lv_at hl 1 rfl) ?_
        refine lv_aload_n C.1 C.2.1 dL_law_417 rfl (lv_at hl 0 rfl) ?_
        refine lv_iload_n C.1 C.2.1 dL_law_418 rfl (lv_at hl 3 rfl) ?_
        refine lv_iconst (v := (1 : Int32)) C.1 C.2.1 dL_law_419 (by decide) ?_
        refine lv_iadd C.1 C.2.1 dL_law_420 ?_
        refine va_sld C.1 C.2.1 hX hbl hbA S.2.1 h.1 dL_law_421 ?_
        replace h := h.2
        refine lv_aload_n C.1 C.2.1 dL_law_422 rfl (lv_at hl 0 rfl) ?_
        refine lv_iload_n C.1 C.2.1 dL_law_423 rfl (lv_at hl 3 rfl) ?_
        refine lv_iconst (v := (2 : Int32)) C.1 C.2.1 dL_law_424 (by decide) ?_
        refine lv_iadd C.1 C.2.1 dL_law_425 ?_
        refine va_sld C.1 C.2.1 hX hbl hbA S.2.1 h.1 dL_law_426 ?_
        replace h := h.2
        refine k_i (r_V (As := [.int (xs ((x3 + (1 : Int32))).toNatClampNeg), .int (xs ((x3 + (2 : Int32))).toNatClampNeg)]) (rest := []) C hml (c_X6_member l G ((xs ((x3 + (1 : Int32))).toNatClampNeg)) ((xs ((x3 + (2 : Int32))).toNatClampNeg)) σ _ h) kM_X6_member im_X6_member se_X6_member ml_L_57 ⟨rfl, rfl⟩ ⟨Nat.le_of_ble_eq_true rfl, Nat.le_of_ble_eq_true rfl⟩ hcs S kd_0 (by decide) (T := TX6) (N := 8) rfl rfl hl.1 rfl (Nat.le_of_ble_eq_true rfl) dL_law_427) S (fun r54 σ53 H locs h S => ?_)
        refine lv_aload_n C.1 C.2.1 dL_law_430 rfl (lv_at hl 2 rfl) ?_
        refine lv_aload_n C.1 C.2.1 dL_law_431 rfl (lv_at hl 0 rfl) ?_
        refine lv_iload_n C.1 C.2.1 dL_law_432 rfl (lv_at hl 3 rfl) ?_
        refine lv_iconst (v := (1 : Int32)) C.1 C.2.1 dL_law_433 (by decide) ?_
        refine lv_iadd C.1 C.2.1 dL_law_434 ?_
        refine va_sld C.1 C.2.1 hX hbl hbA S.2.1 h.1 dL_law_435 ?_
        replace h := h.2
        refine lv_aload_n C.1 C.2.1 dL_law_436 rfl (lv_at hl 0 rfl) ?_
        refine lv_iload_n C.1 C.2.1 dL_law_437 rfl (lv_at hl 3 rfl) ?_
        refine lv_iconst (v := (2 : Int32)) C.1 C.2.1 dL_law_438 (by decide) ?_
        refine lv_iadd C.1 C.2.1 dL_law_439 ?_
        refine va_sld C.1 C.2.1 hX hbl hbA S.2.1 h.1 dL_law_440 ?_
        replace h := h.2
        refine k_i (r_V (As := [.int (xs ((x3 + (1 : Int32))).toNatClampNeg), .int (xs ((x3 + (2 : Int32))).toNatClampNeg)]) (rest := [.int r54]) C hml (c_X7_member l G ((xs ((x3 + (1 : Int32))).toNatClampNeg)) ((xs ((x3 + (2 : Int32))).toNatClampNeg)) σ53 _ h) kM_X7_member im_X7_member se_X7_member ml_L_60 ⟨rfl, rfl⟩ ⟨Nat.le_of_ble_eq_true rfl, Nat.le_of_ble_eq_true rfl⟩ hcs S kd_117 (by decide) (T := TX7) (N := 17) rfl rfl hl.1 rfl (Nat.le_of_ble_eq_true rfl) dL_law_441) S (fun r56 σ55 H locs h S => ?_)
        refine lv_icmp_eq (tgt := 724) C.1 C.2.1 dL_law_444 (by decide) (fun c57 => ?_) (fun c57 => ?_)
        · replace h := h.1 c57
          refine lv_iinc (v := (x3 + 4)) (lv' := [(3, .int (x3 + 4)), (0, .ref b), (1, .ref (G.2.2 + 0)), (2, .ref (G.2.2 + 117))]) C.1 C.2.1 dL_law_724 hl (k := 3) rfl rfl (by decide) rfl (fun ls hl => ?_)
          refine lv_goto (tgt := 18) C.1 C.2.1 dL_law_727 (by decide) ?_
          exact ih ((x3 + 4)) _ _ _ _ S (lv_sub hl [1, 2, 3, 0] rfl) h
        · replace h := h.2 c57
          refine lv_iconst (v := (0 : Int32)) C.1 C.2.1 dL_law_447 (by decide) ?_
          exact hR _ _ _ _ _ _ dL_law_448 rfl h S
      · replace h := h.2.2.2.2.2.2.2.2.2.2.2.2.1 c2
        refine lv_tableIn (tgt := 449) (off := 417) C.1 C.2.1 dL_law_32 (by rw [c2]; decide) (by rw [c2]; decide) (by rw [c2]; decide) (by decide) ?_
        refine lv_aload_n C.1 C.2.1 dL_law_449 rfl (lv_at hl 1 rfl) ?_
        refine k_i (r_V (As := []) (rest := []) C hml (c_X6_fault l G σ _ h) kM_X6_fault im_X6_fault se_X6_fault ml_L_61 ⟨rfl, rfl⟩ ⟨Nat.le_of_ble_eq_true rfl, Nat.le_of_ble_eq_true rfl⟩ hcs S kd_0 (by decide) (T := TX6) (N := 8) rfl rfl hl.1 rfl (Nat.le_of_ble_eq_true rfl) dL_law_450) S (fun r59 σ58 H locs h S => ?_)
        refine lv_aload_n C.1 C.2.1 dL_law_453 rfl (lv_at hl 2 rfl) ?_
        refine k_i (r_V (As := []) (rest := [.int r59]) C hml (c_X7_fault l G σ58 _ h) kM_X7_fault im_X7_fault se_X7_fault ml_L_64 ⟨rfl, rfl⟩ ⟨Nat.le_of_ble_eq_true rfl, Nat.le_of_ble_eq_true rfl⟩ hcs S kd_117 (by decide) (T := TX7) (N := 17) rfl rfl hl.1 rfl (Nat.le_of_ble_eq_true rfl) dL_law_454) S (fun r61 σ60 H locs h S => ?_)
        refine lv_icmp_eq (tgt := 724) C.1 C.2.1 dL_law_457 (by decide) (fun c62 => ?_) (fun c62 => ?_)
        · replace h := h.1 c62
          refine lv_iinc (v := (x3 + 4)) (lv' := [(3, .int (x3 + 4)), (0, .ref b), (1, .ref (G.2.2 + 0)), (2, .ref (G.2.2 + 117))]) C.1 C.2.1 dL_law_724 hl (k := 3) rfl rfl (by decide) rfl (fun ls hl => ?_)
          refine lv_goto (tgt := 18) C.1 C.2.1 dL_law_727 (by decide) ?_
          exact ih ((x3 + 4)) _ _ _ _ S (lv_sub hl [1, 2, 3, 0] rfl) h
        · replace h := h.2 c62
          refine lv_iconst (v := (0 : Int32)) C.1 C.2.1 dL_law_460 (by decide) ?_
          exact hR _ _ _ _ _ _ dL_law_461 rfl h S
      · replace h := h.2.2.2.2.2.2.2.2.2.2.2.2.2.1 c2
        refine lv_tableIn (tgt := 462) (off := 430) C.1 C.2.1 dL_law_32 (by rw [c2]; decide) (by rw [c2]; decide) (by rw [c2]; decide) (by decide) ?_
        refine lv_aload_n C.1 C.2.1 dL_law_462 rfl (lv_at hl 1 rfl) ?_
        refine k_i (r_V (As := []) (rest := []) C hml (c_X6_readings l G σ _ h) kM_X6_readings im_X6_readings se_X6_readings ml_L_65 ⟨rfl, rfl⟩ ⟨Nat.le_of_ble_eq_true rfl, Nat.le_of_ble_eq_true rfl⟩ hcs S kd_0 (by decide) (T := TX6) (N := 8) rfl rfl hl.1 rfl (Nat.le_of_ble_eq_true rfl) dL_law_463) S (fun r64 σ63 H locs h S => ?_)
        refine lv_aload_n C.1 C.2.1 dL_law_466 rfl (lv_at hl 2 rfl) ?_
        refine k_i (r_V (As := []) (rest := [.int r64]) C hml (c_X7_readings l G σ63 _ h) kM_X7_readings im_X7_readings se_X7_readings ml_L_68 ⟨rfl, rfl⟩ ⟨Nat.le_of_ble_eq_true rfl, Nat.le_of_ble_eq_true rfl⟩ hcs S kd_117 (by decide) (T := TX7) (N := 17) rfl rfl hl.1 rfl (Nat.le_of_ble_eq_true rfl) dL_law_467) S (fun r66 σ65 H locs h S => ?_)
        refine lv_icmp_eq (tgt := 724) C.1 C.2.1 dL_law_470 (by decide) (fun c67 => ?_) (fun c67 => ?_)
        · replace h := h.1 c67
          refine lv_iinc (v := (x3 + 4)) (lv' := [(3, .int (x3 + 4)), (0, .ref b), (1, .ref (G.2.2 + 0)), (2, .ref (G.2.2 + 117))]) C.1 C.2.1 dL_law_724 hl (k := 3) rfl rfl (by decide) rfl (fun ls hl => ?_)
          refine lv_goto (tgt := 18) C.1 C.2.1 dL_law_727 (by decide) ?_
          exact ih ((x3 + 4)) _ _ _ _ S (lv_sub hl [1, 2, 3, 0] rfl) h
        · replace h := h.2 c67
          refine lv_iconst (v := (0 : Int32)) C.1 C.2.1 dL_law_473 (by decide) ?_
          exact hR _ _ _ _ _ _ dL_law_474 rfl h S
      · replace h := h.2.2.2.2.2.2.2.2.2.2.2.2.2.2.1 c2
        refine lv_tableIn (tgt := 475) (off := 443) C.1 C.2.1 dL_law_32 (by rw [c2]; decide) (by rw [c2]; decide) (by rw [c2]; decide) (by decide) ?_
        refine lv_aload_n C.1 C.2.1 dL_law_475 rfl (lv_at hl 1 rfl) ?_
        refine lv_aload_n C.1 C.2.1 dL_law_476 rfl (lv_at hl 0 rfl) ?_
        refine lv_iload_n C.1 C.2.1 dL_law_477 rfl (lv_at hl 3 rfl) ?_
        refine lv_iconst (v := (1 : Int32)) C.1 C.2.1 dL_law_478 (by decide) ?_
        refine lv_iadd C.1 C.2.1 dL_law_479 ?_
        refine va_sld C.1 C.2.1 hX hbl hbA S.2.1 h.1 dL_law_480 ?_
        replace h := h.2
        refine lv_aload_n C.1 C.2.1 dL_law_481 rfl (lv_at hl 0 rfl) ?_
        refine lv_iload_n C.1 C.2.1 dL_law_482 rfl (lv_at hl 3 rfl) ?_
        refine lv_iconst (v := (2 : Int32)) C.1 C.2.1 dL_law_483 (by decide) ?_
        refine lv_iadd C.1 C.2.1 dL_law_484 ?_
        refine va_sld C.1 C.2.1 hX hbl hbA S.2.1 h.1 dL_law_485 ?_
        replace h := h.2
        refine k_i (r_V (As := [.int (xs ((x3 + (1 : Int32))).toNatClampNeg), .int (xs ((x3 + (2 : Int32))).toNatClampNeg)]) (rest := []) C hml (c_X6_occurrence l G ((xs ((x3 + (1 : Int32))).toNatClampNeg)) ((xs ((x3 + (2 : Int32))).toNatClampNeg)) σ _ h) kM_X6_occurrence im_X6_occurrence se_X6_occurrence ml_L_69 ⟨rfl, rfl⟩ ⟨Nat.le_of_ble_eq_true rfl, Nat.le_of_ble_eq_true rfl⟩ hcs S kd_0 (by decide) (T := TX6) (N := 8) rfl rfl hl.1 rfl (Nat.le_of_ble_eq_true rfl) dL_law_486) S (fun r69 σ68 H locs h S => ?_)
        refine lv_aload_n C.1 C.2.1 dL_law_489 rfl (lv_at hl 2 rfl) ?_
        refine lv_aload_n C.1 C.2.1 dL_law_490 rfl (lv_at hl 0 rfl) ?_
        refine lv_iload_n C.1 C.2.1 dL_law_491 rfl (lv_at hl 3 rfl) ?_
        refine lv_iconst (v := (1 : Int32)) C.1 C.2.1 dL_law_492 (by decide) ?_
        refine lv_iadd C.1 C.2.1 dL_law_493 ?_
        refine va_sld C.1 C.2.1 hX hbl hbA S.2.1 h.1 dL_law_494 ?_
        replace h := h.2
        refine lv_aload_n C.1 C.2.1 dL_law_495 rfl (lv_at hl 0 rfl) ?_
        refine lv_iload_n C.1 C.2.1 dL_law_496 rfl (lv_at hl 3 rfl) ?_
        refine lv_iconst (v := (2 : Int32)) C.1 C.2.1 dL_law_497 (by decide) ?_
        refine lv_iadd C.1 C.2.1 dL_law_498 ?_
        refine va_sld C.1 C.2.1 hX hbl hbA S.2.1 h.1 dL_law_499 ?_
        replace h := h.2
        refine k_i (r_V (As := [.int (xs ((x3 + (1 : Int32))).toNatClampNeg), .int (xs ((x3 + (2 : Int32))).toNatClampNeg)]) (rest := [.int r69]) C hml (c_X7_occurrence l G ((xs ((x3 + (1 : Int32))).toNatClampNeg)) ((xs ((x3 + (2 : Int32))).toNatClampNeg)) σ68 _ h) kM_X7_occurrence im_X7_occurrence se_X7_occurrence ml_L_72 ⟨rfl, rfl⟩ ⟨Nat.le_of_ble_eq_true rfl, Nat.le_of_ble_eq_true rfl⟩ hcs S kd_117 (by decide) (T := TX7) (N := 17) rfl rfl hl.1 rfl (Nat.le_of_ble_eq_true rfl) dL_law_500) S (fun r71 σ70 H locs h S => ?_)
        refine lv_icmp_eq (tgt := 724) C.1 C.2.1 dL_law_503 (by decide) (fun c72 => ?_) (fun c72 => ?_)
        · replace h := h.1 c72
          refine lv_iinc (v := (x3 + 4)) (lv' := [(3, .int (x3 + 4)), (0, .ref b), (1, .ref (G.2.2 + 0)), (2, .ref (G.2.2 + 117))]) C.1 C.2.1 dL_law_724 hl (k := 3) rfl rfl (by decide) rfl (fun ls hl => ?_)
          refine lv_goto (tgt := 18) C.1 C.2.1 dL_law_727 (by decide) ?_
          exact ih ((x3 + 4)) _ _ _ _ S (lv_sub hl [1, 2, 3, 0] rfl) h
        · replace h := h.2 c72
          refine lv_iconst (v := (0 : Int32)) C.1 C.2.1 dL_law_506 (by decide) ?_
          exact hR _ _ _ _ _ _ dL_law_507 rfl h S
      · replace h := h.2.2.2.2.2.2.2.2.2.2.2.2.2.2.2.1 c2
        refine lv_tableIn (tgt := 508) (off := 476) C.1 C.2.1 dL_law_32 (by rw [c2]; decide) (by rw [c2]; decide) (by rw [c2]; decide) (by decide) ?_
        refine lv_aload_n C.1 C.2.1 dL_law_508 rfl (lv_at hl 1 rfl) ?_
        refine lv_aload_n C.1 C.2.1 dL_law_509 rfl (lv_at hl 0 rfl) ?_
        refine lv_iload_n C.1 C.2.1 dL_law_510 rfl (lv_at hl 3 rfl) ?_
        refine lv_iconst (v := (1 : Int32)) C.1 C.2.1 dL_law_511 (by decide) ?_
        refine lv_iadd C.1 C.2.1 dL_law_512 ?_
        refine va_sld C.1 C.2.1 hX hbl hbA S.2.1 h.1 dL_law_513 ?_
        replace h := h.2
        refine lv_aload_n C.1 C.2.1 dL_law_514 rfl (lv_at hl 0 rfl) ?_
        refine lv_iload_n C.1 C.2.1 dL_law_515 rfl (lv_at hl 3 rfl) ?_
        refine lv_iconst (v := (2 : Int32)) C.1 C.2.1 dL_law_516 (by decide) ?_
        refine lv_iadd C.1 C.2.1 dL_law_517 ?_
        refine va_sld C.1 C.2.1 hX hbl hbA S.2.1 h.1 dL_law_518 ?_
        replace h := h.2
        refine k_i (r_V (As := [.int (xs ((x3 + (1 : Int32))).toNatClampNeg), .int (xs ((x3 + (2 : Int32))).toNatClampNeg)]) (rest := []) C hml (c_X6_value l G ((xs ((x3 + (1 : Int32))).toNatClampNeg)) ((xs ((x3 + (2 : Int32))).toNatClampNeg)) σ _ h) kM_X6_value im_X6_value se_X6_value ml_L_73 ⟨rfl, rfl⟩ ⟨Nat.le_of_ble_eq_true rfl, Nat.le_of_ble_eq_true rfl⟩ hcs S kd_0 (by decide) (T := TX6) (N := 8) rfl rfl hl.1 rfl (Nat.le_of_ble_eq_true rfl) dL_law_519) S (fun r74 σ73 H locs h S => ?_)
        refine lv_aload_n C.1 C.2.1 dL_law_522 rfl (lv_at hl 2 rfl) ?_
        refine lv_aload_n C.1 C.2.1 dL_law_523 rfl (lv_at hl 0 rfl) ?_
        refine lv_iload_n C.1 C.2.1 dL_law_524 rfl (lv_at hl 3 rfl) ?_
        refine lv_iconst (v := (1 : Int32)) C.1 C.2.1 dL_law_525 (by decide) ?_
        refine lv_iadd C.1 C.2.1 dL_law_526 ?_
        refine va_sld C.1 C.2.1 hX hbl hbA S.2.1 h.1 dL_law_527 ?_
        replace h := h.2
        refine lv_aload_n C.1 C.2.1 dL_law_528 rfl (lv_at hl 0 rfl) ?_
        refine lv_iload_n C.1 C.2.1 dL_law_529 rfl (lv_at hl 3 rfl) ?_
        refine lv_iconst (v := (2 : Int32)) C.1 C.2.1 dL_law_530 (by decide) ?_
        refine lv_iadd C.1 C.2.1 dL_law_531 ?_
        refine va_sld C.1 C.2.1 hX hbl hbA S.2.1 h.1 dL_law_532 ?_
        replace h := h.2
        refine k_i (r_V (As := [.int (xs ((x3 + (1 : Int32))).toNatClampNeg), .int (xs ((x3 + (2 : Int32))).toNatClampNeg)]) (rest := [.int r74]) C hml (c_X7_value l G ((xs ((x3 + (1 : Int32))).toNatClampNeg)) ((xs ((x3 + (2 : Int32))).toNatClampNeg)) σ73 _ h) kM_X7_value im_X7_value se_X7_value ml_L_76 ⟨rfl, rfl⟩ ⟨Nat.le_of_ble_eq_true rfl, Nat.le_of_ble_eq_true rfl⟩ hcs S kd_117 (by decide) (T := TX7) (N := 17) rfl rfl hl.1 rfl (Nat.le_of_ble_eq_true rfl) dL_law_533) S (fun r76 σ75 H locs h S => ?_)
        refine lv_icmp_eq (tgt := 724) C.1 C.2.1 dL_law_536 (by decide) (fun c77 => ?_) (fun c77 => ?_)
        · replace h := h.1 c77
          refine lv_iinc (v := (x3 + 4)) (lv' := [(3, .int (x3 + 4)), (0, .ref b), (1, .ref (G.2.2 + 0)), (2, .ref (G.2.2 + 117))]) C.1 C.2.1 dL_law_724 hl (k := 3) rfl rfl (by decide) rfl (fun ls hl => ?_)
          refine lv_goto (tgt := 18) C.1 C.2.1 dL_law_727 (by decide) ?_
          exact ih ((x3 + 4)) _ _ _ _ S (lv_sub hl [1, 2, 3, 0] rfl) h
        · replace h := h.2 c77
          refine lv_iconst (v := (0 : Int32)) C.1 C.2.1 dL_law_539 (by decide) ?_
          exact hR _ _ _ _ _ _ dL_law_540 rfl h S
      · replace h := h.2.2.2.2.2.2.2.2.2.2.2.2.2.2.2.2.1 c2
        refine lv_tableIn (tgt := 541) (off := 509) C.1 C.2.1 dL_law_32 (by rw [c2]; decide) (by rw [c2]; decide) (by rw [c2]; decide) (by decide) ?_
        refine lv_aload_n C.1 C.2.1 dL_law_541 rfl (lv_at hl 1 rfl) ?_
        refine k_i (r_V (As := []) (rest := []) C hml (c_X6_next l G σ _ h) kM_X6_next im_X6_next se_X6_next ml_L_77 ⟨rfl, rfl⟩ ⟨Nat.le_of_ble_eq_true rfl, Nat.le_of_ble_eq_true rfl⟩ hcs S kd_0 (by decide) (T := TX6) (N := 8) rfl rfl hl.1 rfl (Nat.le_of_ble_eq_true rfl) dL_law_542) S (fun r79 σ78 H locs h S => ?_)
        refine lv_aload_n C.1 C.2.1 dL_law_545 rfl (lv_at hl 2 rfl) ?_
        refine k_i (r_V (As := []) (rest := [.int r79]) C hml (c_X7_next l G σ78 _ h) kM_X7_next im_X7_next se_X7_next ml_L_80 ⟨rfl, rfl⟩ ⟨Nat.le_of_ble_eq_true rfl, Nat.le_of_ble_eq_true rfl⟩ hcs S kd_117 (by decide) (T := TX7) (N := 17) rfl rfl hl.1 rfl (Nat.le_of_ble_eq_true rfl) dL_law_546) S (fun r81 σ80 H locs h S => ?_)
        refine lv_icmp_eq (tgt := 724) C.1 C.2.1 dL_law_549 (by decide) (fun c82 => ?_) (fun c82 => ?_)
        · replace h := h.1 c82
          refine lv_iinc (v := (x3 + 4)) (lv' := [(3, .int (x3 + 4)), (0, .ref b), (1, .ref (G.2.2 + 0)), (2, .ref (G.2.2 + 117))]) C.1 C.2.1 dL_law_724 hl (k := 3) rfl rfl (by decide) rfl (fun ls hl => ?_)
          refine lv_goto (tgt := 18) C.1 C.2.1 dL_law_727 (by decide) ?_
          exact ih ((x3 + 4)) _ _ _ _ S (lv_sub hl [1, 2, 3, 0] rfl) h
        · replace h := h.2 c82
          refine lv_iconst (v := (0 : Int32)) C.1 C.2.1 dL_law_552 (by decide) ?_
          exact hR _ _ _ _ _ _ dL_law_553 rfl h S
      · replace h := h.2.2.2.2.2.2.2.2.2.2.2.2.2.2.2.2.2.1 c2
        refine lv_tableIn (tgt := 554) (off := 522) C.1 C.2.1 dL_law_32 (by rw [c2]; decide) (by rw [c2]; decide) (by rw [c2]; decide) (by decide) ?_
        refine lv_aload_n C.1 C.2.1 dL_law_554 rfl (lv_at hl 1 rfl) ?_
        refine lv_aload_n C.1 C.2.1 dL_law_555 rfl (lv_at hl 0 rfl) ?_
        refine lv_iload_n C.1 C.2.1 dL_law_556 rfl (lv_at hl 3 rfl) ?_
        refine lv_iconst (v := (1 : Int32)) C.1 C.2.1 dL_law_557 (by decide) ?_
        refine lv_iadd C.1 C.2.1 dL_law_558 ?_
        refine va_sld C.1 C.2.1 hX hbl hbA S.2.1 h.1 dL_law_559 ?_
        replace h := h.2
        refine k_i (r_V (As := [.int (xs ((x3 + (1 : Int32))).toNatClampNeg)]) (rest := []) C hml (c_X6_normal l G ((xs ((x3 + (1 : Int32))).toNatClampNeg)) σ _ h) kM_X6_normal im_X6_normal se_X6_normal ml_L_81 ⟨rfl, rfl⟩ ⟨Nat.le_of_ble_eq_true rfl, Nat.le_of_ble_eq_true rfl⟩ hcs S kd_0 (by decide) (T := TX6) (N := 8) rfl rfl hl.1 rfl (Nat.le_of_ble_eq_true rfl) dL_law_560) S (fun r84 σ83 H locs h S => ?_)
        refine lv_aload_n C.1 C.2.1 dL_law_563 rfl (lv_at hl 2 rfl) ?_
        refine lv_aload_n C.1 C.2.1 dL_law_564 rfl (lv_at hl 0 rfl) ?_
        refine lv_iload_n C.1 C.2.1 dL_law_565 rfl (lv_at hl 3 rfl) ?_
        refine lv_iconst (v := (1 : Int32)) C.1 C.2.1 dL_law_566 (by decide) ?_
        refine lv_iadd C.1 C.2.1 dL_law_567 ?_
        refine va_sld C.1 C.2.1 hX hbl hbA S.2.1 h.1 dL_law_568 ?_
        replace h := h.2
        refine k_i (r_V (As := [.int (xs ((x3 + (1 : Int32))).toNatClampNeg)]) (rest := [.int r84]) C hml (c_X7_normal l G ((xs ((x3 + (1 : Int32))).toNatClampNeg)) σ83 _ h) kM_X7_normal im_X7_normal se_X7_normal ml_L_84 ⟨rfl, rfl⟩ ⟨Nat.le_of_ble_eq_true rfl, Nat.le_of_ble_eq_true rfl⟩ hcs S kd_117 (by decide) (T := TX7) (N := 17) rfl rfl hl.1 rfl (Nat.le_of_ble_eq_true rfl) dL_law_569) S (fun r86 σ85 H locs h S => ?_)
        refine lv_icmp_eq (tgt := 724) C.1 C.2.1 dL_law_572 (by decide) (fun c87 => ?_) (fun c87 => ?_)
        · replace h := h.1 c87
          refine lv_iinc (v := (x3 + 4)) (lv' := [(3, .int (x3 + 4)), (0, .ref b), (1, .ref (G.2.2 + 0)), (2, .ref (G.2.2 + 117))]) C.1 C.2.1 dL_law_724 hl (k := 3) rfl rfl (by decide) rfl (fun ls hl => ?_)
          refine lv_goto (tgt := 18) C.1 C.2.1 dL_law_727 (by decide) ?_
          exact ih ((x3 + 4)) _ _ _ _ S (lv_sub hl [1, 2, 3, 0] rfl) h
        · replace h := h.2 c87
          refine lv_iconst (v := (0 : Int32)) C.1 C.2.1 dL_law_575 (by decide) ?_
          exact hR _ _ _ _ _ _ dL_law_576 rfl h S
      · replace h := h.2.2.2.2.2.2.2.2.2.2.2.2.2.2.2.2.2.2.1 c2
        refine lv_tableIn (tgt := 577) (off := 545) C.1 C.2.1 dL_law_32 (by rw [c2]; decide) (by rw [c2]; decide) (by rw [c2]; decide) (by decide) ?_
        refine lv_aload_n C.1 C.2.1 dL_law_577 rfl (lv_at hl 1 rfl) ?_
        refine lv_aload_n C.1 C.2.1 dL_law_578 rfl (lv_at hl 0 rfl) ?_
        refine lv_iload_n C.1 C.2.1 dL_law_579 rfl (lv_at hl 3 rfl) ?_
        refine lv_iconst (v := (1 : Int32)) C.1 C.2.1 dL_law_580 (by decide) ?_
        refine lv_iadd C.1 C.2.1 dL_law_581 ?_
        refine va_sld C.1 C.2.1 hX hbl hbA S.2.1 h.1 dL_law_582 ?_
        replace h := h.2
        refine k_l (r_V (As := [.int (xs ((x3 + (1 : Int32))).toNatClampNeg)]) (rest := []) C hml (c_X6_orders l G ((xs ((x3 + (1 : Int32))).toNatClampNeg)) σ _ h) kM_X6_orders im_X6_orders se_X6_orders ml_L_85 ⟨rfl, rfl⟩ ⟨Nat.le_of_ble_eq_true rfl, Nat.le_of_ble_eq_true rfl⟩ hcs S kd_0 (by decide) (T := TX6) (N := 8) rfl rfl hl.1 rfl (Nat.le_of_ble_eq_true rfl) dL_law_583) S (fun r89 σ88 H locs h S => ?_)
        refine lv_aload_n C.1 C.2.1 dL_law_586 rfl (lv_at hl 2 rfl) ?_
        refine lv_aload_n C.1 C.2.1 dL_law_587 rfl (lv_at hl 0 rfl) ?_
        refine lv_iload_n C.1 C.2.1 dL_law_588 rfl (lv_at hl 3 rfl) ?_
        refine lv_iconst (v := (1 : Int32)) C.1 C.2.1 dL_law_589 (by decide) ?_
        refine lv_iadd C.1 C.2.1 dL_law_590 ?_
        refine va_sld C.1 C.2.1 hX hbl hbA S.2.1 h.1 dL_law_591 ?_
        replace h := h.2
        refine k_l (r_V (As := [.int (xs ((x3 + (1 : Int32))).toNatClampNeg)]) (rest := [.long r89]) C hml (c_X7_orders l G ((xs ((x3 + (1 : Int32))).toNatClampNeg)) σ88 _ h) kM_X7_orders im_X7_orders se_X7_orders ml_L_89 ⟨rfl, rfl⟩ ⟨Nat.le_of_ble_eq_true rfl, Nat.le_of_ble_eq_true rfl⟩ hcs S kd_117 (by decide) (T := TX7) (N := 17) rfl rfl hl.1 rfl (Nat.le_of_ble_eq_true rfl) dL_law_592) S (fun r91 σ90 H locs h S => ?_)
        refine W.lcmp C.1 C.2.1 dL_law_595 ?_
        refine lv_if_eq (tgt := 724) C.1 C.2.1 dL_law_596 (by decide) (fun c92 => ?_) (fun c92 => ?_)
        · replace h := h.1 c92
          refine lv_iinc (v := (x3 + 4)) (lv' := [(3, .int (x3 + 4)), (0, .ref b), (1, .ref (G.2.2 + 0)), (2, .ref (G.2.2 + 117))]) C.1 C.2.1 dL_law_724 hl (k := 3) rfl rfl (by decide) rfl (fun ls hl => ?_)
          refine lv_goto (tgt := 18) C.1 C.2.1 dL_law_727 (by decide) ?_
          exact ih ((x3 + 4)) _ _ _ _ S (lv_sub hl [1, 2, 3, 0] rfl) h
        · replace h := h.2 c92
          refine lv_iconst (v := (0 : Int32)) C.1 C.2.1 dL_law_599 (by decide) ?_
          exact hR _ _ _ _ _ _ dL_law_600 rfl h S
      · replace h := h.2.2.2.2.2.2.2.2.2.2.2.2.2.2.2.2.2.2.2.1 c2
        refine lv_tableIn (tgt := 601) (off := 569) C.1 C.2.1 dL_law_32 (by rw [c2]; decide) (by rw [c2]; decide) (by rw [c2]; decide) (by decide) ?_
        refine lv_aload_n C.1 C.2.1 dL_law_601 rfl (lv_at hl 1 rfl) ?_
        refine lv_aload_n C.1 C.2.1 dL_law_602 rfl (lv_at hl 0 rfl) ?_
        refine lv_iload_n C.1 C.2.1 dL_law_603 rfl (lv_at hl 3 rfl) ?_
        refine lv_iconst (v := (1 : Int32)) C.1 C.2.1 dL_law_604 (by decide) ?_
        refine lv_iadd C.1 C.2.1 dL_law_605 ?_
        refine va_sld C.1 C.2.1 hX hbl hbA S.2.1 h.1 dL_law_606 ?_
        replace h := h.2
        refine lv_i2l C.1 C.2.1 dL_law_607 rfl ?_
        refine lv_bipush (v := (32 : Int32)) C.1 C.2.1 dL_law_608 (by decide) ?_
        refine lv_lshl C.1 C.2.1 dL_law_610 rfl ?_
        refine lv_aload_n C.1 C.2.1 dL_law_611 rfl (lv_at hl 0 rfl) ?_
        refine lv_iload_n C.1 C.2.1 dL_law_612 rfl (lv_at hl 3 rfl) ?_
        refine lv_iconst (v := (2 : Int32)) C.1 C.2.1 dL_law_613 (by decide) ?_
        refine lv_iadd C.1 C.2.1 dL_law_614 ?_
        refine va_sld C.1 C.2.1 hX hbl hbA S.2.1 h.1 dL_law_615 ?_
        replace h := h.2
        refine lv_i2l C.1 C.2.1 dL_law_616 rfl ?_
        refine lv_ldc2 (v := (4294967295 : Int64)) C.1 C.2.1 C.2.2.1 (C.2.2.2.1 _ cl_L_90) dL_law_617 ?_
        refine lv_land C.1 C.2.1 dL_law_620 ?_
        refine lv_lor C.1 C.2.1 dL_law_621 ?_
        refine lv_aload_n C.1 C.2.1 dL_law_622 rfl (lv_at hl 0 rfl) ?_
        refine lv_iload_n C.1 C.2.1 dL_law_623 rfl (lv_at hl 3 rfl) ?_
        refine lv_iconst (v := (3 : Int32)) C.1 C.2.1 dL_law_624 (by decide) ?_
        refine lv_iadd C.1 C.2.1 dL_law_625 ?_
        refine va_sld C.1 C.2.1 hX hbl hbA S.2.1 h.1 dL_law_626 ?_
        replace h := h.2
        refine k_i (r_V (As := [.long (((((xs ((x3 + (1 : Int32))).toNatClampNeg)).toInt64) <<< (((32 : Int32)).toInt64 &&& 63)) ||| ((((xs ((x3 + (2 : Int32))).toNatClampNeg)).toInt64) &&& (4294967295 : Int64))), .int (xs ((x3 + (3 : Int32))).toNatClampNeg)]) (rest := []) C hml (c_X6_order l G ((((((xs ((x3 + (1 : Int32))).toNatClampNeg)).toInt64) <<< (((32 : Int32)).toInt64 &&& 63)) ||| ((((xs ((x3 + (2 : Int32))).toNatClampNeg)).toInt64) &&& (4294967295 : Int64)))) ((xs ((x3 + (3 : Int32))).toNatClampNeg)) σ _ h) kM_X6_order im_X6_order se_X6_order ml_L_92 ⟨rfl, rfl⟩ ⟨Nat.le_of_ble_eq_true rfl, Nat.le_of_ble_eq_true rfl⟩ hcs S kd_0 (by decide) (T := TX6) (N := 8) rfl rfl hl.1 rfl (Nat.le_of_ble_eq_true rfl) dL_law_627) S (fun r94 σ93 H locs h S => ?_)
        refine lv_aload_n C.1 C.2.1 dL_law_630 rfl (lv_at hl 2 rfl) ?_
        refine lv_aload_n C.1 C.2.1 dL_law_631 rfl (lv_at hl 0 rfl) ?_
        refine lv_iload_n C.1 C.2.1 dL_law_632 rfl (lv_at hl 3 rfl) ?_
        refine lv_iconst (v := (1 : Int32)) C.1 C.2.1 dL_law_633 (by decide) ?_
        refine lv_iadd C.1 C.2.1 dL_law_634 ?_
        refine va_sld C.1 C.2.1 hX hbl hbA S.2.1 h.1 dL_law_635 ?_
        replace h := h.2
        refine lv_i2l C.1 C.2.1 dL_law_636 rfl ?_
        refine lv_bipush (v := (32 : Int32)) C.1 C.2.1 dL_law_637 (by decide) ?_
        refine lv_lshl C.1 C.2.1 dL_law_639 rfl ?_
        refine lv_aload_n C.1 C.2.1 dL_law_640 rfl (lv_at hl 0 rfl) ?_
        refine lv_iload_n C.1 C.2.1 dL_law_641 rfl (lv_at hl 3 rfl) ?_
        refine lv_iconst (v := (2 : Int32)) C.1 C.2.1 dL_law_642 (by decide) ?_
        refine lv_iadd C.1 C.2.1 dL_law_643 ?_
        refine va_sld C.1 C.2.1 hX hbl hbA S.2.1 h.1 dL_law_644 ?_
        replace h := h.2
        refine lv_i2l C.1 C.2.1 dL_law_645 rfl ?_
        refine lv_ldc2 (v := (4294967295 : Int64)) C.1 C.2.1 C.2.2.1 (C.2.2.2.1 _ cl_L_90) dL_law_646 ?_
        refine lv_land C.1 C.2.1 dL_law_649 ?_
        refine lv_lor C.1 C.2.1 dL_law_650 ?_
        refine lv_aload_n C.1 C.2.1 dL_law_651 rfl (lv_at hl 0 rfl) ?_
        refine lv_iload_n C.1 C.2.1 dL_law_652 rfl (lv_at hl 3 rfl) ?_
        refine lv_iconst (v := (3 : Int32)) C.1 C.2.1 dL_law_653 (by decide) ?_
        refine lv_iadd C.1 C.2.1 dL_law_654 ?_
        refine va_sld C.1 C.2.1 hX hbl hbA S.2.1 h.1 dL_law_655 ?_
        replace h := h.2
        refine k_i (r_V (As := [.long (((((xs ((x3 + (1 : Int32))).toNatClampNeg)).toInt64) <<< (((32 : Int32)).toInt64 &&& 63)) ||| ((((xs ((x3 + (2 : Int32))).toNatClampNeg)).toInt64) &&& (4294967295 : Int64))), .int (xs ((x3 + (3 : Int32))).toNatClampNeg)]) (rest := [.int r94]) C hml (c_X7_order l G ((((((xs ((x3 + (1 : Int32))).toNatClampNeg)).toInt64) <<< (((32 : Int32)).toInt64 &&& 63)) ||| ((((xs ((x3 + (2 : Int32))).toNatClampNeg)).toInt64) &&& (4294967295 : Int64)))) ((xs ((x3 + (3 : Int32))).toNatClampNeg)) σ93 _ h) kM_X7_order im_X7_order se_X7_order ml_L_96 ⟨rfl, rfl⟩ ⟨Nat.le_of_ble_eq_true rfl, Nat.le_of_ble_eq_true rfl⟩ hcs S kd_117 (by decide) (T := TX7) (N := 17) rfl rfl hl.1 rfl (Nat.le_of_ble_eq_true rfl) dL_law_656) S (fun r96 σ95 H locs h S => ?_)
        refine lv_icmp_eq (tgt := 724) C.1 C.2.1 dL_law_659 (by decide) (fun c97 => ?_) (fun c97 => ?_)
        · replace h := h.1 c97
          refine lv_iinc (v := (x3 + 4)) (lv' := [(3, .int (x3 + 4)), (0, .ref b), (1, .ref (G.2.2 + 0)), (2, .ref (G.2.2 + 117))]) C.1 C.2.1 dL_law_724 hl (k := 3) rfl rfl (by decide) rfl (fun ls hl => ?_)
          refine lv_goto (tgt := 18) C.1 C.2.1 dL_law_727 (by decide) ?_
          exact ih ((x3 + 4)) _ _ _ _ S (lv_sub hl [1, 2, 3, 0] rfl) h
        · replace h := h.2 c97
          refine lv_iconst (v := (0 : Int32)) C.1 C.2.1 dL_law_662 (by decide) ?_
          exact hR _ _ _ _ _ _ dL_law_663 rfl h S
      · replace h := h.2.2.2.2.2.2.2.2.2.2.2.2.2.2.2.2.2.2.2.2.1 c2
        refine lv_tableIn (tgt := 664) (off := 632) C.1 C.2.1 dL_law_32 (by rw [c2]; decide) (by rw [c2]; decide) (by rw [c2]; decide) (by decide) ?_
        refine lv_aload_n C.1 C.2.1 dL_law_664 rfl (lv_at hl 1 rfl) ?_
        refine k_l (r_V (As := []) (rest := []) C hml (c_X6_rank l G σ _ h) kM_X6_rank im_X6_rank se_X6_rank ml_L_97 ⟨rfl, rfl⟩ ⟨Nat.le_of_ble_eq_true rfl, Nat.le_of_ble_eq_true rfl⟩ hcs S kd_0 (by decide) (T := TX6) (N := 8) rfl rfl hl.1 rfl (Nat.le_of_ble_eq_true rfl) dL_law_665) S (fun r99 σ98 H locs h S => ?_)
        refine lv_aload_n C.1 C.2.1 dL_law_668 rfl (lv_at hl 2 rfl) ?_
        refine k_l (r_V (As := []) (rest := [.long r99]) C hml (c_X7_rank l G σ98 _ h) kM_X7_rank im_X7_rank se_X7_rank ml_L_101 ⟨rfl, rfl⟩ ⟨Nat.le_of_ble_eq_true rfl, Nat.le_of_ble_eq_true rfl⟩ hcs S kd_117 (by decide) (T := TX7) (N := 17) rfl rfl hl.1 rfl (Nat.le_of_ble_eq_true rfl) dL_law_669) S (fun r101 σ100 H locs h S => ?_)
        refine W.lcmp C.1 C.2.1 dL_law_672 ?_
        refine lv_if_eq (tgt := 724) C.1 C.2.1 dL_law_673 (by decide) (fun c102 => ?_) (fun c102 => ?_)
        · replace h := h.1 c102
          refine lv_iinc (v := (x3 + 4)) (lv' := [(3, .int (x3 + 4)), (0, .ref b), (1, .ref (G.2.2 + 0)), (2, .ref (G.2.2 + 117))]) C.1 C.2.1 dL_law_724 hl (k := 3) rfl rfl (by decide) rfl (fun ls hl => ?_)
          refine lv_goto (tgt := 18) C.1 C.2.1 dL_law_727 (by decide) ?_
          exact ih ((x3 + 4)) _ _ _ _ S (lv_sub hl [1, 2, 3, 0] rfl) h
        · replace h := h.2 c102
          refine lv_iconst (v := (0 : Int32)) C.1 C.2.1 dL_law_676 (by decide) ?_
          exact hR _ _ _ _ _ _ dL_law_677 rfl h S
      · replace h := h.2.2.2.2.2.2.2.2.2.2.2.2.2.2.2.2.2.2.2.2.2.1 c2
        refine lv_tableIn (tgt := 678) (off := 646) C.1 C.2.1 dL_law_32 (by rw [c2]; decide) (by rw [c2]; decide) (by rw [c2]; decide) (by decide) ?_
        refine lv_aload_n C.1 C.2.1 dL_law_678 rfl (lv_at hl 1 rfl) ?_
        refine lv_aload_n C.1 C.2.1 dL_law_679 rfl (lv_at hl 0 rfl) ?_
        refine lv_iload_n C.1 C.2.1 dL_law_680 rfl (lv_at hl 3 rfl) ?_
        refine lv_iconst (v := (1 : Int32)) C.1 C.2.1 dL_law_681 (by decide) ?_
        refine lv_iadd C.1 C.2.1 dL_law_682 ?_
        refine va_sld C.1 C.2.1 hX hbl hbA S.2.1 h.1 dL_law_683 ?_
        replace h := h.2
        refine k_i (r_V (As := [.int (xs ((x3 + (1 : Int32))).toNatClampNeg)]) (rest := []) C hml (c_X6_keep l G ((xs ((x3 + (1 : Int32))).toNatClampNeg)) σ _ h) kM_X6_keep im_X6_keep se_X6_keep ml_L_102 ⟨rfl, rfl⟩ ⟨Nat.le_of_ble_eq_true rfl, Nat.le_of_ble_eq_true rfl⟩ hcs S kd_0 (by decide) (T := TX6) (N := 8) rfl rfl hl.1 rfl (Nat.le_of_ble_eq_true rfl) dL_law_684) S (fun r104 σ103 H locs h S => ?_)
        refine lv_aload_n C.1 C.2.1 dL_law_687 rfl (lv_at hl 2 rfl) ?_
        refine lv_aload_n C.1 C.2.1 dL_law_688 rfl (lv_at hl 0 rfl) ?_
        refine lv_iload_n C.1 C.2.1 dL_law_689 rfl (lv_at hl 3 rfl) ?_
        refine lv_iconst (v := (1 : Int32)) C.1 C.2.1 dL_law_690 (by decide) ?_
        refine lv_iadd C.1 C.2.1 dL_law_691 ?_
        refine va_sld C.1 C.2.1 hX hbl hbA S.2.1 h.1 dL_law_692 ?_
        replace h := h.2
        refine k_i (r_V (As := [.int (xs ((x3 + (1 : Int32))).toNatClampNeg)]) (rest := [.int r104]) C hml (c_X7_keep l G ((xs ((x3 + (1 : Int32))).toNatClampNeg)) σ103 _ h) kM_X7_keep im_X7_keep se_X7_keep ml_L_105 ⟨rfl, rfl⟩ ⟨Nat.le_of_ble_eq_true rfl, Nat.le_of_ble_eq_true rfl⟩ hcs S kd_117 (by decide) (T := TX7) (N := 17) rfl rfl hl.1 rfl (Nat.le_of_ble_eq_true rfl) dL_law_693) S (fun r106 σ105 H locs h S => ?_)
        refine lv_icmp_eq (tgt := 724) C.1 C.2.1 dL_law_696 (by decide) (fun c107 => ?_) (fun c107 => ?_)
        · replace h := h.1 c107
          refine lv_iinc (v := (x3 + 4)) (lv' := [(3, .int (x3 + 4)), (0, .ref b), (1, .ref (G.2.2 + 0)), (2, .ref (G.2.2 + 117))]) C.1 C.2.1 dL_law_724 hl (k := 3) rfl rfl (by decide) rfl (fun ls hl => ?_)
          refine lv_goto (tgt := 18) C.1 C.2.1 dL_law_727 (by decide) ?_
          exact ih ((x3 + 4)) _ _ _ _ S (lv_sub hl [1, 2, 3, 0] rfl) h
        · replace h := h.2 c107
          refine lv_iconst (v := (0 : Int32)) C.1 C.2.1 dL_law_699 (by decide) ?_
          exact hR _ _ _ _ _ _ dL_law_700 rfl h S
      · replace h := h.2.2.2.2.2.2.2.2.2.2.2.2.2.2.2.2.2.2.2.2.2.2 c2
        refine lv_tableIn (tgt := 701) (off := 669) C.1 C.2.1 dL_law_32 (by rw [c2]; decide) (by rw [c2]; decide) (by rw [c2]; decide) (by decide) ?_
        refine lv_aload_n C.1 C.2.1 dL_law_701 rfl (lv_at hl 1 rfl) ?_
        refine lv_aload_n C.1 C.2.1 dL_law_702 rfl (lv_at hl 0 rfl) ?_
        refine lv_iload_n C.1 C.2.1 dL_law_703 rfl (lv_at hl 3 rfl) ?_
        refine lv_iconst (v := (1 : Int32)) C.1 C.2.1 dL_law_704 (by decide) ?_
        refine lv_iadd C.1 C.2.1 dL_law_705 ?_
        refine va_sld C.1 C.2.1 hX hbl hbA S.2.1 h.1 dL_law_706 ?_
        replace h := h.2
        refine k_i (r_V (As := [.int (xs ((x3 + (1 : Int32))).toNatClampNeg)]) (rest := []) C hml (c_X6_back l G ((xs ((x3 + (1 : Int32))).toNatClampNeg)) σ _ h) kM_X6_back im_X6_back se_X6_back ml_L_106 ⟨rfl, rfl⟩ ⟨Nat.le_of_ble_eq_true rfl, Nat.le_of_ble_eq_true rfl⟩ hcs S kd_0 (by decide) (T := TX6) (N := 8) rfl rfl hl.1 rfl (Nat.le_of_ble_eq_true rfl) dL_law_707) S (fun r109 σ108 H locs h S => ?_)
        refine lv_aload_n C.1 C.2.1 dL_law_710 rfl (lv_at hl 2 rfl) ?_
        refine lv_aload_n C.1 C.2.1 dL_law_711 rfl (lv_at hl 0 rfl) ?_
        refine lv_iload_n C.1 C.2.1 dL_law_712 rfl (lv_at hl 3 rfl) ?_
        refine lv_iconst (v := (1 : Int32)) C.1 C.2.1 dL_law_713 (by decide) ?_
        refine lv_iadd C.1 C.2.1 dL_law_714 ?_
        refine va_sld C.1 C.2.1 hX hbl hbA S.2.1 h.1 dL_law_715 ?_
        replace h := h.2
        refine k_i (r_V (As := [.int (xs ((x3 + (1 : Int32))).toNatClampNeg)]) (rest := [.int r109]) C hml (c_X7_back l G ((xs ((x3 + (1 : Int32))).toNatClampNeg)) σ108 _ h) kM_X7_back im_X7_back se_X7_back ml_L_109 ⟨rfl, rfl⟩ ⟨Nat.le_of_ble_eq_true rfl, Nat.le_of_ble_eq_true rfl⟩ hcs S kd_117 (by decide) (T := TX7) (N := 17) rfl rfl hl.1 rfl (Nat.le_of_ble_eq_true rfl) dL_law_716) S (fun r111 σ110 H locs h S => ?_)
        refine lv_icmp_eq (tgt := 724) C.1 C.2.1 dL_law_719 (by decide) (fun c112 => ?_) (fun c112 => ?_)
        · replace h := h.1 c112
          refine lv_iinc (v := (x3 + 4)) (lv' := [(3, .int (x3 + 4)), (0, .ref b), (1, .ref (G.2.2 + 0)), (2, .ref (G.2.2 + 117))]) C.1 C.2.1 dL_law_724 hl (k := 3) rfl rfl (by decide) rfl (fun ls hl => ?_)
          refine lv_goto (tgt := 18) C.1 C.2.1 dL_law_727 (by decide) ?_
          exact ih ((x3 + 4)) _ _ _ _ S (lv_sub hl [1, 2, 3, 0] rfl) h
        · replace h := h.2 c112
          refine lv_iconst (v := (0 : Int32)) C.1 C.2.1 dL_law_722 (by decide) ?_
          exact hR _ _ _ _ _ _ dL_law_723 rfl h S
end LAW
