/-! the start: the two objects are made, their cells are the world s_0 -/
def s_0 : Sg := (fun k j => if k = 97 then (if j = 1 then -2 else 0) else 0, fun _ _ => 0, fun k j => if k = 15 then 16 + 9 * j else if k = 88 then 99 + 9 * j else k + 2 + j)
abbrev W_a : List va_E := [.inr (6, [.null, .null, .null, .null, .null, .null, .null, .null])]
def W_b (G : s_G) : List va_E := W_a.set 0 (.inr (6, [.ref (G.2.2 + (1 + 0)), .ref (G.2.2 + (1 + 2)), .ref (G.2.2 + (1 + 4)), .ref (G.2.2 + (1 + 13)), .ref (G.2.2 + (1 + 87)), .ref (G.2.2 + (1 + 88)), .ref (G.2.2 + (1 + 89)), .ref (G.2.2 + (1 + 96))])) ++ [.inr (0, [.ref (G.2.2 + (1 + 1)), .int 0]), zI G 60, .inr (0, [.ref (G.2.2 + (1 + 3)), .int 0]), zI G 60, oD G (1 + 5), aM G (1 + 5), zM, zM, zM, zM, zM, zM, zM, .inr (2, [.ref (G.2.2 + (1 + 14)), .int 0]), rD G 8 (fun j => some (G.2.2 + ((1 + 14) + 1 + 9 * j))), oD G (1 + 16), aM G (1 + 16), zM, zM, zM, zM, zM, zM, zM, oD G (1 + 25), aM G (1 + 25), zM, zM, zM, zM, zM, zM, zM, oD G (1 + 34), aM G (1 + 34), zM, zM, zM, zM, zM, zM, zM, oD G (1 + 43), aM G (1 + 43), zM, zM, zM, zM, zM, zM, zM, oD G (1 + 52), aM G (1 + 52), zM, zM, zM, zM, zM, zM, zM, oD G (1 + 61), aM G (1 + 61), zM, zM, zM, zM, zM, zM, zM, oD G (1 + 70), aM G (1 + 70), zM, zM, zM, zM, zM, zM, zM, oD G (1 + 79), aM G (1 + 79), zM, zM, zM, zM, zM, zM, zM, rD G 2 (fun j => some (G.2.2 + (1 + 98 + 9 * j))), zZ G 2, .inr (5, [.ref (G.2.2 + ((1 + 90) + 0)), .ref (G.2.2 + ((1 + 90) + 1)), .ref (G.2.2 + ((1 + 90) + 2)), .ref (G.2.2 + ((1 + 90) + 3)), .ref (G.2.2 + ((1 + 90) + 4)), .ref (G.2.2 + ((1 + 90) + 5)), .int 0, .int 0]), zI G 4096, zI G 4096, zJ G 4096, zI G 18, zI G 18, zI G 18, .inr (4, [.ref (G.2.2 + (1 + 97)), .int (-2)]), zJ G 4096, oD G (1 + 99), aM G (1 + 99), zM, zM, zM, zM, zM, zM, zM, oD G (1 + 108), aM G (1 + 108), zM, zM, zM, zM, zM, zM, zM]
abbrev W_c (G : s_G) : List va_E := W_b G ++ [.inr (6, [.null, .null, .null, .null, .null, .null, .null, .null])]
def W_d (G : s_G) : List va_E := (W_c G).set 117 (.inr (6, [.ref (G.2.2 + (118 + 0)), .ref (G.2.2 + (118 + 2)), .ref (G.2.2 + (118 + 4)), .ref (G.2.2 + (118 + 13)), .ref (G.2.2 + (118 + 87)), .ref (G.2.2 + (118 + 88)), .ref (G.2.2 + (118 + 89)), .ref (G.2.2 + (118 + 96))])) ++ [.inr (0, [.ref (G.2.2 + (118 + 1)), .int 0]), zI G 60, .inr (0, [.ref (G.2.2 + (118 + 3)), .int 0]), zI G 60, oD G (118 + 5), aM G (118 + 5), zM, zM, zM, zM, zM, zM, zM, .inr (2, [.ref (G.2.2 + (118 + 14)), .int 0]), rD G 8 (fun j => some (G.2.2 + ((118 + 14) + 1 + 9 * j))), oD G (118 + 16), aM G (118 + 16), zM, zM, zM, zM, zM, zM, zM, oD G (118 + 25), aM G (118 + 25), zM, zM, zM, zM, zM, zM, zM, oD G (118 + 34), aM G (118 + 34), zM, zM, zM, zM, zM, zM, zM, oD G (118 + 43), aM G (118 + 43), zM, zM, zM, zM, zM, zM, zM, oD G (118 + 52), aM G (118 + 52), zM, zM, zM, zM, zM, zM, zM, oD G (118 + 61), aM G (118 + 61), zM, zM, zM, zM, zM, zM, zM, oD G (118 + 70), aM G (118 + 70), zM, zM, zM, zM, zM, zM, zM, oD G (118 + 79), aM G (118 + 79), zM, zM, zM, zM, zM, zM, zM, rD G 2 (fun j => some (G.2.2 + (118 + 98 + 9 * j))), zZ G 2, .inr (5, [.ref (G.2.2 + ((118 + 90) + 0)), .ref (G.2.2 + ((118 + 90) + 1)), .ref (G.2.2 + ((118 + 90) + 2)), .ref (G.2.2 + ((118 + 90) + 3)), .ref (G.2.2 + ((118 + 90) + 4)), .ref (G.2.2 + ((118 + 90) + 5)), .int 0, .int 0]), zI G 4096, zI G 4096, zJ G 4096, zI G 18, zI G 18, zI G 18, .inr (4, [.ref (G.2.2 + (118 + 97)), .int (-2)]), zJ G 4096, oD G (118 + 99), aM G (118 + 99), zM, zM, zM, zM, zM, zM, zM, oD G (118 + 108), aM G (118 + 108), zM, zM, zM, zM, zM, zM, zM]
set_option maxRecDepth 100000 in
set_option maxHeartbeats 4000000 in
theorem W_b_len (G : s_G) : (W_b G).length = 117 := rfl
set_option maxRecDepth 100000 in
set_option maxHeartbeats 4000000 in
theorem W_c_len (G : s_G) : (W_c G).length = 118 := rfl
theorem ad_eq (b x y d j : Nat) (h : x = d + y) : b + (x + j) = b + d + (y + j) := by omega
theorem rf_eq {f g : Nat → Option Nat} {A : ClassId} {n : Nat} (h : ∀ j, f j = g j) : (some (Sum.inl (A, n, .inr (.inr (.inr (.inr f))))) : Option va_E) = some (Sum.inl (A, n, .inr (.inr (.inr (.inr g))))) := by rw [funext h]
set_option maxRecDepth 100000 in
theorem fw_0 (G : s_G) : (W_d G)[0]? = some (s_cl G s_0 0) := rfl
set_option maxRecDepth 100000 in
theorem fx_0 (G : s_G) : (W_d G)[117 + 0]? = some (s_cl (gq G) s_0 0) := rfl
set_option maxRecDepth 100000 in
theorem fw_1 (G : s_G) : (W_d G)[1]? = some (s_cl G s_0 1) := rfl
set_option maxRecDepth 100000 in
theorem fx_1 (G : s_G) : (W_d G)[117 + 1]? = some (s_cl (gq G) s_0 1) := rfl
set_option maxRecDepth 100000 in
theorem fw_2 (G : s_G) : (W_d G)[2]? = some (s_cl G s_0 2) := rfl
set_option maxRecDepth 100000 in
theorem fx_2 (G : s_G) : (W_d G)[117 + 2]? = some (s_cl (gq G) s_0 2) := rfl
set_option maxRecDepth 100000 in
theorem fw_3 (G : s_G) : (W_d G)[3]? = some (s_cl G s_0 3) := rfl
set_option maxRecDepth 100000 in
theorem fx_3 (G : s_G) : (W_d G)[117 + 3]? = some (s_cl (gq G) s_0 3) := rfl
set_option maxRecDepth 100000 in
theorem fw_4 (G : s_G) : (W_d G)[4]? = some (s_cl G s_0 4) := rfl
set_option maxRecDepth 100000 in
theorem fx_4 (G : s_G) : (W_d G)[117 + 4]? = some (s_cl (gq G) s_0 4) := rfl
set_option maxRecDepth 100000 in
theorem fw_5 (G : s_G) : (W_d G)[5]? = some (s_cl G s_0 5) := rfl
set_option maxRecDepth 100000 in
theorem fx_5 (G : s_G) : (W_d G)[117 + 5]? = some (s_cl (gq G) s_0 5) := rfl
set_option maxRecDepth 100000 in
theorem fw_6 (G : s_G) : (W_d G)[6]? = some (s_cl G s_0 6) := rfl
set_option maxRecDepth 100000 in
theorem fx_6 (G : s_G) : (W_d G)[117 + 6]? = some (s_cl (gq G) s_0 6) := rf_eq (fun j => congrArg some (ad_eq _ _ _ 117 _ rfl))
set_option maxRecDepth 100000 in
theorem fw_7 (G : s_G) : (W_d G)[7]? = some (s_cl G s_0 7) := rfl
set_option maxRecDepth 100000 in
theorem fx_7 (G : s_G) : (W_d G)[117 + 7]? = some (s_cl (gq G) s_0 7) := rfl
set_option maxRecDepth 100000 in
theorem fw_8 (G : s_G) : (W_d G)[8]? = some (s_cl G s_0 8) := rfl
set_option maxRecDepth 100000 in
theorem fx_8 (G : s_G) : (W_d G)[117 + 8]? = some (s_cl (gq G) s_0 8) := rfl
set_option maxRecDepth 100000 in
theorem fw_9 (G : s_G) : (W_d G)[9]? = some (s_cl G s_0 9) := rfl
set_option maxRecDepth 100000 in
theorem fx_9 (G : s_G) : (W_d G)[117 + 9]? = some (s_cl (gq G) s_0 9) := rfl
set_option maxRecDepth 100000 in
theorem fw_10 (G : s_G) : (W_d G)[10]? = some (s_cl G s_0 10) := rfl
set_option maxRecDepth 100000 in
theorem fx_10 (G : s_G) : (W_d G)[117 + 10]? = some (s_cl (gq G) s_0 10) := rfl
set_option maxRecDepth 100000 in
theorem fw_11 (G : s_G) : (W_d G)[11]? = some (s_cl G s_0 11) := rfl
set_option maxRecDepth 100000 in
theorem fx_11 (G : s_G) : (W_d G)[117 + 11]? = some (s_cl (gq G) s_0 11) := rfl
set_option maxRecDepth 100000 in
theorem fw_12 (G : s_G) : (W_d G)[12]? = some (s_cl G s_0 12) := rfl
set_option maxRecDepth 100000 in
theorem fx_12 (G : s_G) : (W_d G)[117 + 12]? = some (s_cl (gq G) s_0 12) := rfl
set_option maxRecDepth 100000 in
theorem fw_13 (G : s_G) : (W_d G)[13]? = some (s_cl G s_0 13) := rfl
set_option maxRecDepth 100000 in
theorem fx_13 (G : s_G) : (W_d G)[117 + 13]? = some (s_cl (gq G) s_0 13) := rfl
set_option maxRecDepth 100000 in
theorem fw_14 (G : s_G) : (W_d G)[14]? = some (s_cl G s_0 14) := rfl
set_option maxRecDepth 100000 in
theorem fx_14 (G : s_G) : (W_d G)[117 + 14]? = some (s_cl (gq G) s_0 14) := rfl
set_option maxRecDepth 100000 in
theorem fw_15 (G : s_G) : (W_d G)[15]? = some (s_cl G s_0 15) := rfl
set_option maxRecDepth 100000 in
theorem fx_15 (G : s_G) : (W_d G)[117 + 15]? = some (s_cl (gq G) s_0 15) := rf_eq (fun j => congrArg some (ad_eq _ _ _ 117 _ rfl))
set_option maxRecDepth 100000 in
theorem fw_16 (G : s_G) : (W_d G)[16]? = some (s_cl G s_0 16) := rfl
set_option maxRecDepth 100000 in
theorem fx_16 (G : s_G) : (W_d G)[117 + 16]? = some (s_cl (gq G) s_0 16) := rfl
set_option maxRecDepth 100000 in
theorem fw_17 (G : s_G) : (W_d G)[17]? = some (s_cl G s_0 17) := rfl
set_option maxRecDepth 100000 in
theorem fx_17 (G : s_G) : (W_d G)[117 + 17]? = some (s_cl (gq G) s_0 17) := rf_eq (fun j => congrArg some (ad_eq _ _ _ 117 _ rfl))
set_option maxRecDepth 100000 in
theorem fw_18 (G : s_G) : (W_d G)[18]? = some (s_cl G s_0 18) := rfl
set_option maxRecDepth 100000 in
theorem fx_18 (G : s_G) : (W_d G)[117 + 18]? = some (s_cl (gq G) s_0 18) := rfl
set_option maxRecDepth 100000 in
theorem fw_19 (G : s_G) : (W_d G)[19]? = some (s_cl G s_0 19) := rfl
set_option maxRecDepth 100000 in
theorem fx_19 (G : s_G) : (W_d G)[117 + 19]? = some (s_cl (gq G) s_0 19) := rfl
set_option maxRecDepth 100000 in
theorem fw_20 (G : s_G) : (W_d G)[20]? = some (s_cl G s_0 20) := rfl
set_option maxRecDepth 100000 in
theorem fx_20 (G : s_G) : (W_d G)[117 + 20]? = some (s_cl (gq G) s_0 20) := rfl
set_option maxRecDepth 100000 in
theorem fw_21 (G : s_G) : (W_d G)[21]? = some (s_cl G s_0 21) := rfl
set_option maxRecDepth 100000 in
theorem fx_21 (G : s_G) : (W_d G)[117 + 21]? = some (s_cl (gq G) s_0 21) := rfl
set_option maxRecDepth 100000 in
theorem fw_22 (G : s_G) : (W_d G)[22]? = some (s_cl G s_0 22) := rfl
set_option maxRecDepth 100000 in
theorem fx_22 (G : s_G) : (W_d G)[117 + 22]? = some (s_cl (gq G) s_0 22) := rfl
set_option maxRecDepth 100000 in
theorem fw_23 (G : s_G) : (W_d G)[23]? = some (s_cl G s_0 23) := rfl
set_option maxRecDepth 100000 in
theorem fx_23 (G : s_G) : (W_d G)[117 + 23]? = some (s_cl (gq G) s_0 23) := rfl
set_option maxRecDepth 100000 in
theorem fw_24 (G : s_G) : (W_d G)[24]? = some (s_cl G s_0 24) := rfl
set_option maxRecDepth 100000 in
theorem fx_24 (G : s_G) : (W_d G)[117 + 24]? = some (s_cl (gq G) s_0 24) := rfl
set_option maxRecDepth 100000 in
theorem fw_25 (G : s_G) : (W_d G)[25]? = some (s_cl G s_0 25) := rfl
set_option maxRecDepth 100000 in
theorem fx_25 (G : s_G) : (W_d G)[117 + 25]? = some (s_cl (gq G) s_0 25) := rfl
set_option maxRecDepth 100000 in
theorem fw_26 (G : s_G) : (W_d G)[26]? = some (s_cl G s_0 26) := rfl
set_option maxRecDepth 100000 in
theorem fx_26 (G : s_G) : (W_d G)[117 + 26]? = some (s_cl (gq G) s_0 26) := rf_eq (fun j => congrArg some (ad_eq _ _ _ 117 _ rfl))
set_option maxRecDepth 100000 in
theorem fw_27 (G : s_G) : (W_d G)[27]? = some (s_cl G s_0 27) := rfl
set_option maxRecDepth 100000 in
theorem fx_27 (G : s_G) : (W_d G)[117 + 27]? = some (s_cl (gq G) s_0 27) := rfl
set_option maxRecDepth 100000 in
theorem fw_28 (G : s_G) : (W_d G)[28]? = some (s_cl G s_0 28) := rfl
set_option maxRecDepth 100000 in
theorem fx_28 (G : s_G) : (W_d G)[117 + 28]? = some (s_cl (gq G) s_0 28) := rfl
set_option maxRecDepth 100000 in
theorem fw_29 (G : s_G) : (W_d G)[29]? = some (s_cl G s_0 29) := rfl
set_option maxRecDepth 100000 in
theorem fx_29 (G : s_G) : (W_d G)[117 + 29]? = some (s_cl (gq G) s_0 29) := rfl
set_option maxRecDepth 100000 in
theorem fw_30 (G : s_G) : (W_d G)[30]? = some (s_cl G s_0 30) := rfl
set_option maxRecDepth 100000 in
theorem fx_30 (G : s_G) : (W_d G)[117 + 30]? = some (s_cl (gq G) s_0 30) := rfl
set_option maxRecDepth 100000 in
theorem fw_31 (G : s_G) : (W_d G)[31]? = some (s_cl G s_0 31) := rfl
set_option maxRecDepth 100000 in
theorem fx_31 (G : s_G) : (W_d G)[117 + 31]? = some (s_cl (gq G) s_0 31) := rfl
set_option maxRecDepth 100000 in
theorem fw_32 (G : s_G) : (W_d G)[32]? = some (s_cl G s_0 32) := rfl
set_option maxRecDepth 100000 in
theorem fx_32 (G : s_G) : (W_d G)[117 + 32]? = some (s_cl (gq G) s_0 32) := rfl
set_option maxRecDepth 100000 in
theorem fw_33 (G : s_G) : (W_d G)[33]? = some (s_cl G s_0 33) := rfl
set_option maxRecDepth 100000 in
theorem fx_33 (G : s_G) : (W_d G)[117 + 33]? = some (s_cl (gq G) s_0 33) := rfl
set_option maxRecDepth 100000 in
theorem fw_34 (G : s_G) : (W_d G)[34]? = some (s_cl G s_0 34) := rfl
set_option maxRecDepth 100000 in
theorem fx_34 (G : s_G) : (W_d G)[117 + 34]? = some (s_cl (gq G) s_0 34) := rfl
set_option maxRecDepth 100000 in
theorem fw_35 (G : s_G) : (W_d G)[35]? = some (s_cl G s_0 35) := rfl
set_option maxRecDepth 100000 in
theorem fx_35 (G : s_G) : (W_d G)[117 + 35]? = some (s_cl (gq G) s_0 35) := rf_eq (fun j => congrArg some (ad_eq _ _ _ 117 _ rfl))
set_option maxRecDepth 100000 in
theorem fw_36 (G : s_G) : (W_d G)[36]? = some (s_cl G s_0 36) := rfl
set_option maxRecDepth 100000 in
theorem fx_36 (G : s_G) : (W_d G)[117 + 36]? = some (s_cl (gq G) s_0 36) := rfl
set_option maxRecDepth 100000 in
theorem fw_37 (G : s_G) : (W_d G)[37]? = some (s_cl G s_0 37) := rfl
set_option maxRecDepth 100000 in
theorem fx_37 (G : s_G) : (W_d G)[117 + 37]? = some (s_cl (gq G) s_0 37) := rfl
set_option maxRecDepth 100000 in
theorem fw_38 (G : s_G) : (W_d G)[38]? = some (s_cl G s_0 38) := rfl
set_option maxRecDepth 100000 in
theorem fx_38 (G : s_G) : (W_d G)[117 + 38]? = some (s_cl (gq G) s_0 38) := rfl
set_option maxRecDepth 100000 in
theorem fw_39 (G : s_G) : (W_d G)[39]? = some (s_cl G s_0 39) := rfl
set_option maxRecDepth 100000 in
theorem fx_39 (G : s_G) : (W_d G)[117 + 39]? = some (s_cl (gq G) s_0 39) := rfl
set_option maxRecDepth 100000 in
theorem fw_40 (G : s_G) : (W_d G)[40]? = some (s_cl G s_0 40) := rfl
set_option maxRecDepth 100000 in
theorem fx_40 (G : s_G) : (W_d G)[117 + 40]? = some (s_cl (gq G) s_0 40) := rfl
set_option maxRecDepth 100000 in
theorem fw_41 (G : s_G) : (W_d G)[41]? = some (s_cl G s_0 41) := rfl
set_option maxRecDepth 100000 in
theorem fx_41 (G : s_G) : (W_d G)[117 + 41]? = some (s_cl (gq G) s_0 41) := rfl
set_option maxRecDepth 100000 in
theorem fw_42 (G : s_G) : (W_d G)[42]? = some (s_cl G s_0 42) := rfl
set_option maxRecDepth 100000 in
theorem fx_42 (G : s_G) : (W_d G)[117 + 42]? = some (s_cl (gq G) s_0 42) := rfl
set_option maxRecDepth 100000 in
theorem fw_43 (G : s_G) : (W_d G)[43]? = some (s_cl G s_0 43) := rfl
set_option maxRecDepth 100000 in
theorem fx_43 (G : s_G) : (W_d G)[117 + 43]? = some (s_cl (gq G) s_0 43) := rfl
set_option maxRecDepth 100000 in
theorem fw_44 (G : s_G) : (W_d G)[44]? = some (s_cl G s_0 44) := rfl
set_option maxRecDepth 100000 in
theorem fx_44 (G : s_G) : (W_d G)[117 + 44]? = some (s_cl (gq G) s_0 44) := rf_eq (fun j => congrArg some (ad_eq _ _ _ 117 _ rfl))
set_option maxRecDepth 100000 in
theorem fw_45 (G : s_G) : (W_d G)[45]? = some (s_cl G s_0 45) := rfl
set_option maxRecDepth 100000 in
theorem fx_45 (G : s_G) : (W_d G)[117 + 45]? = some (s_cl (gq G) s_0 45) := rfl
set_option maxRecDepth 100000 in
theorem fw_46 (G : s_G) : (W_d G)[46]? = some (s_cl G s_0 46) := rfl
set_option maxRecDepth 100000 in
theorem fx_46 (G : s_G) : (W_d G)[117 + 46]? = some (s_cl (gq G) s_0 46) := rfl
set_option maxRecDepth 100000 in
theorem fw_47 (G : s_G) : (W_d G)[47]? = some (s_cl G s_0 47) := rfl
set_option maxRecDepth 100000 in
theorem fx_47 (G : s_G) : (W_d G)[117 + 47]? = some (s_cl (gq G) s_0 47) := rfl
set_option maxRecDepth 100000 in
theorem fw_48 (G : s_G) : (W_d G)[48]? = some (s_cl G s_0 48) := rfl
set_option maxRecDepth 100000 in
theorem fx_48 (G : s_G) : (W_d G)[117 + 48]? = some (s_cl (gq G) s_0 48) := rfl
set_option maxRecDepth 100000 in
theorem fw_49 (G : s_G) : (W_d G)[49]? = some (s_cl G s_0 49) := rfl
set_option maxRecDepth 100000 in
theorem fx_49 (G : s_G) : (W_d G)[117 + 49]? = some (s_cl (gq G) s_0 49) := rfl
set_option maxRecDepth 100000 in
theorem fw_50 (G : s_G) : (W_d G)[50]? = some (s_cl G s_0 50) := rfl
set_option maxRecDepth 100000 in
theorem fx_50 (G : s_G) : (W_d G)[117 + 50]? = some (s_cl (gq G) s_0 50) := rfl
set_option maxRecDepth 100000 in
theorem fw_51 (G : s_G) : (W_d G)[51]? = some (s_cl G s_0 51) := rfl
set_option maxRecDepth 100000 in
theorem fx_51 (G : s_G) : (W_d G)[117 + 51]? = some (s_cl (gq G) s_0 51) := rfl
set_option maxRecDepth 100000 in
theorem fw_52 (G : s_G) : (W_d G)[52]? = some (s_cl G s_0 52) := rfl
set_option maxRecDepth 100000 in
theorem fx_52 (G : s_G) : (W_d G)[117 + 52]? = some (s_cl (gq G) s_0 52) := rfl
set_option maxRecDepth 100000 in
theorem fw_53 (G : s_G) : (W_d G)[53]? = some (s_cl G s_0 53) := rfl
set_option maxRecDepth 100000 in
theorem fx_53 (G : s_G) : (W_d G)[117 + 53]? = some (s_cl (gq G) s_0 53) := rf_eq (fun j => congrArg some (ad_eq _ _ _ 117 _ rfl))
set_option maxRecDepth 100000 in
theorem fw_54 (G : s_G) : (W_d G)[54]? = some (s_cl G s_0 54) := rfl
set_option maxRecDepth 100000 in
theorem fx_54 (G : s_G) : (W_d G)[117 + 54]? = some (s_cl (gq G) s_0 54) := rfl
set_option maxRecDepth 100000 in
theorem fw_55 (G : s_G) : (W_d G)[55]? = some (s_cl G s_0 55) := rfl
set_option maxRecDepth 100000 in
theorem fx_55 (G : s_G) : (W_d G)[117 + 55]? = some (s_cl (gq G) s_0 55) := rfl
set_option maxRecDepth 100000 in
theorem fw_56 (G : s_G) : (W_d G)[56]? = some (s_cl G s_0 56) := rfl
set_option maxRecDepth 100000 in
theorem fx_56 (G : s_G) : (W_d G)[117 + 56]? = some (s_cl (gq G) s_0 56) := rfl
set_option maxRecDepth 100000 in
theorem fw_57 (G : s_G) : (W_d G)[57]? = some (s_cl G s_0 57) := rfl
set_option maxRecDepth 100000 in
theorem fx_57 (G : s_G) : (W_d G)[117 + 57]? = some (s_cl (gq G) s_0 57) := rfl
set_option maxRecDepth 100000 in
theorem fw_58 (G : s_G) : (W_d G)[58]? = some (s_cl G s_0 58) := rfl
set_option maxRecDepth 100000 in
theorem fx_58 (G : s_G) : (W_d G)[117 + 58]? = some (s_cl (gq G) s_0 58) := rfl
set_option maxRecDepth 100000 in
theorem fw_59 (G : s_G) : (W_d G)[59]? = some (s_cl G s_0 59) := rfl
set_option maxRecDepth 100000 in
theorem fx_59 (G : s_G) : (W_d G)[117 + 59]? = some (s_cl (gq G) s_0 59) := rfl
set_option maxRecDepth 100000 in
theorem fw_60 (G : s_G) : (W_d G)[60]? = some (s_cl G s_0 60) := rfl
set_option maxRecDepth 100000 in
theorem fx_60 (G : s_G) : (W_d G)[117 + 60]? = some (s_cl (gq G) s_0 60) := rfl
set_option maxRecDepth 100000 in
theorem fw_61 (G : s_G) : (W_d G)[61]? = some (s_cl G s_0 61) := rfl
set_option maxRecDepth 100000 in
theorem fx_61 (G : s_G) : (W_d G)[117 + 61]? = some (s_cl (gq G) s_0 61) := rfl
set_option maxRecDepth 100000 in
theorem fw_62 (G : s_G) : (W_d G)[62]? = some (s_cl G s_0 62) := rfl
set_option maxRecDepth 100000 in
theorem fx_62 (G : s_G) : (W_d G)[117 + 62]? = some (s_cl (gq G) s_0 62) := rf_eq (fun j => congrArg some (ad_eq _ _ _ 117 _ rfl))
set_option maxRecDepth 100000 in
theorem fw_63 (G : s_G) : (W_d G)[63]? = some (s_cl G s_0 63) := rfl
set_option maxRecDepth 100000 in
theorem fx_63 (G : s_G) : (W_d G)[117 + 63]? = some (s_cl (gq G) s_0 63) := rfl
set_option maxRecDepth 100000 in
theorem fw_64 (G : s_G) : (W_d G)[64]? = some (s_cl G s_0 64) := rfl
set_option maxRecDepth 100000 in
theorem fx_64 (G : s_G) : (W_d G)[117 + 64]? = some (s_cl (gq G) s_0 64) := rfl
set_option maxRecDepth 100000 in
theorem fw_65 (G : s_G) : (W_d G)[65]? = some (s_cl G s_0 65) := rfl
set_option maxRecDepth 100000 in
theorem fx_65 (G : s_G) : (W_d G)[117 + 65]? = some (s_cl (gq G) s_0 65) := rfl
set_option maxRecDepth 100000 in
theorem fw_66 (G : s_G) : (W_d G)[66]? = some (s_cl G s_0 66) := rfl
set_option maxRecDepth 100000 in
theorem fx_66 (G : s_G) : (W_d G)[117 + 66]? = some (s_cl (gq G) s_0 66) := rfl
set_option maxRecDepth 100000 in
theorem fw_67 (G : s_G) : (W_d G)[67]? = some (s_cl G s_0 67) := rfl
set_option maxRecDepth 100000 in
theorem fx_67 (G : s_G) : (W_d G)[117 + 67]? = some (s_cl (gq G) s_0 67) := rfl
set_option maxRecDepth 100000 in
theorem fw_68 (G : s_G) : (W_d G)[68]? = some (s_cl G s_0 68) := rfl
set_option maxRecDepth 100000 in
theorem fx_68 (G : s_G) : (W_d G)[117 + 68]? = some (s_cl (gq G) s_0 68) := rfl
set_option maxRecDepth 100000 in
theorem fw_69 (G : s_G) : (W_d G)[69]? = some (s_cl G s_0 69) := rfl
set_option maxRecDepth 100000 in
theorem fx_69 (G : s_G) : (W_d G)[117 + 69]? = some (s_cl (gq G) s_0 69) := rfl
set_option maxRecDepth 100000 in
theorem fw_70 (G : s_G) : (W_d G)[70]? = some (s_cl G s_0 70) := rfl
set_option maxRecDepth 100000 in
theorem fx_70 (G : s_G) : (W_d G)[117 + 70]? = some (s_cl (gq G) s_0 70) := rfl
set_option maxRecDepth 100000 in
theorem fw_71 (G : s_G) : (W_d G)[71]? = some (s_cl G s_0 71) := rfl
set_option maxRecDepth 100000 in
theorem fx_71 (G : s_G) : (W_d G)[117 + 71]? = some (s_cl (gq G) s_0 71) := rf_eq (fun j => congrArg some (ad_eq _ _ _ 117 _ rfl))
set_option maxRecDepth 100000 in
theorem fw_72 (G : s_G) : (W_d G)[72]? = some (s_cl G s_0 72) := rfl
set_option maxRecDepth 100000 in
theorem fx_72 (G : s_G) : (W_d G)[117 + 72]? = some (s_cl (gq G) s_0 72) := rfl
set_option maxRecDepth 100000 in
theorem fw_73 (G : s_G) : (W_d G)[73]? = some (s_cl G s_0 73) := rfl
set_option maxRecDepth 100000 in
theorem fx_73 (G : s_G) : (W_d G)[117 + 73]? = some (s_cl (gq G) s_0 73) := rfl
set_option maxRecDepth 100000 in
theorem fw_74 (G : s_G) : (W_d G)[74]? = some (s_cl G s_0 74) := rfl
set_option maxRecDepth 100000 in
theorem fx_74 (G : s_G) : (W_d G)[117 + 74]? = some (s_cl (gq G) s_0 74) := rfl
set_option maxRecDepth 100000 in
theorem fw_75 (G : s_G) : (W_d G)[75]? = some (s_cl G s_0 75) := rfl
set_option maxRecDepth 100000 in
theorem fx_75 (G : s_G) : (W_d G)[117 + 75]? = some (s_cl (gq G) s_0 75) := rfl
set_option maxRecDepth 100000 in
theorem fw_76 (G : s_G) : (W_d G)[76]? = some (s_cl G s_0 76) := rfl
set_option maxRecDepth 100000 in
theorem fx_76 (G : s_G) : (W_d G)[117 + 76]? = some (s_cl (gq G) s_0 76) := rfl
set_option maxRecDepth 100000 in
theorem fw_77 (G : s_G) : (W_d G)[77]? = some (s_cl G s_0 77) := rfl
set_option maxRecDepth 100000 in
theorem fx_77 (G : s_G) : (W_d G)[117 + 77]? = some (s_cl (gq G) s_0 77) := rfl
set_option maxRecDepth 100000 in
theorem fw_78 (G : s_G) : (W_d G)[78]? = some (s_cl G s_0 78) := rfl
set_option maxRecDepth 100000 in
theorem fx_78 (G : s_G) : (W_d G)[117 + 78]? = some (s_cl (gq G) s_0 78) := rfl
set_option maxRecDepth 100000 in
theorem fw_79 (G : s_G) : (W_d G)[79]? = some (s_cl G s_0 79) := rfl
set_option maxRecDepth 100000 in
theorem fx_79 (G : s_G) : (W_d G)[117 + 79]? = some (s_cl (gq G) s_0 79) := rfl
set_option maxRecDepth 100000 in
theorem fw_80 (G : s_G) : (W_d G)[80]? = some (s_cl G s_0 80) := rfl
set_option maxRecDepth 100000 in
theorem fx_80 (G : s_G) : (W_d G)[117 + 80]? = some (s_cl (gq G) s_0 80) := rf_eq (fun j => congrArg some (ad_eq _ _ _ 117 _ rfl))
set_option maxRecDepth 100000 in
theorem fw_81 (G : s_G) : (W_d G)[81]? = some (s_cl G s_0 81) := rfl
set_option maxRecDepth 100000 in
theorem fx_81 (G : s_G) : (W_d G)[117 + 81]? = some (s_cl (gq G) s_0 81) := rfl
set_option maxRecDepth 100000 in
theorem fw_82 (G : s_G) : (W_d G)[82]? = some (s_cl G s_0 82) := rfl
set_option maxRecDepth 100000 in
theorem fx_82 (G : s_G) : (W_d G)[117 + 82]? = some (s_cl (gq G) s_0 82) := rfl
set_option maxRecDepth 100000 in
theorem fw_83 (G : s_G) : (W_d G)[83]? = some (s_cl G s_0 83) := rfl
set_option maxRecDepth 100000 in
theorem fx_83 (G : s_G) : (W_d G)[117 + 83]? = some (s_cl (gq G) s_0 83) := rfl
set_option maxRecDepth 100000 in
theorem fw_84 (G : s_G) : (W_d G)[84]? = some (s_cl G s_0 84) := rfl
set_option maxRecDepth 100000 in
theorem fx_84 (G : s_G) : (W_d G)[117 + 84]? = some (s_cl (gq G) s_0 84) := rfl
set_option maxRecDepth 100000 in
theorem fw_85 (G : s_G) : (W_d G)[85]? = some (s_cl G s_0 85) := rfl
set_option maxRecDepth 100000 in
theorem fx_85 (G : s_G) : (W_d G)[117 + 85]? = some (s_cl (gq G) s_0 85) := rfl
set_option maxRecDepth 100000 in
theorem fw_86 (G : s_G) : (W_d G)[86]? = some (s_cl G s_0 86) := rfl
set_option maxRecDepth 100000 in
theorem fx_86 (G : s_G) : (W_d G)[117 + 86]? = some (s_cl (gq G) s_0 86) := rfl
set_option maxRecDepth 100000 in
theorem fw_87 (G : s_G) : (W_d G)[87]? = some (s_cl G s_0 87) := rfl
set_option maxRecDepth 100000 in
theorem fx_87 (G : s_G) : (W_d G)[117 + 87]? = some (s_cl (gq G) s_0 87) := rfl
set_option maxRecDepth 100000 in
theorem fw_88 (G : s_G) : (W_d G)[88]? = some (s_cl G s_0 88) := rfl
set_option maxRecDepth 100000 in
theorem fx_88 (G : s_G) : (W_d G)[117 + 88]? = some (s_cl (gq G) s_0 88) := rf_eq (fun j => congrArg some (ad_eq _ _ _ 117 _ rfl))
set_option maxRecDepth 100000 in
theorem fw_89 (G : s_G) : (W_d G)[89]? = some (s_cl G s_0 89) := rfl
set_option maxRecDepth 100000 in
theorem fx_89 (G : s_G) : (W_d G)[117 + 89]? = some (s_cl (gq G) s_0 89) := rfl
set_option maxRecDepth 100000 in
theorem fw_90 (G : s_G) : (W_d G)[90]? = some (s_cl G s_0 90) := rfl
set_option maxRecDepth 100000 in
theorem fx_90 (G : s_G) : (W_d G)[117 + 90]? = some (s_cl (gq G) s_0 90) := rfl
set_option maxRecDepth 100000 in
theorem fw_91 (G : s_G) : (W_d G)[91]? = some (s_cl G s_0 91) := rfl
set_option maxRecDepth 100000 in
theorem fx_91 (G : s_G) : (W_d G)[117 + 91]? = some (s_cl (gq G) s_0 91) := rfl
set_option maxRecDepth 100000 in
theorem fw_92 (G : s_G) : (W_d G)[92]? = some (s_cl G s_0 92) := rfl
set_option maxRecDepth 100000 in
theorem fx_92 (G : s_G) : (W_d G)[117 + 92]? = some (s_cl (gq G) s_0 92) := rfl
set_option maxRecDepth 100000 in
theorem fw_93 (G : s_G) : (W_d G)[93]? = some (s_cl G s_0 93) := rfl
set_option maxRecDepth 100000 in
theorem fx_93 (G : s_G) : (W_d G)[117 + 93]? = some (s_cl (gq G) s_0 93) := rfl
set_option maxRecDepth 100000 in
theorem fw_94 (G : s_G) : (W_d G)[94]? = some (s_cl G s_0 94) := rfl
set_option maxRecDepth 100000 in
theorem fx_94 (G : s_G) : (W_d G)[117 + 94]? = some (s_cl (gq G) s_0 94) := rfl
set_option maxRecDepth 100000 in
theorem fw_95 (G : s_G) : (W_d G)[95]? = some (s_cl G s_0 95) := rfl
set_option maxRecDepth 100000 in
theorem fx_95 (G : s_G) : (W_d G)[117 + 95]? = some (s_cl (gq G) s_0 95) := rfl
set_option maxRecDepth 100000 in
theorem fw_96 (G : s_G) : (W_d G)[96]? = some (s_cl G s_0 96) := rfl
set_option maxRecDepth 100000 in
theorem fx_96 (G : s_G) : (W_d G)[117 + 96]? = some (s_cl (gq G) s_0 96) := rfl
set_option maxRecDepth 100000 in
theorem fw_97 (G : s_G) : (W_d G)[97]? = some (s_cl G s_0 97) := rfl
set_option maxRecDepth 100000 in
theorem fx_97 (G : s_G) : (W_d G)[117 + 97]? = some (s_cl (gq G) s_0 97) := rfl
set_option maxRecDepth 100000 in
theorem fw_98 (G : s_G) : (W_d G)[98]? = some (s_cl G s_0 98) := rfl
set_option maxRecDepth 100000 in
theorem fx_98 (G : s_G) : (W_d G)[117 + 98]? = some (s_cl (gq G) s_0 98) := rfl
set_option maxRecDepth 100000 in
theorem fw_99 (G : s_G) : (W_d G)[99]? = some (s_cl G s_0 99) := rfl
set_option maxRecDepth 100000 in
theorem fx_99 (G : s_G) : (W_d G)[117 + 99]? = some (s_cl (gq G) s_0 99) := rfl
set_option maxRecDepth 100000 in
theorem fw_100 (G : s_G) : (W_d G)[100]? = some (s_cl G s_0 100) := rfl
set_option maxRecDepth 100000 in
theorem fx_100 (G : s_G) : (W_d G)[117 + 100]? = some (s_cl (gq G) s_0 100) := rf_eq (fun j => congrArg some (ad_eq _ _ _ 117 _ rfl))
set_option maxRecDepth 100000 in
theorem fw_101 (G : s_G) : (W_d G)[101]? = some (s_cl G s_0 101) := rfl
set_option maxRecDepth 100000 in
theorem fx_101 (G : s_G) : (W_d G)[117 + 101]? = some (s_cl (gq G) s_0 101) := rfl
set_option maxRecDepth 100000 in
theorem fw_102 (G : s_G) : (W_d G)[102]? = some (s_cl G s_0 102) := rfl
set_option maxRecDepth 100000 in
theorem fx_102 (G : s_G) : (W_d G)[117 + 102]? = some (s_cl (gq G) s_0 102) := rfl
set_option maxRecDepth 100000 in
theorem fw_103 (G : s_G) : (W_d G)[103]? = some (s_cl G s_0 103) := rfl
set_option maxRecDepth 100000 in
theorem fx_103 (G : s_G) : (W_d G)[117 + 103]? = some (s_cl (gq G) s_0 103) := rfl
set_option maxRecDepth 100000 in
theorem fw_104 (G : s_G) : (W_d G)[104]? = some (s_cl G s_0 104) := rfl
set_option maxRecDepth 100000 in
theorem fx_104 (G : s_G) : (W_d G)[117 + 104]? = some (s_cl (gq G) s_0 104) := rfl
set_option maxRecDepth 100000 in
theorem fw_105 (G : s_G) : (W_d G)[105]? = some (s_cl G s_0 105) := rfl
set_option maxRecDepth 100000 in
theorem fx_105 (G : s_G) : (W_d G)[117 + 105]? = some (s_cl (gq G) s_0 105) := rfl
set_option maxRecDepth 100000 in
theorem fw_106 (G : s_G) : (W_d G)[106]? = some (s_cl G s_0 106) := rfl
set_option maxRecDepth 100000 in
theorem fx_106 (G : s_G) : (W_d G)[117 + 106]? = some (s_cl (gq G) s_0 106) := rfl
set_option maxRecDepth 100000 in
theorem fw_107 (G : s_G) : (W_d G)[107]? = some (s_cl G s_0 107) := rfl
set_option maxRecDepth 100000 in
theorem fx_107 (G : s_G) : (W_d G)[117 + 107]? = some (s_cl (gq G) s_0 107) := rfl
set_option maxRecDepth 100000 in
theorem fw_108 (G : s_G) : (W_d G)[108]? = some (s_cl G s_0 108) := rfl
set_option maxRecDepth 100000 in
theorem fx_108 (G : s_G) : (W_d G)[117 + 108]? = some (s_cl (gq G) s_0 108) := rfl
set_option maxRecDepth 100000 in
theorem fw_109 (G : s_G) : (W_d G)[109]? = some (s_cl G s_0 109) := rfl
set_option maxRecDepth 100000 in
theorem fx_109 (G : s_G) : (W_d G)[117 + 109]? = some (s_cl (gq G) s_0 109) := rf_eq (fun j => congrArg some (ad_eq _ _ _ 117 _ rfl))
set_option maxRecDepth 100000 in
theorem fw_110 (G : s_G) : (W_d G)[110]? = some (s_cl G s_0 110) := rfl
set_option maxRecDepth 100000 in
theorem fx_110 (G : s_G) : (W_d G)[117 + 110]? = some (s_cl (gq G) s_0 110) := rfl
set_option maxRecDepth 100000 in
theorem fw_111 (G : s_G) : (W_d G)[111]? = some (s_cl G s_0 111) := rfl
set_option maxRecDepth 100000 in
theorem fx_111 (G : s_G) : (W_d G)[117 + 111]? = some (s_cl (gq G) s_0 111) := rfl
set_option maxRecDepth 100000 in
theorem fw_112 (G : s_G) : (W_d G)[112]? = some (s_cl G s_0 112) := rfl
set_option maxRecDepth 100000 in
theorem fx_112 (G : s_G) : (W_d G)[117 + 112]? = some (s_cl (gq G) s_0 112) := rfl
set_option maxRecDepth 100000 in
theorem fw_113 (G : s_G) : (W_d G)[113]? = some (s_cl G s_0 113) := rfl
set_option maxRecDepth 100000 in
theorem fx_113 (G : s_G) : (W_d G)[117 + 113]? = some (s_cl (gq G) s_0 113) := rfl
set_option maxRecDepth 100000 in
theorem fw_114 (G : s_G) : (W_d G)[114]? = some (s_cl G s_0 114) := rfl
set_option maxRecDepth 100000 in
theorem fx_114 (G : s_G) : (W_d G)[117 + 114]? = some (s_cl (gq G) s_0 114) := rfl
set_option maxRecDepth 100000 in
theorem fw_115 (G : s_G) : (W_d G)[115]? = some (s_cl G s_0 115) := rfl
set_option maxRecDepth 100000 in
theorem fx_115 (G : s_G) : (W_d G)[117 + 115]? = some (s_cl (gq G) s_0 115) := rfl
set_option maxRecDepth 100000 in
theorem fw_116 (G : s_G) : (W_d G)[116]? = some (s_cl G s_0 116) := rfl
set_option maxRecDepth 100000 in
theorem fx_116 (G : s_G) : (W_d G)[117 + 116]? = some (s_cl (gq G) s_0 116) := rfl
theorem fw_all (G : s_G) : ∀ i, i < 117 → (W_d G)[i]? = some (s_cl G s_0 i) := fun i hi => match i, hi with
  | 0, _ => fw_0 G
  | 1, _ => fw_1 G
  | 2, _ => fw_2 G
  | 3, _ => fw_3 G
  | 4, _ => fw_4 G
  | 5, _ => fw_5 G
  | 6, _ => fw_6 G
  | 7, _ => fw_7 G
  | 8, _ => fw_8 G
  | 9, _ => fw_9 G
  | 10, _ => fw_10 G
  | 11, _ => fw_11 G
  | 12, _ => fw_12 G
  | 13, _ => fw_13 G
  | 14, _ => fw_14 G
  | 15, _ => fw_15 G
  | 16, _ => fw_16 G
  | 17, _ => fw_17 G
  | 18, _ => fw_18 G
  | 19, _ => fw_19 G
  | 20, _ => fw_20 G
  | 21, _ => fw_21 G
  | 22, _ => fw_22 G
  | 23, _ => fw_23 G
  | 24, _ => fw_24 G
  | 25, _ => fw_25 G
  | 26, _ => fw_26 G
  | 27, _ => fw_27 G
  | 28, _ => fw_28 G
  | 29, _ => fw_29 G
  | 30, _ => fw_30 G
  | 31, _ => fw_31 G
  | 32, _ => fw_32 G
  | 33, _ => fw_33 G
  | 34, _ => fw_34 G
  | 35, _ => fw_35 G
  | 36, _ => fw_36 G
  | 37, _ => fw_37 G
  | 38, _ => fw_38 G
  | 39, _ => fw_39 G
  | 40, _ => fw_40 G
  | 41, _ => fw_41 G
  | 42, _ => fw_42 G
  | 43, _ => fw_43 G
  | 44, _ => fw_44 G
  | 45, _ => fw_45 G
  | 46, _ => fw_46 G
  | 47, _ => fw_47 G
  | 48, _ => fw_48 G
  | 49, _ => fw_49 G
  | 50, _ => fw_50 G
  | 51, _ => fw_51 G
  | 52, _ => fw_52 G
  | 53, _ => fw_53 G
  | 54, _ => fw_54 G
  | 55, _ => fw_55 G
  | 56, _ => fw_56 G
  | 57, _ => fw_57 G
  | 58, _ => fw_58 G
  | 59, _ => fw_59 G
  | 60, _ => fw_60 G
  | 61, _ => fw_61 G
  | 62, _ => fw_62 G
  | 63, _ => fw_63 G
  | 64, _ => fw_64 G
  | 65, _ => fw_65 G
  | 66, _ => fw_66 G
  | 67, _ => fw_67 G
  | 68, _ => fw_68 G
  | 69, _ => fw_69 G
  | 70, _ => fw_70 G
  | 71, _ => fw_71 G
  | 72, _ => fw_72 G
  | 73, _ => fw_73 G
  | 74, _ => fw_74 G
  | 75, _ => fw_75 G
  | 76, _ => fw_76 G
  | 77, _ => fw_77 G
  | 78, _ => fw_78 G
  | 79, _ => fw_79 G
  | 80, _ => fw_80 G
  | 81, _ => fw_81 G
  | 82, _ => fw_82 G
  | 83, _ => fw_83 G
  | 84, _ => fw_84 G
  | 85, _ => fw_85 G
  | 86, _ => fw_86 G
  | 87, _ => fw_87 G
  | 88, _ => fw_88 G
  | 89, _ => fw_89 G
  | 90, _ => fw_90 G
  | 91, _ => fw_91 G
  | 92, _ => fw_92 G
  | 93, _ => fw_93 G
  | 94, _ => fw_94 G
  | 95, _ => fw_95 G
  | 96, _ => fw_96 G
  | 97, _ => fw_97 G
  | 98, _ => fw_98 G
  | 99, _ => fw_99 G
  | 100, _ => fw_100 G
  | 101, _ => fw_101 G
  | 102, _ => fw_102 G
  | 103, _ => fw_103 G
  | 104, _ => fw_104 G
  | 105, _ => fw_105 G
  | 106, _ => fw_106 G
  | 107, _ => fw_107 G
  | 108, _ => fw_108 G
  | 109, _ => fw_109 G
  | 110, _ => fw_110 G
  | 111, _ => fw_111 G
  | 112, _ => fw_112 G
  | 113, _ => fw_113 G
  | 114, _ => fw_114 G
  | 115, _ => fw_115 G
  | 116, _ => fw_116 G
  | n + 117, h => absurd h (by omega)
theorem fx_all (G : s_G) : ∀ i, i < 117 → (W_d G)[117 + i]? = some (s_cl (gq G) s_0 i) := fun i hi => match i, hi with
  | 0, _ => fx_0 G
  | 1, _ => fx_1 G
  | 2, _ => fx_2 G
  | 3, _ => fx_3 G
  | 4, _ => fx_4 G
  | 5, _ => fx_5 G
  | 6, _ => fx_6 G
  | 7, _ => fx_7 G
  | 8, _ => fx_8 G
  | 9, _ => fx_9 G
  | 10, _ => fx_10 G
  | 11, _ => fx_11 G
  | 12, _ => fx_12 G
  | 13, _ => fx_13 G
  | 14, _ => fx_14 G
  | 15, _ => fx_15 G
  | 16, _ => fx_16 G
  | 17, _ => fx_17 G
  | 18, _ => fx_18 G
  | 19, _ => fx_19 G
  | 20, _ => fx_20 G
  | 21, _ => fx_21 G
  | 22, _ => fx_22 G
  | 23, _ => fx_23 G
  | 24, _ => fx_24 G
  | 25, _ => fx_25 G
  | 26, _ => fx_26 G
  | 27, _ => fx_27 G
  | 28, _ => fx_28 G
  | 29, _ => fx_29 G
  | 30, _ => fx_30 G
  | 31, _ => fx_31 G
  | 32, _ => fx_32 G
  | 33, _ => fx_33 G
  | 34, _ => fx_34 G
  | 35, _ => fx_35 G
  | 36, _ => fx_36 G
  | 37, _ => fx_37 G
  | 38, _ => fx_38 G
  | 39, _ => fx_39 G
  | 40, _ => fx_40 G
  | 41, _ => fx_41 G
  | 42, _ => fx_42 G
  | 43, _ => fx_43 G
  | 44, _ => fx_44 G
  | 45, _ => fx_45 G
  | 46, _ => fx_46 G
  | 47, _ => fx_47 G
  | 48, _ => fx_48 G
  | 49, _ => fx_49 G
  | 50, _ => fx_50 G
  | 51, _ => fx_51 G
  | 52, _ => fx_52 G
  | 53, _ => fx_53 G
  | 54, _ => fx_54 G
  | 55, _ => fx_55 G
  | 56, _ => fx_56 G
  | 57, _ => fx_57 G
  | 58, _ => fx_58 G
  | 59, _ => fx_59 G
  | 60, _ => fx_60 G
  | 61, _ => fx_61 G
  | 62, _ => fx_62 G
  | 63, _ => fx_63 G
  | 64, _ => fx_64 G
  | 65, _ => fx_65 G
  | 66, _ => fx_66 G
  | 67, _ => fx_67 G
  | 68, _ => fx_68 G
  | 69, _ => fx_69 G
  | 70, _ => fx_70 G
  | 71, _ => fx_71 G
  | 72, _ => fx_72 G
  | 73, _ => fx_73 G
  | 74, _ => fx_74 G
  | 75, _ => fx_75 G
  | 76, _ => fx_76 G
  | 77, _ => fx_77 G
  | 78, _ => fx_78 G
  | 79, _ => fx_79 G
  | 80, _ => fx_80 G
  | 81, _ => fx_81 G
  | 82, _ => fx_82 G
  | 83, _ => fx_83 G
  | 84, _ => fx_84 G
  | 85, _ => fx_85 G
  | 86, _ => fx_86 G
  | 87, _ => fx_87 G
  | 88, _ => fx_88 G
  | 89, _ => fx_89 G
  | 90, _ => fx_90 G
  | 91, _ => fx_91 G
  | 92, _ => fx_92 G
  | 93, _ => fx_93 G
  | 94, _ => fx_94 G
  | 95, _ => fx_95 G
  | 96, _ => fx_96 G
  | 97, _ => fx_97 G
  | 98, _ => fx_98 G
  | 99, _ => fx_99 G
  | 100, _ => fx_100 G
  | 101, _ => fx_101 G
  | 102, _ => fx_102 G
  | 103, _ => fx_103 G
  | 104, _ => fx_104 G
  | 105, _ => fx_105 G
  | 106, _ => fx_106 G
  | 107, _ => fx_107 G
  | 108, _ => fx_108 G
  | 109, _ => fx_109 G
  | 110, _ => fx_110 G
  | 111, _ => fx_111 G
  | 112, _ => fx_112 G
  | 113, _ => fx_113 G
  | 114, _ => fx_114 G
  | 115, _ => fx_115 G
  | 116, _ => fx_116 G
  | n + 117, h => absurd h (by omega)
theorem fw (G : s_G) {H : Heap} (h : va_P G.1 vwCl (c_idx G.2.2 (W_d G)) H) : va_P G.1 vwCl (s_W G s_0) H ∧ va_P G.1 vwCl (s_W (gq G) s_0) H := by
  have key : ∀ (G' : s_G) (k : Nat) (q : Nat × va_E), (s_W G' s_0)[k]? = some q → k < 117 ∧ q = (G'.2.2 + k, s_cl G' s_0 k) := by
    intro G' k q hq
    have hk : k < 117 := by
      have := (List.getElem?_eq_some_iff.mp hq).1
      simpa [s_W] using this
    rw [s_at0 G' s_0 hk] at hq
    cases hq
    exact ⟨hk, rfl⟩
  refine ⟨fun k q hq => ?_, fun k q hq => ?_⟩
  · obtain ⟨hk, rfl⟩ := key G k q hq
    exact h k _ (c_at (fw_all G k hk))
  · obtain ⟨hk, rfl⟩ := key (gq G) k q hq
    have := h (117 + k) _ (c_at (fx_all G k hk))
    rw [← Nat.add_assoc] at this
    exact this
theorem s_0_rok : s_rok s_0 := by
  have h : ∀ k, k < 117 → ∀ j, j < s_len k → (s_kd k = 11 → s_kd (s_0.2.2 k j) = 3) ∧ (s_kd k = 12 → s_kd (s_0.2.2 k j) = 1) := by
    have h1 : ∀ k, k < 117 → s_kd k = 11 → ∀ j, j < 6 → s_kd (s_0.2.2 k j) = 3 := by decide +kernel
    have h2 : ∀ k, k < 117 → s_kd k = 12 → ∀ j, j < s_len k → s_kd (s_0.2.2 k j) = 1 := by decide +kernel
    have h3 : ∀ k, k < 117 → s_kd k = 11 → s_len k = 6 := by decide +kernel
    intro k hk j hj
    exact ⟨fun h => h1 k hk h j (by rw [h3 k hk h] at hj; exact hj), fun h => h2 k hk h j hj⟩
  intro k j hj
  by_cases hk : k < 117
  · exact h k hk j hj
  · exfalso
    have : s_len k = 0 := by
      unfold s_len
      rw [List.getD_eq_getElem?_getD, List.getElem?_eq_none (by show 117 ≤ k; omega)]
      rfl
    omega
/-! THE CLAIM OUT OF ONE WALK OF THE LAW'S BODY. Your part is whole_start (and what it stands on); all else here is the same for every law, but numbers. -/
def R_law : String := "PhraseReaderLaw"
def lw_P (b : Addr) (xs : List Int32) (args : Array Value) (s : State) : Prop := args = #[.ref b] ∧ s.IntsAt b xs ∧ xs.length ≤ 260 ∧ (Jvm.Cond.and given_1 narrow_1).before args s = true
def lw_Q (_ : Array Value) (s : State) (o : Outcome) (t : State) : Prop := o = .returned (some (.int 1)) ∧ Framed s o t [] 600000 7302250
def lw_Z (below : List Frame) (a : Array Value) (s : State) : State → Prop := fun t => ∃ o, t.status = .running ∧ Ended t below o ∧ lw_Q a s o t
/-- the law's own end, with 1 on the stack, nothing written that was there before, its room as the claim has it -/
theorem lw_ret {p : Program} {l : Launch} {e : Env} {s : State} {m : MethodId} {below : List Frame} {meth : Method} {c : Code} {b : Nat} (hx : p.tables.exec = Jvm.exec) (hb : c.code = code) (hr : meth.sig.returnType = ret) (hlocks : meth.locks = false) {pc : Nat} {H : Heap} {ls : Array Slot} (hdg : decode code pc = .ok (.ireturn, 1)) : W p l e room_1 s m #[Value.ref b] below meth c H [] 600000 7302250 (lw_Z below #[Value.ref b] s) (F0 m pc ls [.int 1]) := by
  intro T hT X
  obtain ⟨fs, hret, hrun, hended, hW, hframe⟩ := X.leave (v := some (.int 1)) (hlocks := hlocks) (fun h => by rw [hr] at h; cases h)
  have hmeth' : T.vm.method? m = some meth := X.method'
  refine ⟨T.setFrames fs, ?_, .returned (some (.int 1)), hrun, hended, rfl, ⟨_, rfl⟩, hW, hframe⟩
  jvm_step X.here [X.here.top, hx, hb, hdg, hmeth', hr, ret, narrow_b1]
  (try refine ⟨rfl, ?_⟩); (try refine ⟨rfl, ?_⟩)
  first | (intro acts; rw [hret _ acts rfl rfl rfl]) | rw [hret _ _ rfl rfl rfl]
  exact Steps.refl _
/-- what holds at the law's entry: the machine, the code, the tables' words (any of lw_tbl by 'hts w (by decide +kernel)'), the script of L ints xs at the cell b, what the Statement gives of the start (any of its parts by flat_of_before) -/
def lw_At (p : Program) (s : State) (m : MethodId) (meth : Method) (c : Code) (b L : Nat) (xs : Nat → Int32) : Prop :=
  p.tables.exec = Jvm.exec ∧ c.code = code ∧ meth.sig.returnType = ret ∧ c.maxLocals = 7 ∧ s.vm.findClass R_law = some m.cls ∧ (∀ w ∈ lw_tbl, w.before #[Value.ref b] s = true) ∧ va_X b L xs s s.heap ∧ b < s.heap.size ∧ meth.locks = false ∧ (Jvm.Cond.and given_1 narrow_1).before #[Value.ref b] s = true
theorem ls_end {p : Program} {l : Launch} {e : Env} {s : State} {m : MethodId} {below : List Frame} {meth : Method} {c : Code} {b : Nat} (hx : p.tables.exec = Jvm.exec) (hb : c.code = code) (hr : meth.sig.returnType = ret) (hlocks : meth.locks = false) {G : s_G} (hG : G.2.2 = s.heap.size) {cells slots : Nat} (hc : cells ≤ 600000) (hs : slots ≤ 7302250) {r : Int32} {σ : Sg2} {H : Heap} {locs : List Loc} {pc : Nat} {ls : Array Slot} (hdg : decode code pc = .ok (.ireturn, 1)) (hp : r = 1) (S : t_St G σ s.heap H locs) : W p l e room_1 s m #[Value.ref b] below meth c H locs cells slots (lw_Z below #[Value.ref b] s) (F0 m pc ls [.int r]) := by
  subst hp
  refine va_forget (fun q hq => by have h1 := S.2.2.2.2 q hq; rw [hG] at h1; exact h1) ?_
  refine W.widen (k := 600000) (n := 7302250) hc hs ?_
  exact lw_ret hx hb hr hlocks hdg
set_option maxHeartbeats 8000000 in
set_option maxRecDepth 100000 in
theorem law_start {p : Program} {e : Env} {s : State} {m : MethodId} {below : List Frame} {meth : Method} {c : Code} (l : Launch) {b L : Nat} {xs : Nat → Int32} (C0 : lw_At p s m meth c b L xs) (hpure : ∃ nf, BL_law_18 L xs (fun r _ => r = 1) nf 0 (s_0, s_0)) : W p l e room_1 s m #[Value.ref b] below meth c s.heap [] 0 0 (lw_Z below #[Value.ref b] s) (entryFrame m ([Value.ref b] : List Value).toArray 7) := by
  obtain ⟨hx, hb, hr, hml, hown, hts, hX, hbl, hlocks, hgv⟩ := id C0
  obtain ⟨c0, iS0, hKn0⟩ := u_known (C := RX0) (T := TX0) (N := 2) (n := 2) hts (fun w hw => wL_in w (inlX0 w hw)) (hts _ (wL_in _ ia_X0))
  obtain ⟨c1, iS1, hKn1⟩ := u_known (C := RX1) (T := TX1) (N := 4) (n := 4) hts (fun w hw => wL_in w (inlX1 w hw)) (hts _ (wL_in _ ia_X1))
  obtain ⟨c2, iS2, hKn2⟩ := u_known (C := RX2) (T := TX2) (N := 2) (n := 2) hts (fun w hw => wL_in w (inlX2 w hw)) (hts _ (wL_in _ ia_X2))
  obtain ⟨c3, iS3, hKn3⟩ := u_known (C := RX3) (T := TX3) (N := 6) (n := 6) hts (fun w hw => wL_in w (inlX3 w hw)) (hts _ (wL_in _ ia_X3))
  obtain ⟨c4, iS4, hKn4⟩ := u_known (C := RX4) (T := TX4) (N := 2) (n := 2) hts (fun w hw => wL_in w (inlX4 w hw)) (hts _ (wL_in _ ia_X4))
  obtain ⟨c5, iS5, hKn5⟩ := u_known (C := RX5) (T := TX5) (N := 8) (n := 8) hts (fun w hw => wL_in w (inlX5 w hw)) (hts _ (wL_in _ ia_X5))
  obtain ⟨c6, iS6, hKn6⟩ := u_known (C := RX6) (T := TX6) (N := 8) (n := 8) hts (fun w hw => wL_in w (inlX6 w hw)) (hts _ (wL_in _ ia_X6))
  obtain ⟨dC, dI, hKc⟩ : ∃ (dC : Nat → ClassId) (dI : Nat → Nat → Nat), ∀ (k : Nat) (q : vw_C), vwCl[k]? = some q → u_Kn s q.1 q.2.1 q.2.2 (dC k) (dI k) := by
    refine ⟨fun k => [c0, c1, c2, c3, c4, c5, c6].getD k 0, fun k => [iS0, iS1, iS2, iS3, iS4, iS5, iS6].getD k (fun _ => 0), ?_⟩
    intro k q hq
    match k, hq with
    | 0, hq => cases hq; exact hKn0
    | 1, hq => cases hq; exact hKn1
    | 2, hq => cases hq; exact hKn2
    | 3, hq => cases hq; exact hKn3
    | 4, hq => cases hq; exact hKn4
    | 5, hq => cases hq; exact hKn5
    | 6, hq => cases hq; exact hKn6
    | k + 7, hq => simp [vwCl] at hq
  obtain ⟨cI, kI, compI, i1, i2, i3⟩ := Cond.arrayClass_spec (hts _ (wL_in _ ac_I))
  obtain ⟨cJ, kJ, compJ, j1, j2, j3⟩ := Cond.arrayClass_spec (hts _ (wL_in _ ac_J))
  obtain ⟨cZ, kZ, compZ, z1, z2, z3⟩ := Cond.arrayClass_spec (hts _ (wL_in _ ac_Z))
  have aoM : (Cond.arrayOver (.object "PhraseReader$Member")).before #[Value.ref b] s = true := hts _ (tb_1 _ (List.mem_of_getElem? (i := 41) rfl))
  obtain ⟨compM, cM, kM, M1, -, M2, M3, M4⟩ := Cond.arrayOver_spec aoM
  have aoD : (Cond.arrayOver (.object "PhraseReader$Declarations")).before #[Value.ref b] s = true := hts _ (tb_1 _ (List.mem_of_getElem? (i := 100) rfl))
  obtain ⟨compD, cD, kD, D1, -, D2, D3, D4⟩ := Cond.arrayOver_spec aoD
  let G : s_G := ((dC, dI), (fun k => if k = 8 then cI else if k = 9 then cJ else if k = 10 then cZ else if k = 11 then cM else cD), s.heap.size)
  have hG : G.2.2 = s.heap.size := rfl
  have hK : va_K G.1 vwCl (s_tys G) s := by
    refine ⟨hKc, fun k q h => ?_⟩
    match k, h with
    | 0, h => cases h; exact ⟨fun n z => ⟨(fun k h => by cases h), kI, i2, compI, i3⟩, i1⟩
    | 1, h => cases h; exact ⟨fun n z => ⟨(fun k h => by cases h), kJ, j2, compJ, j3⟩, j1⟩
    | 2, h => cases h; exact ⟨fun n z => ⟨(fun k h => by cases h), kZ, z2, compZ, z3⟩, z1⟩
    | 3, h => cases h; exact ⟨fun n z => ⟨(fun k h => by cases h), kM, M2, compM, M3⟩, kM, compM, M2, M3, M1, M4⟩
    | 4, h => cases h; exact ⟨fun n z => ⟨(fun k h => by cases h), kD, D2, compD, D3⟩, kD, compD, D2, D3, D1, D4⟩
    | k + 5, h => simp [s_tys] at h
  have hN : nestOK s := fun w hw => va_Nw.of (nest_on (nest_is w hw)) (hts w (List.mem_append_right _ (nestW_in w hw)))
  have hao : c_AO s := ⟨aoM, aoD⟩
  have C : s_C G p s #[Value.ref b] m c RL cL_law := ⟨hx, hb, hown, fun w hw => hts w (wL_in w hw), hK, hN⟩
  clear_value G
  have S : c_St G [] s.heap s.heap [] := ⟨fun k q h => by rw [c_get?] at h; simp at h, va_S.rf, by rw [hG]; rfl⟩
  have hl := lv_entry ([.ref b]) (n := 7) (Nat.le_of_ble_eq_true rfl)
  rw [lg_entry_eq]
  generalize (lg_sl ([.ref b]) ++ List.replicate (7 - (lg_sl ([.ref b])).length) Slot.unset).toArray = ls at hl ⊢
  have hl : lv_has ls 7 [(0, .ref b)] := hl
  refine n_new (ci := 6) (C := RX6) (T := TX6) (N := 8) (fs := [.null, .null, .null, .null, .null, .null, .null, .null]) C inlX6 tyX6_ok kl_L_10 ia_X6 in_X6 rfl (fun j hj => by rcases (show j = 0 ∨ j = 1 ∨ j = 2 ∨ j = 3 ∨ j = 4 ∨ j = 5 ∨ j = 6 ∨ j = 7 by omega) with rfl | rfl | rfl | rfl | rfl | rfl | rfl | rfl <;> rfl) S (Nat.le_of_ble_eq_true rfl) (Nat.le_of_ble_eq_true rfl) dL_law_0 (fun H S => ?_)
  have S : c_St G W_a s.heap H [] := S
  refine W.widen (k := 1) (n := 8) (Nat.le_of_ble_eq_true rfl) (Nat.le_of_ble_eq_true rfl) ?_
  refine W.eq (g2 := F0 m 3 ls [.ref (G.2.2 + 0)]) rfl ?_
  refine lv_dup C.1 C.2.1 dL_law_3 rfl ?_
  refine d_call (k := 0) (rest := [.ref (G.2.2 + 0)]) (mc := 116) (ms := 17158) C hml hao (c_X6_init l G W_a 0 1 rfl rfl) kM_X6_init im_X6_init rfl (Or.inr ml_L_97) ⟨rfl, rfl⟩ ⟨(Nat.le_of_ble_eq_true rfl), (Nat.le_of_ble_eq_true rfl)⟩ ⟨(Nat.le_of_ble_eq_true rfl), (Nat.le_of_ble_eq_true rfl)⟩ S hl.1 (Nat.le_of_ble_eq_true rfl) dL_law_4 (fun H locs S => ?_)
  have S : c_St G (W_b G) s.heap H locs := S
  refine W.widen (k := 117) (n := 17166) (Nat.le_of_ble_eq_true rfl) (Nat.le_of_ble_eq_true rfl) ?_
  refine lv_astore_n (lv' := [(1, .ref (G.2.2 + 0)), (0, .ref b)]) C.1 C.2.1 dL_law_7 rfl hl (by decide) rfl (fun ls hl => ?_)
  refine n_new (ci := 6) (C := RX6) (T := TX6) (N := 8) (fs := [.null, .null, .null, .null, .null, .null, .null, .null]) C inlX6 tyX6_ok kl_L_10 ia_X6 in_X6 rfl (fun j hj => by rcases (show j = 0 ∨ j = 1 ∨ j = 2 ∨ j = 3 ∨ j = 4 ∨ j = 5 ∨ j = 6 ∨ j = 7 by omega) with rfl | rfl | rfl | rfl | rfl | rfl | rfl | rfl <;> rfl) S (Nat.le_of_ble_eq_true rfl) (Nat.le_of_ble_eq_true rfl) dL_law_8 (fun H S => ?_)
  have S : c_St G (W_c G) s.heap H locs := S
  refine W.widen (k := 118) (n := 17174) (Nat.le_of_ble_eq_true rfl) (Nat.le_of_ble_eq_true rfl) ?_
  rw [W_b_len]
  refine lv_dup C.1 C.2.1 dL_law_11 rfl ?_
  refine d_call (k := 117) (rest := [.ref (G.2.2 + 117)]) (mc := 116) (ms := 17158) C hml hao (c_X6_init l G (W_c G) 117 118 (W_c_len G) rfl) kM_X6_init im_X6_init rfl (Or.inr ml_L_97) ⟨rfl, rfl⟩ ⟨(Nat.le_of_ble_eq_true rfl), (Nat.le_of_ble_eq_true rfl)⟩ ⟨(Nat.le_of_ble_eq_true rfl), (Nat.le_of_ble_eq_true rfl)⟩ S hl.1 (Nat.le_of_ble_eq_true rfl) dL_law_12 (fun H locs S => ?_)
  have S : c_St G (W_d G) s.heap H locs := S
  refine W.widen (k := 234) (n := 34332) (Nat.le_of_ble_eq_true rfl) (Nat.le_of_ble_eq_true rfl) ?_
  refine lv_astore_n (lv' := [(2, .ref (G.2.2 + 117)), (1, .ref (G.2.2 + 0)), (0, .ref b)]) C.1 C.2.1 dL_law_15 rfl hl (by decide) rfl (fun ls hl => ?_)
  refine lv_iconst (v := (0 : Int32)) C.1 C.2.1 dL_law_16 (by decide) ?_
  refine lv_istore_n (lv' := [(3, .int 0), (2, .ref (G.2.2 + 117)), (1, .ref (G.2.2 + 0)), (0, .ref b)]) C.1 C.2.1 dL_law_17 rfl hl (by decide) rfl (fun ls hl => ?_)
  have hw := fw G S.1
  have S1 : t_St G (s_0, s_0) s.heap H locs := ⟨⟨hw.1, s_0_rok⟩, ⟨hw.2, s_0_rok⟩, S.2.1⟩
  obtain ⟨nf, hpure⟩ := hpure
  exact TL_law_18 (H0 := s.heap) (cells := 234) (slots := 34332) (G := G) C hml ⟨(Nat.le_of_ble_eq_true rfl), (Nat.le_of_ble_eq_true rfl)⟩ hX hbl (by show ¬ G.2.2 ≤ b; rw [hG]; omega) (fun r σ1 H locs pc ls hd _ hp S => ls_end hx hb hr hlocks hG (Nat.le_of_ble_eq_true rfl) (Nat.le_of_ble_eq_true rfl) hd hp S) nf 0 S1 (lv_sub hl [3, 2, 1, 0] rfl) hpure
