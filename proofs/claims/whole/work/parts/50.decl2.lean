/-! declare, continued -/
def decL (a tx : Nat → Nat) (n m : Nat) : Nat → Nat → Nat
  | 0 => a
  | k + 1 => putA (decL a tx n m k) (2 + 3 * m + k) (tN tx n k)
def decA (a tx : Nat → Nat) (n m ki le mo : Nat) : Nat → Nat := putA (putA (putA (putA (putA (putA (decL a tx n m 3) (20 + m) ki) (26 + m) le) (32 + m) mo) (38 + m) 0) (44 + m) 0) 0 (m + 1)
theorem dec_eq (a tx : Nat → Nat) (n m ki le mo k : Nat) : decA a tx n m ki le mo k = if k = 0 then m + 1 else if k = 44 + m then 0 else if k = 38 + m then 0 else if k = 32 + m then mo else if k = 26 + m then le else if k = 20 + m then ki else if k = 2 + 3 * m + 2 then tN tx n 2 else if k = 2 + 3 * m + 1 then tN tx n 1 else if k = 2 + 3 * m + 0 then tN tx n 0 else a k := rfl
theorem tN_le {tx : Nat → Nat} {n : Nat} (hT : wfT tx n) (k : Nat) : tN tx n k ≤ 126 := by
  have := hT.2 k
  unfold tN; split <;> omega
section
variable {a tx : Nat → Nat} {n m ki le mo : Nat}
theorem dec_0 : decA a tx n m ki le mo 0 = m + 1 := by rw [dec_eq, if_pos rfl]
theorem dec_n {k : Nat} (h0 : k ≠ 0) (h1 : k ≠ 44 + m) (h2 : k ≠ 38 + m) (h3 : k ≠ 32 + m) (h4 : k ≠ 26 + m) (h5 : k ≠ 20 + m) (h6 : k < 2 + 3 * m ∨ 4 + 3 * m < k) : decA a tx n m ki le mo k = a k := by
  rw [dec_eq, if_neg h0, if_neg h1, if_neg h2, if_neg h3, if_neg h4, if_neg h5, if_neg (by omega), if_neg (by omega), if_neg (by omega)]
theorem dec_k (hm : m < 6) : decA a tx n m ki le mo (20 + m) = ki := by
  rw [dec_eq, if_neg (by omega), if_neg (by omega), if_neg (by omega), if_neg (by omega), if_neg (by omega), if_pos rfl]
theorem dec_l (hm : m < 6) : decA a tx n m ki le mo (26 + m) = le := by
  rw [dec_eq, if_neg (by omega), if_neg (by omega), if_neg (by omega), if_neg (by omega), if_pos rfl]
theorem dec_m (hm : m < 6) : decA a tx n m ki le mo (32 + m) = mo := by
  rw [dec_eq, if_neg (by omega), if_neg (by omega), if_neg (by omega), if_pos rfl]
theorem dec_d (hm : m < 6) : decA a tx n m ki le mo (38 + m) = 0 := by
  rw [dec_eq, if_neg (by omega), if_neg (by omega), if_pos rfl]
theorem dec_b (hm : m < 6) : decA a tx n m ki le mo (44 + m) = 0 := by
  rw [dec_eq, if_neg (by omega), if_pos rfl]
theorem dec_w0 (hm : m < 6) : decA a tx n m ki le mo (2 + 3 * m) = tN tx n 0 := by
  rw [dec_eq, if_neg (by omega), if_neg (by omega), if_neg (by omega), if_neg (by omega), if_neg (by omega), if_neg (by omega), if_neg (by omega), if_neg (by omega), if_pos (by omega)]
theorem dec_w1 (hm : m < 6) : decA a tx n m ki le mo (3 + 3 * m) = tN tx n 1 := by
  rw [dec_eq, if_neg (by omega), if_neg (by omega), if_neg (by omega), if_neg (by omega), if_neg (by omega), if_neg (by omega), if_neg (by omega), if_pos (by omega)]
theorem dec_w2 (hm : m < 6) : decA a tx n m ki le mo (4 + 3 * m) = tN tx n 2 := by
  rw [dec_eq, if_neg (by omega), if_neg (by omega), if_neg (by omega), if_neg (by omega), if_neg (by omega), if_neg (by omega), if_pos (by omega)]
theorem dec_wf (ha : wfA a) (hT : wfT tx n) (hm : m = a 0) (h6 : m < 6) (hw : isW tx n) (hk : ki ≤ 2) (hl : le ≤ mo) (hm1 : 1 ≤ mo) (hm3 : mo ≤ 3) : wfA (decA a tx n m ki le mo) := by
  refine ⟨by rw [dec_0]; omega, by rw [dec_n (by omega) (by omega) (by omega) (by omega) (by omega) (by omega) (by omega)]; exact ha.2.1, fun k => ?_, fun x hx => ?_⟩
  · have h1 := ha.2.2.1 k
    have t0 := tN_le hT 0; have t1 := tN_le hT 1; have t2 := tN_le hT 2
    rw [dec_eq]
    repeat' split
    all_goals omega
  · rw [dec_0] at hx ⊢
    have hp : 2 ^ (m + 1) = 2 * 2 ^ m := Nat.pow_succ' 
    have hpp : 0 < 2 ^ m := Nat.pow_pos (by decide)
    by_cases z : x = m
    · rw [z, dec_w0 h6, dec_w1 h6, dec_w2 h6, dec_k h6, dec_l h6, dec_m h6, dec_b h6]
      obtain ⟨n1, n3, ht⟩ := hw
      refine ⟨?_, ?_, hk, hl, hm1, hm3, by omega⟩
      · rw [show tN tx n 0 = tx 0 from if_pos n1]; exact ht 0 n1
      · rcases (show n = 1 ∨ n = 2 ∨ n = 3 by omega) with rfl | rfl | rfl
        · exact Or.inl ⟨rfl, rfl⟩
        · exact Or.inr ⟨ht 1 (by decide), Or.inl rfl⟩
        · exact Or.inr ⟨ht 1 (by decide), Or.inr (ht 2 (by decide))⟩
    · rw [dec_n (k := 2 + 3 * x) (by omega) (by omega) (by omega) (by omega) (by omega) (by omega) (by omega), dec_n (k := 3 + 3 * x) (by omega) (by omega) (by omega) (by omega) (by omega) (by omega) (by omega), dec_n (k := 4 + 3 * x) (by omega) (by omega) (by omega) (by omega) (by omega) (by omega) (by omega), dec_n (k := 20 + x) (by omega) (by omega) (by omega) (by omega) (by omega) (by omega) (by omega), dec_n (k := 26 + x) (by omega) (by omega) (by omega) (by omega) (by omega) (by omega) (by omega), dec_n (k := 32 + x) (by omega) (by omega) (by omega) (by omega) (by omega) (by omega) (by omega), dec_n (k := 44 + x) (by omega) (by omega) (by omega) (by omega) (by omega) (by omega) (by omega)]
      obtain ⟨w1, w2, w3, w4, w5, w6, w7⟩ := ha.2.2.2 x (by omega)
      rw [← hm] at w7
      exact ⟨w1, w2, w3, w4, w5, w6, by omega⟩
end
def okD (ki le mo : Nat) : Prop := ki ≤ 2 ∧ le ≤ mo ∧ 1 ≤ mo ∧ mo ≤ 3
theorem v_declR {σ : Sg} (x y z : Int32) {post : Int32 → Sg → Prop} (h1 : ∀ ki le mo, x = nI ki → y = nI le → z = nI mo → okD ki le mo → BX6_declare_31 x y z post 1 σ) (h0 : (∀ ki le mo, x = nI ki → y = nI le → z = nI mo → ¬ okD ki le mo) → post (-1) σ) : wpX6_declare x y z σ post := by
  have hbad : (∀ ki le mo, x = nI ki → y = nI le → z = nI mo → ¬ okD ki le mo) → BX6_declare_31 x y z post 0 σ := fun hh => ⟨fun w => absurd rfl w, fun _ => h0 hh⟩
  have hrest : ∀ ki, ki ≤ 2 → x = nI ki → (((y < 0) → BX6_declare_31 x y z post ((0 : Int32)) σ) ∧ ((¬ y < 0) → (((z < (1 : Int32)) → BX6_declare_31 x y z post ((0 : Int32)) σ) ∧ ((¬ z < (1 : Int32)) → ((((3 : Int32) < z) → BX6_declare_31 x y z post ((0 : Int32)) σ) ∧ ((¬ (3 : Int32) < z) → (((z < y) → BX6_declare_31 x y z post ((0 : Int32)) σ) ∧ ((¬ z < y) → BX6_declare_31 x y z post ((1 : Int32)) σ)))))))) := by
    intro ki hki hx
    refine ⟨fun c => hbad (fun ki' le mo e1 e2 e3 ho => ?_), fun c => ⟨fun c2 => hbad (fun ki' le mo e1 e2 e3 ho => ?_), fun c2 => ⟨fun c3 => hbad (fun ki' le mo e1 e2 e3 ho => ?_), fun c3 => ⟨fun c4 => hbad (fun ki' le mo e1 e2 e3 ho => ?_), fun c4 => ?_⟩⟩⟩⟩
    · unfold okD at ho
      rw [e2] at c; exact absurd c (nI_pos (by omega))
    · unfold okD at ho
      rw [e3] at c2; exact absurd c2 (nI_nlt (a := mo) (b := 1) (by omega) (by omega))
    · unfold okD at ho
      rw [e3] at c3; exact absurd c3 (nI_nlt (a := 3) (b := mo) (by omega) (by decide))
    · unfold okD at ho
      rw [e3, e2] at c4; exact absurd c4 (nI_nlt (by omega) (by omega))
    · have c0 : ¬ z < 0 := by
        intro w
        apply c2
        rw [Int32.lt_iff_toInt_lt] at w ⊢
        have e0 : (0 : Int32).toInt = 0 := by decide
        have e1 : (1 : Int32).toInt = 1 := by decide
        omega
      obtain ⟨le, hle, ey⟩ := nI_of c
      obtain ⟨mo, hmo, ez⟩ := nI_of c0
      have g1 : 1 ≤ mo := by
        rcases Nat.lt_or_ge mo 1 with q | q
        · exact absurd (by rw [ez]; exact nI_lt (a := mo) (b := 1) q (by decide)) c2
        · exact q
      have g2 : mo ≤ 3 := by
        rcases Nat.lt_or_ge 3 mo with q | q
        · exact absurd (by rw [ez]; exact nI_lt (a := 3) (b := mo) q hmo) c3
        · exact q
      have g3 : le ≤ mo := by
        rcases Nat.lt_or_ge mo le with q | q
        · exact absurd (by rw [ez, ey]; exact nI_lt q hle) c4
        · exact q
      exact h1 ki le mo hx ey ez ⟨hki, g3, g1, g2⟩
  unfold wpX6_declare wpX6_isKind
  refine ⟨fun e => ⟨fun w => absurd w (by decide), fun _ => hrest 0 (by decide) e⟩, fun e0 => ⟨fun e => ⟨fun w => absurd w (by decide), fun _ => hrest 1 (by decide) e⟩, fun e1 => ⟨fun e2 => ⟨fun _ => hbad (fun ki le mo ex _ _ ho => ?_), fun w => absurd rfl w⟩, fun e => ⟨fun w => absurd w (by decide), fun _ => hrest 2 (by decide) e⟩⟩⟩⟩
  have hk := ho.1
  rcases (show ki = 0 ∨ ki = 1 ∨ ki = 2 by omega) with rfl | rfl | rfl
  · exact e0 ex
  · exact e1 ex
  · exact e2 ex
