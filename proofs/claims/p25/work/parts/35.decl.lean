/-! declare -/
def isW (tx : Nat → Nat) (n : Nat) : Prop := 1 ≤ n ∧ n ≤ 3 ∧ ∀ k, k < n → 97 ≤ tx k ∧ tx k ≤ 122
def tN (tx : Nat → Nat) (n k : Nat) : Nat := if k < n then tx k else 0
def wdT (tx : Nat → Nat) (n : Nat) : Nat := tN tx n 0 + 256 * tN tx n 1 + 65536 * tN tx n 2
def wdP (tx : Nat → Nat) (i : Nat) : Nat := (if 0 < i then tx 0 else 0) + 256 * (if 1 < i then tx 1 else 0) + 65536 * (if 2 < i then tx 2 else 0)
theorem cI_in {tx : Nat → Nat} {n i : Nat} (h : i < n) : cI tx n i = nI (tx i) := if_pos h
theorem c_shl8 {v i : Nat} (hv : v < 256) (hi : i < 3) : nI v <<< (((8 : Int32) * nI i) &&& 31) = nI (v * 2 ^ (8 * i)) := by
  rw [c_mul8]
  refine pk_shlN _ (8 * i) (c_sh1 (8 * i) (by omega)) ?_
  have : 2 ^ (8 * i) ≤ 2 ^ 16 := Nat.pow_le_pow_right (by decide) (by omega)
  have : v * 2 ^ (8 * i) ≤ 255 * 2 ^ 16 := Nat.mul_le_mul (by omega) this
  omega
theorem v_asWord {σ : Sg} {tx : Nat → Nat} {n : Nat} (hT : wfT tx n) (hR : repT σ 1 tx n) {post : Int32 → Sg → Prop} (h1 : isW tx n → post (nI (wdT tx n)) σ) (h0 : ¬ isW tx n → post 0 σ) : wpX0_asWord 1 σ post := by
  have hn := hT.1
  unfold wpX0_asWord
  rw [hR.1]
  refine pk_le n 3 (fun c3 => ?_) (fun c3 => h0 (fun w => by have := w.2.1; omega))
  have key : ∀ r i, i + r = n → (∀ k, k < i → 97 ≤ tx k ∧ tx k ≤ 122) → BX0_asWord_14 1 post (r + 1) (nI (wdP tx i)) (nI i) σ := by
    intro r
    induction r with
    | zero =>
      intro i hi hl
      rw [BX0_asWord_14, hR.1]
      refine pk_le n i (fun _ => ?_) (fun c => by omega)
      have e : i = n := by omega
      subst e
      by_cases z : i = 0
      · have h := h0 (fun w => by have := w.1; omega)
        rw [z]; exact h
      · exact h1 ⟨by omega, c3, hl⟩
    | succ r ih =>
      intro i hi hl
      rw [BX0_asWord_14, hR.1]
      refine pk_le n i (fun c => by omega) (fun c => v_at f10 hn hR (by omega) (v_isSmallLetter hT ?_))
      have htl := hT.2 i
      refine bI_n _ (fun e => h0 (fun w => ?_)) (fun e => v_at f10 hn hR (by omega) ?_)
      · have := w.2.2 i c
        unfold ltB at e
        rw [decide_eq_true c, decide_eq_true this.1, decide_eq_true this.2] at e
        cases e
      · unfold ltB at e
        simp only [Bool.and_eq_true, decide_eq_true_eq] at e
        rw [cI_in c, c_shl8 (by omega) (by omega), c_or, nI_1]
        have hor : wdP tx i ||| tx i * 2 ^ (8 * i) = wdP tx (i + 1) := by
          rw [Nat.or_comm, Nat.mul_comm]
          have hlt : wdP tx i < 2 ^ (8 * i) := by
            unfold wdP
            rcases (show i = 0 ∨ i = 1 ∨ i = 2 by omega) with rfl | rfl | rfl
            · simp
            · have := hT.2 0
              simp; omega
            · have := hT.2 0
              have := hT.2 1
              simp; omega
          rw [← Nat.two_pow_add_eq_or_of_lt hlt]
          unfold wdP
          rcases (show i = 0 ∨ i = 1 ∨ i = 2 by omega) with rfl | rfl | rfl
          · simp
          · simp; omega
          · simp; omega
        rw [hor]
        refine ih (i + 1) (by omega) (fun k hk => ?_)
        by_cases z : k = i
        · rw [z]; exact e.2
        · exact hl k (by omega)
  exact ⟨_, key n 0 (by omega) (fun k hk => absurd hk (Nat.not_lt_zero k))⟩
theorem wdT_lt {tx : Nat → Nat} {n : Nat} (hT : wfT tx n) : wdT tx n < 2 ^ 31 := by
  have h0 := hT.2 0; have h1 := hT.2 1; have h2 := hT.2 2
  have e : ∀ k, tN tx n k ≤ tx k := fun k => by unfold tN; split <;> omega
  have := e 0; have := e 1; have := e 2
  unfold wdT; omega
theorem wdT_pos {tx : Nat → Nat} {n : Nat} (h : isW tx n) : 0 < wdT tx n := by
  have := h.2.2 0 h.1
  unfold wdT
  rw [show tN tx n 0 = tx 0 from if_pos h.1]; omega
/-! declare, continued -/
def decL (a tx : Nat → Nat) (n m : Nat) : Nat → Nat → Nat
  | 0 => a
  | k + 1 => putA (decL a tx n m k) (2 + 3 * m + k) (tN tx n k)
def decA (a tx : Nat → Nat) (n m ki le mo : Nat) : Nat → Nat := putA (putA (putA (putA (putA (putA (decL a tx n m 3) (20 + m) ki) (26 + m) le) (32 + m) mo) (38 + m) 0) (44 + m) 0) 0 (m + 1)
theorem dec_eq (a tx : Nat → Nat) (n m ki le mo k : Nat) : decA a tx n m ki le mo k = if k = 0 then m + 1 else if k = 44 + m then 0 else if k = 38 + m then 0 else if k = 32 + m then mo else if k = 26 + m then le else if k = 20 + m then ki else if k = 2 + 3 * m + 2 then tN tx n 2 else if k = 2 + 3 * m + 1 then tN tx n 1 else if k = 2 + 3 * m + 0 then tN tx n 0 else a k := rfl
theorem tN_le {tx : Nat → Nat} {n : Nat} (hT : wfT tx n) (k : Nat) : tN tx n k ≤ 126 := by
  have := hT.2 k
  unfold tN; split <;> omega
section
variable {a tx : Nat → Nat} {n m ki le mo : Nat}
theorem dec_0 : decA a tx n m ki le mo 0 = m + 1 := by rw [dec_eq, if_pos rfl]
theorem dec_n {k : Nat} (h0 : k ≠ 0) (h1 : k ≠ 44 + m) (h2 : k ≠ 38 + m) (h3 : k ≠ 32 + m) (h4 : k ≠ 26 + m) (h5 : k ≠ 20 + m) (h6 : k < 2 + 3 * m ∨ 4 + 3 * m < k) : decA a tx n m ki le mo k = a k := by
  rw [dec_eq, if_neg h0, if_neg h1, if_neg h2, if_neg h3, if_neg h4, if_neg h5, if_neg (by omega), if_neg (by omega), if_neg (by omega)]
theorem dec_k (hm : m < 6) : decA a tx n m ki le mo (20 + m) = ki := by
  rw [dec_eq, if_neg (by omega), if_neg (by omega), if_neg (by omega), if_neg (by omega), if_neg (by omega), if_pos rfl]
theorem dec_l (hm : m < 6) : decA a tx n m ki le mo (26 + m) = le := by
  rw [dec_eq, if_neg (by omega), if_neg (by omega), if_neg (by omega), if_neg (by omega), if_pos rfl]
theorem dec_m (hm : m < 6) : decA a tx n m ki le mo (32 + m) = mo := by
  rw [dec_eq, if_neg (by omega), if_neg (by omega), if_neg (by omega), if_pos rfl]
theorem dec_d (hm : m < 6) : decA a tx n m ki le mo (38 + m) = 0 := by
  rw [dec_eq, if_neg (by omega), if_neg (by omega), if_pos rfl]
theorem dec_b (hm : m < 6) : decA a tx n m ki le mo (44 + m) = 0 := by
  rw [dec_eq, if_neg (by omega), if_pos rfl]
theorem dec_w0 (hm : m < 6) : decA a tx n m ki le mo (2 + 3 * m) = tN tx n 0 := by
  rw [dec_eq, if_neg (by omega), if_neg (by omega), if_neg (by omega), if_neg (by omega), if_neg (by omega), if_neg (by omega), if_neg (by omega), if_neg (by omega), if_pos (by omega)]
theorem dec_w1 (hm : m < 6) : decA a tx n m ki le mo (3 + 3 * m) = tN tx n 1 := by
  rw [dec_eq, if_neg (by omega), if_neg (by omega), if_neg (by omega), if_neg (by omega), if_neg (by omega), if_neg (by omega), if_neg (by omega), if_pos (by omega)]
theorem dec_w2 (hm : m < 6) : decA a tx n m ki le mo (4 + 3 * m) = tN tx n 2 := by
  rw [dec_eq, if_neg (by omega), if_neg (by omega), if_neg (by omega), if_neg (by omega), if_neg (by omega), if_neg (by omega), if_pos (by omega)]
theorem dec_wf (ha : wfA a) (hT : wfT tx n) (hm : m = a 0) (h6 : m < 6) (hw : isW tx n) (hk : ki ≤ 2) (hl : le ≤ mo) (hm1 : 1 ≤ mo) (hm3 : mo ≤ 3) : wfA (decA a tx n m ki le mo) := by
  refine ⟨by rw [dec_0]; omega, by rw [dec_n (by omega) (by omega) (by omega) (by omega) (by omega) (by omega) (by omega)]; exact ha.2.1, fun k => ?_, fun x hx => ?_⟩
  · have h1 := ha.2.2.1 k
    have t0 := tN_le hT 0; have t1 := tN_le hT 1; have t2 := tN_le hT 2
    rw [dec_eq]
    repeat' split
    all_goals omega
  · rw [dec_0] at hx ⊢
    have hp : 2 ^ (m + 1) = 2 * 2 ^ m := Nat.pow_succ' 
    have hpp : 0 < 2 ^ m := Nat.pow_pos (by decide)
    by_cases z : x = m
    · rw [z, dec_w0 h6, dec_w1 h6, dec_w2 h6, dec_k h6, dec_l h6, dec_m h6, dec_b h6]
      obtain ⟨n1, n3, ht⟩ := hw
      refine ⟨?_, ?_, hk, hl, hm1, hm3, by omega⟩
      · rw [show tN tx n 0 = tx 0 from if_pos n1]; exact ht 0 n1
      · rcases (show n = 1 ∨ n = 2 ∨ n = 3 by omega) with rfl | rfl | rfl
        · exact Or.inl ⟨rfl, rfl⟩
        · exact Or.inr ⟨ht 1 (by decide), Or.inl rfl⟩
        · exact Or.inr ⟨ht 1 (by decide), Or.inr (ht 2 (by decide))⟩
    · rw [dec_n (k := 2 + 3 * x) (by omega) (by omega) (by omega) (by omega) (by omega) (by omega) (by omega), dec_n (k := 3 + 3 * x) (by omega) (by omega) (by omega) (by omega) (by omega) (by omega) (by omega), dec_n (k := 4 + 3 * x) (by omega) (by omega) (by omega) (by omega) (by omega) (by omega) (by omega), dec_n (k := 20 + x) (by omega) (by omega) (by omega) (by omega) (by omega) (by omega) (by omega), dec_n (k := 26 + x) (by omega) (by omega) (by omega) (by omega) (by omega) (by omega) (by omega), dec_n (k := 32 + x) (by omega) (by omega) (by omega) (by omega) (by omega) (by omega) (by omega), dec_n (k := 44 + x) (by omega) (by omega) (by omega) (by omega) (by omega) (by omega) (by omega)]
      obtain ⟨w1, w2, w3, w4, w5, w6, w7⟩ := ha.2.2.2 x (by omega)
      rw [← hm] at w7
      exact ⟨w1, w2, w3, w4, w5, w6, by omega⟩
end
def okD (ki le mo : Nat) : Prop := ki ≤ 2 ∧ le ≤ mo ∧ 1 ≤ mo ∧ mo ≤ 3
theorem v_declR {σ : Sg} (x y z : Int32) {post : Int32 → Sg → Prop} (h1 : ∀ ki le mo, x = nI ki → y = nI le → z = nI mo → okD ki le mo → BX6_declare_31 x y z post 1 σ) (h0 : (∀ ki le mo, x = nI ki → y = nI le → z = nI mo → ¬ okD ki le mo) → post (-1) σ) : wpX6_declare x y z σ post := by
  have hbad : (∀ ki le mo, x = nI ki → y = nI le → z = nI mo → ¬ okD ki le mo) → BX6_declare_31 x y z post 0 σ := fun hh => ⟨fun w => absurd rfl w, fun _ => h0 hh⟩
  have hrest : ∀ ki, ki ≤ 2 → x = nI ki → (((y < 0) → BX6_declare_31 x y z post ((0 : Int32)) σ) ∧ ((¬ y < 0) → (((z < (1 : Int32)) → BX6_declare_31 x y z post ((0 : Int32)) σ) ∧ ((¬ z < (1 : Int32)) → ((((3 : Int32) < z) → BX6_declare_31 x y z post ((0 : Int32)) σ) ∧ ((¬ (3 : Int32) < z) → (((z < y) → BX6_declare_31 x y z post ((0 : Int32)) σ) ∧ ((¬ z < y) → BX6_declare_31 x y z post ((1 : Int32)) σ)))))))) := by
    intro ki hki hx
    refine ⟨fun c => hbad (fun ki' le mo e1 e2 e3 ho => ?_), fun c => ⟨fun c2 => hbad (fun ki' le mo e1 e2 e3 ho => ?_), fun c2 => ⟨fun c3 => hbad (fun ki' le mo e1 e2 e3 ho => ?_), fun c3 => ⟨fun c4 => hbad (fun ki' le mo e1 e2 e3 ho => ?_), fun c4 => ?_⟩⟩⟩⟩
    · unfold okD at ho
      rw [e2] at c; exact absurd c (nI_pos (by omega))
    · unfold okD at ho
      rw [e3] at c2; exact absurd c2 (nI_nlt (a := mo) (b := 1) (by omega) (by omega))
    · unfold okD at ho
      rw [e3] at c3; exact absurd c3 (nI_nlt (a := 3) (b := mo) (by omega) (by decide))
    · unfold okD at ho
      rw [e3, e2] at c4; exact absurd c4 (nI_nlt (by omega) (by omega))
    · have c0 : ¬ z < 0 := by
        intro w
        apply c2
        rw [Int32.lt_iff_toInt_lt] at w ⊢
        have e0 : (0 : Int32).toInt = 0 := by decide
        have e1 : (1 : Int32).toInt = 1 := by decide
        omega
      obtain ⟨le, hle, ey⟩ := nI_of c
      obtain ⟨mo, hmo, ez⟩ := nI_of c0
      have g1 : 1 ≤ mo := by
        rcases Nat.lt_or_ge mo 1 with q | q
        · exact absurd (by rw [ez]; exact nI_lt (a := mo) (b := 1) q (by decide)) c2
        · exact q
      have g2 : mo ≤ 3 := by
        rcases Nat.lt_or_ge 3 mo with q | q
        · exact absurd (by rw [ez]; exact nI_lt (a := 3) (b := mo) q hmo) c3
        · exact q
      have g3 : le ≤ mo := by
        rcases Nat.lt_or_ge mo le with q | q
        · exact absurd (by rw [ez, ey]; exact nI_lt q hle) c4
        · exact q
      exact h1 ki le mo hx ey ez ⟨hki, g3, g1, g2⟩
  unfold wpX6_declare wpX6_isKind
  refine ⟨fun e => ⟨fun w => absurd w (by decide), fun _ => hrest 0 (by decide) e⟩, fun e0 => ⟨fun e => ⟨fun w => absurd w (by decide), fun _ => hrest 1 (by decide) e⟩, fun e1 => ⟨fun e2 => ⟨fun _ => hbad (fun ki le mo ex _ _ ho => ?_), fun w => absurd rfl w⟩, fun e => ⟨fun w => absurd w (by decide), fun _ => hrest 2 (by decide) e⟩⟩⟩⟩
  have hk := ho.1
  rcases (show ki = 0 ∨ ki = 1 ∨ ki = 2 by omega) with rfl | rfl | rfl
  · exact e0 ex
  · exact e1 ex
  · exact e2 ex
theorem d_declare (P : Pm) (x y z : Int32) : ∃ r P', Dt (wpX6_declare x y z) P r P' := by
  obtain ⟨⟨a, tx, n⟩, ⟨hn, pa⟩, ke, im⟩ := P
  by_cases hok : ∃ ki le mo : Nat, okD ki le mo ∧ x = nI ki ∧ y = nI le ∧ z = nI mo
  · obtain ⟨ki, le, mo, ho, ex, ey, ez⟩ := hok
    by_cases hw : isW tx n ∧ ∀ m, m < a 0 → wdN a m ≠ wdT tx n
    · by_cases c : a 0 < 6
      · refine ⟨nI (a 0), ((decA a tx n (a 0) ki le mo, tx, n), (hnN hn, paN hn pa a), ke, im), fun σ h post hp => ?_⟩
        have h : Cx σ a tx n hn pa ke im := h
        have ha := h.1.1
        have h6 := ha.1
        have hT := h.1.2.1
        have hD := h.1.2.2.1
        have hwl := wdT_lt hT
        refine v_declR x y z (fun ki' le' mo' _ _ _ _ => ?_) (fun hh => absurd ho (hh ki le mo ex ey ez))
        unfold BX6_declare_31
        refine ⟨fun _ => v_asWord hT h.1.2.2.2.1 (fun hw' => ?_) (fun hn => absurd hw.1 hn), fun w => absurd w (by decide)⟩
        refine ⟨fun w => absurd w (nI_ne0 (wdT_pos hw') hwl), fun _ => v_hasWord k51 ha hD (wdT tx n) hwl (fun m hm e => absurd e (hw.2 m hm)) (fun hne => ⟨fun _ => ?_, fun w => absurd rfl w⟩)⟩
        have hw := hw.1
        rw [hD.1]
        refine pk_lt (a 0) 6 (fun c => q_begin h (fun σ1 f1 c1 => ?_)) (fun q => by omega)
        obtain ⟨c1, c2, c3, c4, c5, c6, c7⟩ := c1
        unfold wpX1_add
        rw [c5.1]
        refine v_at1 k51 c (fun _ σ2 e2 σ3 e3 σ4 e4 σ5 e5 σ6 e6 σ7 e7 σ8 e8 => ?_)
        have hq : 8 ≤ σ1.2.2 6 (a 0) ∧ σ1.2.2 6 (a 0) ≤ 13 := c6.1 (a 0) c
        have eq : σ1.2.2 (5 + 1) (a 0) = σ1.2.2 6 (a 0) := rfl
        rw [eq] at e2 e3 e4 e5 e6 e7
        generalize hQ : σ1.2.2 6 (a 0) = q at *
        have i7 : ∀ k, k ≠ q → σ7.1 k = σ1.1 k := fun k hk => by rw [e7, upd_row hk, e6, upd_row hk, e5, upd_row hk, e4, upd_row hk, e3, upd_row hk, e2, upd_row hk]
        have r8 : σ8.2 = σ1.2 := by rw [e8, e7, e6, e5, e4, e3, e2]; rfl
        have e52 : σ7.1 5 2 = nI (a 0) := by rw [i7 5 (by omega)]; exact c5.1
        rw [e52] at e8
        have i8 : ∀ k, k ≠ q → k ≠ 5 → σ8.1 k = σ1.1 k := fun k h1 h2 => by rw [e8, upd_row h2]; exact i7 k h1
        have e85 : σ8.1 5 2 = nI (a 0 + 1) := by rw [e8, setI_1, if_pos ⟨rfl, rfl⟩]; exact nI_1 _
        have hwf := dec_wf (ki := ki) (le := le) (mo := mo) ha hT rfl c hw ho.1 ho.2.1 ho.2.2.1 ho.2.2.2
        have hst : stC σ σ8 (hnN hn) (paN hn pa a) (decA a tx n (a 0) ki le mo) := by
          refine ⟨fun k hk => ⟨by rw [i8 k (by omega) (by omega)]; exact (c1 k hk).1, by rw [r8]; exact (c1 k hk).2⟩, c2.fr (fun k _ _ => ⟨i8 k (by omega) (by omega), by rw [r8]⟩), by rw [i8 90 (by omega) (by omega)]; exact c3, by rw [i8 97 (by omega) (by omega)]; exact c4, ⟨by rw [dec_0]; exact e85, ?_, fun m hm => ?_⟩, c6.row (by rw [r8]), hwf⟩
          · rw [e8, setI_1, if_neg (by decide), i7 5 (by omega), dec_n (by omega) (by omega) (by omega) (by omega) (by omega) (by omega) (by omega)]; exact c5.2.1
          · rw [dec_0] at hm
            rw [r8]
            show repMb σ8 (σ1.2.2 6 m) _ m
            by_cases w : m = a 0
            · rw [w, hQ]
              unfold repMb
              have e : σ8.1 q = σ7.1 q := by rw [e8]; exact upd_row (by omega)
              rw [e, dec_k c, dec_l c, dec_m c, dec_d c, dec_b c]
              unfold wdN
              rw [dec_w0 c, dec_w1 c, dec_w2 c, e7, e6, e5, e4, e3, e2]
              simp only [setI_1]
              refine ⟨?_, ?_, ?_, ?_, ?_, ?_⟩ <;> simp [ex, ey, ez] <;> first | rfl | skip
            · have hm2 : m < a 0 := by omega
              have hne2 : σ1.2.2 6 m ≠ q := fun z => w (c6.2 m (a 0) (by omega) c (by show σ1.2.2 6 m = σ1.2.2 6 (a 0); rw [z, hQ]))
              have hb := c5.2.2 m hm2
              have hqm : 8 ≤ σ1.2.2 6 m ∧ σ1.2.2 6 m ≤ 13 := c6.1 m (by omega)
              have hb : repMb σ1 (σ1.2.2 6 m) a m := hb
              unfold repMb wdN at hb ⊢
              rw [i8 _ hne2 (by omega), dec_n (k := 2 + 3 * m) (by omega) (by omega) (by omega) (by omega) (by omega) (by omega) (by omega), dec_n (k := 3 + 3 * m) (by omega) (by omega) (by omega) (by omega) (by omega) (by omega) (by omega), dec_n (k := 4 + 3 * m) (by omega) (by omega) (by omega) (by omega) (by omega) (by omega) (by omega), dec_n (k := 20 + m) (by omega) (by omega) (by omega) (by omega) (by omega) (by omega) (by omega), dec_n (k := 26 + m) (by omega) (by omega) (by omega) (by omega) (by omega) (by omega) (by omega), dec_n (k := 32 + m) (by omega) (by omega) (by omega) (by omega) (by omega) (by omega) (by omega), dec_n (k := 38 + m) (by omega) (by omega) (by omega) (by omega) (by omega) (by omega) (by omega), dec_n (k := 44 + m) (by omega) (by omega) (by omega) (by omega) (by omega) (by omega) (by omega)]
              exact hb
        rw [e85, show nI (a 0 + 1) - (1 : Int32) = nI (a 0) from by rw [show nI (a 0 + 1) - (1 : Int32) = nI (a 0 + 1 - 1) from pk_sub (b := 1) (by omega), Nat.add_sub_cancel]]
        exact hp σ8 (h.fin hst)
      · refine ⟨-3, ((a, tx, n), (hn, pa), ke, im), fun σ h post hp => ?_⟩
        have h2 : Cs σ ((a, tx, n), (hn, pa), ke, im) := h
        have h : Cx σ a tx n hn pa ke im := h
        have ha := h.1.1
        have h6 := ha.1
        have hT := h.1.2.1
        have hD := h.1.2.2.1
        have hwl := wdT_lt hT
        refine v_declR x y z (fun ki' le' mo' _ _ _ _ => ?_) (fun hh => absurd ho (hh ki le mo ex ey ez))
        unfold BX6_declare_31
        refine ⟨fun _ => v_asWord hT h.1.2.2.2.1 (fun hw' => ?_) (fun hn => absurd hw.1 hn), fun w => absurd w (by decide)⟩
        refine ⟨fun w => absurd w (nI_ne0 (wdT_pos hw') hwl), fun _ => v_hasWord k51 ha hD (wdT tx n) hwl (fun m hm e => absurd e (hw.2 m hm)) (fun hne => ⟨fun _ => ?_, fun w => absurd rfl w⟩)⟩
        rw [hD.1]
        exact pk_lt (a 0) 6 (fun q => by omega) (fun _ => hp σ h2)
    · refine ⟨-2, ((a, tx, n), (hn, pa), ke, im), fun σ h post hp => ?_⟩
      have h2 : Cs σ ((a, tx, n), (hn, pa), ke, im) := h
      have h : Cx σ a tx n hn pa ke im := h
      have ha := h.1.1
      have hT := h.1.2.1
      have hD := h.1.2.2.1
      have hwl := wdT_lt hT
      refine v_declR x y z (fun ki' le' mo' _ _ _ _ => ?_) (fun hh => absurd ho (hh ki le mo ex ey ez))
      unfold BX6_declare_31
      refine ⟨fun _ => v_asWord hT h.1.2.2.2.1 (fun hw' => ?_) (fun _ => ⟨fun _ => hp σ h2, fun w => absurd rfl w⟩), fun w => absurd w (by decide)⟩
      exact ⟨fun w => absurd w (nI_ne0 (wdT_pos hw') hwl), fun _ => v_hasWord k51 ha hD (wdT tx n) hwl (fun m hm e => ⟨fun w => absurd w (by decide), fun _ => hp σ h2⟩) (fun hne => absurd ⟨hw', hne⟩ hw)⟩
  · refine ⟨-1, ((a, tx, n), (hn, pa), ke, im), fun σ h post hp => ?_⟩
    exact v_declR x y z (fun ki le mo ex ey ez ho => absurd ⟨ki, le, mo, ho, ex, ey, ez⟩ hok) (fun _ => hp σ h)
