/-! declare, both sides -/
theorem m_declare {σ : Sg} {a tx : Nat → Nat} {n : Nat} (hc : ctxM σ a tx n) (x y z : Int32) {post : Int32 → Sg → Prop} (hb : (∀ ki le mo, x = nI ki → y = nI le → z = nI mo → ¬ okD ki le mo) → post (-1) σ) (hs : ∀ ki le mo, x = nI ki → y = nI le → z = nI mo → okD ki le mo → ¬ (isW tx n ∧ ∀ m, m < a 0 → ¬ eqW a tx n m) → post (-2) σ) (hf : ∀ ki le mo, x = nI ki → y = nI le → z = nI mo → okD ki le mo → isW tx n → (∀ m, m < a 0 → ¬ eqW a tx n m) → a 0 = 6 → post (-3) σ) (h1 : ∀ ki le mo, x = nI ki → y = nI le → z = nI mo → okD ki le mo → isW tx n → (∀ m, m < a 0 → ¬ eqW a tx n m) → a 0 < 6 → wpX7_remember σ (fun σ33 => (vp_in ((0 : Int32)) 50 ∧ ∃ nf, BX7_declare_73 x y z post nf ((σ33.1 118 ((0 : Int32)).toNatClampNeg)) ((0 : Int32)) σ33))) : wpX7_declare x y z σ post := by
  have hW := hc.2.2.1
  have h6 := hc.1.1
  unfold wpX7_declare
  refine m_isInx x (lo := 0) (hi := 2) (by decide) (by decide) (fun ki _ hki ex => ⟨fun w => absurd w (by decide), fun _ => m_isInx y (lo := 0) (hi := 3) (by decide) (by decide) (fun le _ hle ey => ⟨fun w => absurd w (by decide), fun _ => m_isInx z (lo := 1) (hi := 3) (by decide) (by decide) (fun mo hm1 hm3 ez => ⟨fun w => absurd w (by decide), fun _ => ⟨fun c => ?_, fun c => hb (fun ki' le' mo' _ e2 e3 ho => ?_)⟩⟩) (fun hn => ⟨fun _ => hb (fun _ _ mo' _ _ e3 ho => hn mo' ho.2.2.1 ho.2.2.2 e3), fun w => absurd rfl w⟩)⟩) (fun hn => ⟨fun _ => hb (fun _ le' _ _ e2 _ ho => hn le' (Nat.zero_le _) (by unfold okD at ho; omega) e2), fun w => absurd rfl w⟩)⟩) (fun hn => ⟨fun _ => hb (fun ki' _ _ e1 _ _ ho => hn ki' (Nat.zero_le _) ho.1 e1), fun w => absurd rfl w⟩)
  · have hlm : le ≤ mo := by
      rcases Nat.lt_or_ge mo le with q | q
      · exact absurd (nI_lt q (by omega)) (by rw [ey, ez] at c; rw [Int32.not_lt]; exact c)
      · exact q
    have ho : okD ki le mo := ⟨hki, hlm, hm1, hm3⟩
    refine m_isNewWord hc (fun hw hnew => ⟨fun _ => ⟨in0_50, ?_⟩, fun w => absurd w (by decide)⟩) (fun hn => ⟨fun w => absurd rfl w, fun _ => hs ki le mo ex ey ez ho hn⟩)
    rw [z0, hW 0 (by decide)]
    refine ⟨fun w => h1 ki le mo ex ey ez ho hw hnew ?_, fun w => hf ki le mo ex ey ez ho hw hnew ((nI_eq (b := 6) (by omega) (by decide)).mp w)⟩
    rcases Nat.lt_or_ge (a 0) 6 with q | q
    · exact q
    · exact absurd (by rw [show a 0 = 6 by omega]; rfl) w
  · unfold okD at ho
    apply c
    rw [e2, e3]
    exact nI_le ho.2.1 (by omega)
theorem op_declare {σ : Sg} (h : R σ) (x y z : Int32) {post : Int32 → Sg → Prop} (hp : ∀ r σ1, (∀ post2 : Int32 → Sg → Prop, (∀ σ2, R σ2 → post2 r σ2) → wpX7_declare x y z σ1 post2) → post r σ1) : wpX6_declare x y z σ post := by
  obtain ⟨a, tx, n, hn, pa, ke, im, h⟩ := h
  have ha := h.1.1.1
  have hT := h.1.1.2.1
  have hD := h.1.1.2.2.1
  have h6 := ha.1
  have hcm := h.1.2.2
  have hwl := wdT_lt hT
  have hst2 : ∀ ki le mo, x = nI ki → y = nI le → z = nI mo → okD ki le mo → ¬ (isW tx n ∧ ∀ m, m < a 0 → ¬ eqW a tx n m) → post (-2) σ := fun ki le mo ex ey ez ho hn => hp _ _ (fun post2 h2 => m_declare hcm x y z (fun hh => absurd ho (hh ki le mo ex ey ez)) (fun _ _ _ _ _ _ _ _ => h2 σ h.r) (fun _ _ _ _ _ _ _ hw hnew => absurd ⟨hw, hnew⟩ hn) (fun _ _ _ _ _ _ _ hw hnew => absurd ⟨hw, hnew⟩ hn))
  refine v_declR x y z (fun ki le mo ex ey ez ho => ?_) (fun hh => hp _ _ (fun post2 h2 => m_declare hcm x y z (fun _ => h2 σ h.r) (fun ki le mo ex ey ez ho => absurd ho (hh ki le mo ex ey ez)) (fun ki le mo ex ey ez ho => absurd ho (hh ki le mo ex ey ez)) (fun ki le mo ex ey ez ho => absurd ho (hh ki le mo ex ey ez))))
  unfold BX6_declare_31
  refine ⟨fun _ => v_asWord hT h.1.1.2.2.2.1 (fun hw => ?_) (fun hw => ⟨fun _ => hst2 ki le mo ex ey ez ho (fun w => hw w.1), fun w => absurd rfl w⟩), fun w => absurd w (by decide)⟩
  refine ⟨fun w => absurd w (nI_ne0 (wdT_pos hw) hwl), fun _ => v_hasWord k51 ha hD (wdT tx n) hwl (fun m hm e => ⟨fun w => absurd w (by decide), fun _ => hst2 ki le mo ex ey ez ho (fun q => q.2 m hm ((eqW_iff ha hm hw).mp e))⟩) (fun hne => ⟨fun _ => ?_, fun w => absurd rfl w⟩)⟩
  have hnew : ∀ m, m < a 0 → ¬ eqW a tx n m := fun m hm q => hne m hm ((eqW_iff ha hm hw).mpr q)
  rw [hD.1]
  refine pk_lt (a 0) 6 (fun c => q_begin h (fun σ1 f1 c1 => ?_)) (fun c => hp _ _ (fun post2 h2 => m_declare hcm x y z (fun hh => absurd ho (hh ki le mo ex ey ez)) (fun _ _ _ _ _ _ _ hnn => absurd ⟨hw, hnew⟩ hnn) (fun _ _ _ _ _ _ _ _ _ _ => h2 σ h.r) (fun _ _ _ _ _ _ _ _ _ c2 => by omega)))
  obtain ⟨c1, c2, c3, c4, c5, c6, c7⟩ := c1
  unfold wpX1_add
  rw [c5.1]
  refine v_at1 k51 c (fun _ σ2 e2 σ3 e3 σ4 e4 σ5 e5 σ6 e6 σ7 e7 σ8 e8 => ?_)
  have hq : 8 ≤ σ1.2.2 6 (a 0) ∧ σ1.2.2 6 (a 0) ≤ 13 := c6.1 (a 0) c
  have eq : σ1.2.2 (5 + 1) (a 0) = σ1.2.2 6 (a 0) := rfl
  rw [eq] at e2 e3 e4 e5 e6 e7
  generalize hQ : σ1.2.2 6 (a 0) = q at *
  have i7 : ∀ k, k ≠ q → σ7.1 k = σ1.1 k := fun k hk => by rw [e7, upd_row hk, e6, upd_row hk, e5, upd_row hk, e4, upd_row hk, e3, upd_row hk, e2, upd_row hk]
  have r8 : σ8.2 = σ1.2 := by rw [e8, e7, e6, e5, e4, e3, e2]; rfl
  have e52 : σ7.1 5 2 = nI (a 0) := by rw [i7 5 (by omega)]; exact c5.1
  rw [e52] at e8
  have i8 : ∀ k, k ≠ q → k ≠ 5 → σ8.1 k = σ1.1 k := fun k h1 h2 => by rw [e8, upd_row h2]; exact i7 k h1
  have e85 : σ8.1 5 2 = nI (a 0 + 1) := by rw [e8, setI_1, if_pos ⟨rfl, rfl⟩]; exact nI_1 _
  have hwf := dec_wf (ki := ki) (le := le) (mo := mo) ha hT rfl c hw ho.1 ho.2.1 ho.2.2.1 ho.2.2.2
  have hst : stC σ σ8 (hnN hn) (paN hn pa a) (decA a tx n (a 0) ki le mo) := by
    refine ⟨fun k hk => ⟨by rw [i8 k (by omega) (by omega)]; exact (c1 k hk).1, by rw [r8]; exact (c1 k hk).2⟩, c2.fr (fun k _ _ => ⟨i8 k (by omega) (by omega), by rw [r8]⟩), by rw [i8 90 (by omega) (by omega)]; exact c3, by rw [i8 97 (by omega) (by omega)]; exact c4, ⟨by rw [dec_0]; exact e85, ?_, fun m hm => ?_⟩, c6.row (by rw [r8]), hwf⟩
    · rw [e8, setI_1, if_neg (by decide), i7 5 (by omega), dec_n (by omega) (by omega) (by omega) (by omega) (by omega) (by omega) (by omega)]; exact c5.2.1
    · rw [dec_0] at hm
      rw [r8]
      show repMb σ8 (σ1.2.2 6 m) _ m
      by_cases w : m = a 0
      · rw [w, hQ]
        unfold repMb
        have e : σ8.1 q = σ7.1 q := by rw [e8]; exact upd_row (by omega)
        rw [e, dec_k c, dec_l c, dec_m c, dec_d c, dec_b c]
        unfold wdN
        rw [dec_w0 c, dec_w1 c, dec_w2 c, e7, e6, e5, e4, e3, e2]
        simp only [setI_1]
        refine ⟨?_, ?_, ?_, ?_, ?_, ?_⟩ <;> simp [ex, ey, ez] <;> first | rfl | skip
      · have hm2 : m < a 0 := by omega
        have hne2 : σ1.2.2 6 m ≠ q := fun z => w (c6.2 m (a 0) (by omega) c (by show σ1.2.2 6 m = σ1.2.2 6 (a 0); rw [z, hQ]))
        have hb := c5.2.2 m hm2
        have hqm : 8 ≤ σ1.2.2 6 m ∧ σ1.2.2 6 m ≤ 13 := c6.1 m (by omega)
        have hb : repMb σ1 (σ1.2.2 6 m) a m := hb
        unfold repMb wdN at hb ⊢
        rw [i8 _ hne2 (by omega), dec_n (k := 2 + 3 * m) (by omega) (by omega) (by omega) (by omega) (by omega) (by omega) (by omega), dec_n (k := 3 + 3 * m) (by omega) (by omega) (by omega) (by omega) (by omega) (by omega) (by omega), dec_n (k := 4 + 3 * m) (by omega) (by omega) (by omega) (by omega) (by omega) (by omega) (by omega), dec_n (k := 20 + m) (by omega) (by omega) (by omega) (by omega) (by omega) (by omega) (by omega), dec_n (k := 26 + m) (by omega) (by omega) (by omega) (by omega) (by omega) (by omega) (by omega), dec_n (k := 32 + m) (by omega) (by omega) (by omega) (by omega) (by omega) (by omega) (by omega), dec_n (k := 38 + m) (by omega) (by omega) (by omega) (by omega) (by omega) (by omega) (by omega), dec_n (k := 44 + m) (by omega) (by omega) (by omega) (by omega) (by omega) (by omega) (by omega)]
        exact hb
  rw [e85, show nI (a 0 + 1) - (1 : Int32) = nI (a 0) from by rw [show nI (a 0 + 1) - (1 : Int32) = nI (a 0 + 1 - 1) from pk_sub (b := 1) (by omega), Nat.add_sub_cancel]]
  refine hp _ _ (fun post2 h2 => ?_)
  have up : ∀ k, 98 < k → σ8.1 k = σ.1 k := fun k hk => (hst.1 k (by omega)).1
  have hcm8 : ctxM σ8 a tx n := ⟨ha, hT, by unfold repW; rw [up 118 (by decide)]; exact hcm.2.2.1, by rw [up 117 (by decide)]; exact hcm.2.2.2.1, by rw [up 121 (by decide)]; exact hcm.2.2.2.2⟩
  refine m_declare hcm8 x y z (fun hh => absurd ho (hh ki le mo ex ey ez)) (fun _ _ _ _ _ _ _ hnn => absurd ⟨hw, hnew⟩ hnn) (fun _ _ _ _ _ _ _ _ _ c2 => by omega) (fun _ _ _ _ _ _ _ _ _ _ => q_remember h up (fun σ9 hW9 m9 => ⟨in0_50, ?_⟩))
  rw [z0, hW9 0 (by decide)]
  have hL9 : ∀ σ10 ak, stM σ8 σ10 (hnN hn) (paN hn pa a) ak → σ10.1 117 6 = nI n ∧ ∀ j, j < n → σ10.1 121 j = nI (tx j) := fun σ10 ak m10 => ⟨by rw [m10.2.2.1 6 (by decide) (by decide)]; exact hcm8.2.2.2.1, fun j hj => by rw [m10.2.1 121 (by omega)]; exact hcm8.2.2.2.2 j hj⟩
  have hn60 := hT.1
  have key : ∀ r k σ10, k + r = 3 → stM σ8 σ10 (hnN hn) (paN hn pa a) (decL a tx n (a 0) k) → BX7_declare_73 x y z post2 (r + 1) (nI (a 0)) (nI k) σ10 := by
    intro r
    induction r with
    | zero =>
      intro k σ10 hk m10
      rw [BX7_declare_73]
      refine pk_le 3 k (fun _ => ?_) (fun c => by omega)
      rw [show k = 3 by omega] at m10
      rw [show (20 : Int32) + nI (a 0) = nI (20 + a 0) from nI_add 20 _, show (26 : Int32) + nI (a 0) = nI (26 + a 0) from nI_add 26 _, show (32 : Int32) + nI (a 0) = nI (32 + a 0) from nI_add 32 _, show (38 : Int32) + nI (a 0) = nI (38 + a 0) from nI_add 38 _, show (44 : Int32) + nI (a 0) = nI (44 + a 0) from nI_add 44 _, nI_clamp (show 20 + a 0 < 2 ^ 31 by omega), nI_clamp (show 26 + a 0 < 2 ^ 31 by omega), nI_clamp (show 32 + a 0 < 2 ^ 31 by omega), nI_clamp (show 38 + a 0 < 2 ^ 31 by omega), nI_clamp (show 44 + a 0 < 2 ^ 31 by omega), z0]
      refine ⟨pk_in (20 + a 0) 50 (by omega), fun σ11 e11 => ⟨pk_in (26 + a 0) 50 (by omega), fun σ12 e12 => ⟨pk_in (32 + a 0) 50 (by omega), fun σ13 e13 => ⟨pk_in (38 + a 0) 50 (by omega), fun σ14 e14 => ⟨pk_in (44 + a 0) 50 (by omega), fun σ15 e15 => ⟨in0_50, in0_50, fun σ16 e16 => ?_⟩⟩⟩⟩⟩⟩
      rw [ex] at e11
      rw [ey] at e12
      rw [ez] at e13
      have m15 := ((((m10.put e11).put e12).put e13).put (v := 0) e14).put (v := 0) e15
      have hv : σ15.1 118 0 = nI (a 0) := by
        have h3 : σ15.1 118 0 = nI (if 0 = 44 + a 0 then 0 else if 0 = 38 + a 0 then 0 else if 0 = 32 + a 0 then mo else if 0 = 26 + a 0 then le else if 0 = 20 + a 0 then ki else decL a tx n (a 0) 3 0) := m15.2.2.2.2.2 0 (by decide)
        rw [if_neg (by omega), if_neg (by omega), if_neg (by omega), if_neg (by omega), if_neg (by omega)] at h3
        have h4 : decL a tx n (a 0) 3 0 = a 0 := by
          show putA (putA (putA a _ _) _ _) _ _ 0 = a 0
          rw [putA_n _ (by omega), putA_n _ (by omega), putA_n _ (by omega)]
        rw [h4] at h3; exact h3
      rw [hv, nI_1] at e16
      exact h2 σ16 (h.fin hst (m15.put e16)).r
    | succ r ih =>
      intro k σ10 hk m10
      obtain ⟨hl, hx⟩ := hL9 σ10 _ m10
      rw [BX7_declare_73, hl]
      have hix : ((2 : Int32) + ((3 : Int32) * nI (a 0))) + nI k = nI (2 + 3 * a 0 + k) := by
        rw [show (3 : Int32) * nI (a 0) = nI (3 * a 0) from pk_mul 3 _, show (2 : Int32) + nI (3 * a 0) = nI (2 + 3 * a 0) from nI_add 2 _, nI_add]
      rw [hix]
      have hgo : ∀ v σ11, v = tN tx n k → σ11 = setI σ10 118 (nI (2 + 3 * a 0 + k)).toNatClampNeg (nI v) → BX7_declare_73 x y z post2 (r + 1) (nI (a 0)) (nI k + 1) σ11 := by
        intro v σ11 hv e11
        rw [nI_clamp (by omega), hv] at e11
        rw [nI_1]
        exact ih (k + 1) σ11 (by omega) (m10.put e11)
      refine pk_le 3 k (fun c => by omega) (fun c => pk_le n k (fun c2 => ⟨pk_in (2 + 3 * a 0 + k) 50 (by omega), fun σ11 e11 => hgo 0 σ11 ?_ e11⟩) (fun c2 => ⟨pk_in k 60 (by omega), pk_in (2 + 3 * a 0 + k) 50 (by omega), fun σ11 e11 => ?_⟩))
      · unfold tN; rw [if_neg (by omega)]
      · rw [nI_clamp (show k < 2 ^ 31 by omega), hx k c2] at e11
        exact hgo (tx k) σ11 (by unfold tN; rw [if_pos c2]) e11
  exact ⟨_, key 3 0 σ9 rfl m9⟩
