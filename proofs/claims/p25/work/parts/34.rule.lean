/-! rule and set -/
def putA (a : Nat → Nat) (p v : Nat) : Nat → Nat := fun k => if k = p then v else a k
theorem putA_p (a : Nat → Nat) (p v : Nat) : putA a p v p = v := if_pos rfl
theorem putA_n (a : Nat → Nat) {p v k : Nat} (h : k ≠ p) : putA a p v k = a k := if_neg h
theorem putA_wf {a : Nat → Nat} (ha : wfA a) {m f v : Nat} (hm : m < a 0) (hv : v ≤ 999) (h : (f = 1 ∧ v ≤ 2) ∨ (f = 2 ∧ v ≤ a (32 + m)) ∨ (f = 3 ∧ 1 ≤ v ∧ v ≤ 3 ∧ a (26 + m) ≤ v) ∨ f = 4 ∨ (f = 5 ∧ v < 2 ^ a 0)) : wfA (putA a (14 + 6 * f + m) v) := by
  have h6 := ha.1
  have hf : 1 ≤ f ∧ f ≤ 5 := by omega
  have e0 : putA a (14 + 6 * f + m) v 0 = a 0 := putA_n a (by omega)
  refine ⟨by rw [e0]; exact h6, by rw [putA_n a (by omega)]; exact ha.2.1, fun k => ?_, fun x hx => ?_⟩
  · unfold putA
    have := ha.2.2.1 k
    split <;> omega
  · rw [e0] at hx ⊢
    obtain ⟨w1, w2, w3, w4, w5, w6, w7⟩ := ha.2.2.2 x hx
    rw [putA_n a (show 2 + 3 * x ≠ 14 + 6 * f + m by omega), putA_n a (show 3 + 3 * x ≠ 14 + 6 * f + m by omega), putA_n a (show 4 + 3 * x ≠ 14 + 6 * f + m by omega)]
    refine ⟨w1, w2, ?_⟩
    by_cases z : x = m
    · subst z
      rcases h with ⟨rfl, h⟩ | ⟨rfl, h⟩ | ⟨rfl, h⟩ | rfl | ⟨rfl, h⟩
      · rw [show putA a (14 + 6 * 1 + x) v (20 + x) = v from putA_p a _ v, putA_n a (by omega), putA_n a (by omega), putA_n a (by omega)]
        exact ⟨h, w4, w5, w6, w7⟩
      · rw [putA_n a (by omega), show putA a (14 + 6 * 2 + x) v (26 + x) = v from putA_p a _ v, putA_n a (by omega), putA_n a (by omega)]
        exact ⟨w3, h, w5, w6, w7⟩
      · rw [putA_n a (by omega), putA_n a (by omega), show putA a (14 + 6 * 3 + x) v (32 + x) = v from putA_p a _ v, putA_n a (by omega)]
        exact ⟨w3, h.2.2, h.1, h.2.1, w7⟩
      · rw [putA_n a (by omega), putA_n a (by omega), putA_n a (by omega), putA_n a (by omega)]
        exact ⟨w3, w4, w5, w6, w7⟩
      · rw [putA_n a (by omega), putA_n a (by omega), putA_n a (by omega), show putA a (14 + 6 * 5 + x) v (44 + x) = v from putA_p a _ v]
        exact ⟨w3, w4, w5, w6, h⟩
    · rw [putA_n a (by omega), putA_n a (by omega), putA_n a (by omega), putA_n a (by omega)]
      exact ⟨w3, w4, w5, w6, w7⟩
theorem stC.putf {σ σ1 σ2 : Sg} {hn' : Nat} {pa' : Nat → Nat → Nat} {a : Nat → Nat} {m f v : Nat} (h : stC σ σ1 hn' pa' a) (hm : m < a 0) (hf : 1 ≤ f ∧ f ≤ 5) (e : σ2 = setI σ1 (σ1.2.2 6 m) f (nI v)) (hwf : wfA (putA a (14 + 6 * f + m) v)) : stC σ σ2 hn' pa' (putA a (14 + 6 * f + m) v) := by
  obtain ⟨c1, c2, c3, c4, c5, c6, c7⟩ := h
  have h6 := c7.1
  have hq : 8 ≤ σ1.2.2 6 m ∧ σ1.2.2 6 m ≤ 13 := c6.1 m (by omega)
  have r2 : σ2.2 = σ1.2 := by rw [e]; rfl
  have i2 : ∀ k, k ≠ σ1.2.2 6 m → σ2.1 k = σ1.1 k := fun k hk => by rw [e]; exact upd_row hk
  have hg : ∀ m', m' < a 0 → ∀ g, 1 ≤ g → g ≤ 5 → σ1.1 (σ1.2.2 6 m') g = nI (a (14 + 6 * g + m')) → σ2.1 (σ1.2.2 6 m') g = nI (putA a (14 + 6 * f + m) v (14 + 6 * g + m')) := by
    intro m' hm' g g1 g5 e0
    rw [e, setI_1]
    by_cases z : m' = m ∧ g = f
    · rw [if_pos ⟨by rw [z.1], z.2⟩, z.1, z.2, putA_p]
    · rw [if_neg (fun w => z ⟨c6.2 m' m (by omega) (by omega) w.1, w.2⟩), putA_n a (by omega), e0]
  refine ⟨fun k hk => ⟨by rw [i2 k (by omega)]; exact (c1 k hk).1, by rw [r2]; exact (c1 k hk).2⟩, c2.fr (fun k _ _ => ⟨i2 k (by omega), by rw [r2]⟩), by rw [i2 90 (by omega)]; exact c3, by rw [i2 97 (by omega)]; exact c4, ⟨?_, ?_, fun x hx => ?_⟩, c6.row (by rw [r2]), hwf⟩
  · rw [i2 5 (by omega), putA_n a (by omega)]; exact c5.1
  · rw [i2 5 (by omega), putA_n a (by omega)]; exact c5.2.1
  · rw [putA_n a (by omega)] at hx
    obtain ⟨b0, b1, b2, b3, b4, b5⟩ := c5.2.2 x hx
    rw [r2]
    refine ⟨?_, hg x hx 1 (by decide) (by decide) b1, hg x hx 2 (by decide) (by decide) b2, hg x hx 3 (by decide) (by decide) b3, hg x hx 4 (by decide) (by decide) b4, hg x hx 5 (by decide) (by decide) b5⟩
    have e1 : wdN (putA a (14 + 6 * f + m) v) x = wdN a x := by
      unfold wdN
      rw [putA_n a (by omega), putA_n a (by omega), putA_n a (by omega)]
    rw [e1, e, setI_1, if_neg (fun w => by omega)]
    exact b0
def wb (x b on : Nat) : Nat := if on = 1 then x ||| 2 ^ b else if x.testBit b then x - 2 ^ b else x
theorem wb_c : ∀ x, x < 64 → ∀ b, b < 6 → ((nI x &&& (((1 : Int32) <<< (nI b &&& 31)) ^^^ (-1 : Int32))) ||| (nI 0 <<< (nI b &&& 31)) = nI (wb x b 0)) ∧ ((nI x &&& (((1 : Int32) <<< (nI b &&& 31)) ^^^ (-1 : Int32))) ||| (nI 1 <<< (nI b &&& 31)) = nI (wb x b 1)) ∧ (nI x &&& (((1 : Int32) <<< (nI b &&& 31)) ^^^ (-1 : Int32)) = nI (wb x b 0)) ∧ (nI x ||| ((1 : Int32) <<< (nI b &&& 31)) = nI (wb x b 1)) := by decide +kernel
theorem wb_lt : ∀ c, c < 7 → ∀ x, x < 64 → ∀ b, b < c → x < 2 ^ c → wb x b 0 < 2 ^ c ∧ wb x b 1 < 2 ^ c := by decide +kernel
theorem d_rule (P : Pm) (x y z : Int32) : ∃ r P', Dt (wpX6_rule x y z) P r P' := by
  obtain ⟨⟨a, tx, n⟩, ⟨hn, pa⟩, ke, im⟩ := P
  by_cases hh : ∃ m b on : Nat, m < a 0 ∧ b < a 0 ∧ on ≤ 1 ∧ x = nI m ∧ y = nI b ∧ z = nI on ∧ x ≠ y
  · obtain ⟨m, b, on, hm, hb, hon, rfl, rfl, rfl, hne⟩ := hh
    refine ⟨nI (if (a (44 + m)).testBit b then 1 else 0), ((putA a (14 + 6 * 5 + m) (wb (a (44 + m)) b on), tx, n), (hnN hn, paN hn pa a), ke, im), fun σ h post hp => ?_⟩
    have h : Cx σ a tx n hn pa ke im := h
    have ha := h.1.1
    have h6 := ha.1
    have hp6 := pow_le6 h6
    have hD := h.1.2.2.1
    unfold wpX6_rule
    refine v_has ha hD.1 (nI m) (fun m' hm' ex => ⟨fun w => absurd w (by decide), fun _ => v_has ha hD.1 (nI b) (fun b' hb' ey => ⟨fun w => absurd w (by decide), fun _ => ⟨fun c => absurd c hne, fun c => ?_⟩⟩) (fun hno => absurd rfl (hno b hb))⟩) (fun hno => absurd rfl (hno m hm))
    refine ⟨fun c1 => absurd c1 (nI_pos (by omega)), fun _ => ⟨fun _ => ?_, fun c2 => absurd (show nI on ≤ (1 : Int32) from nI_le (b := 1) hon (by decide)) c2⟩⟩
    refine q_begin h (fun σ1 f1 c1 => v_at1 k51 (by omega) (fun _ => ?_))
    have hbm := c1.2.2.2.2.1.2.2 m hm
    have hb5 := hbm.2.2.2.2.2
    have hlt := (ha.2.2.2 m hm).2.2.2.2.2.2
    rw [hb5]
    refine v_bitOf (by omega) (by omega) ?_
    unfold wpX6_withBit
    rw [hb5]
    intro σ2 e2
    have hwb := wb_c (a (44 + m)) (by omega) b (by omega)
    have hwl := wb_lt (a 0) (by omega) (a (44 + m)) (by omega) b hb hlt
    have e3 : (nI (a (44 + m)) &&& (((1 : Int32) <<< (nI b &&& 31)) ^^^ (-1 : Int32))) ||| (nI on <<< (nI b &&& 31)) = nI (wb (a (44 + m)) b on) := by
      rcases (show on = 0 ∨ on = 1 by omega) with rfl | rfl
      · exact hwb.1
      · exact hwb.2.1
    rw [e3] at e2
    have hvl : wb (a (44 + m)) b on < 2 ^ a 0 := by
      rcases (show on = 0 ∨ on = 1 by omega) with rfl | rfl
      · exact hwl.1
      · exact hwl.2
    have hwf := putA_wf (f := 5) ha hm (v := wb (a (44 + m)) b on) (by omega) (Or.inr (Or.inr (Or.inr (Or.inr ⟨rfl, hvl⟩))))
    have hst := c1.putf (f := 5) hm (by decide) e2 hwf
    exact hp σ2 (h.fin hst)
  · refine ⟨-1, ((a, tx, n), (hn, pa), ke, im), fun σ h post hp => ?_⟩
    have h2 : Cs σ ((a, tx, n), (hn, pa), ke, im) := h
    have h : Cx σ a tx n hn pa ke im := h
    have ha := h.1.1
    have hD := h.1.2.2.1
    unfold wpX6_rule
    refine v_has ha hD.1 x (fun m hm ex => ⟨fun _ => hp σ h2, fun _ => v_has ha hD.1 y (fun b hb ey => ⟨fun _ => hp σ h2, fun _ => ⟨fun _ => hp σ h2, fun c => ⟨fun _ => hp σ h2, fun c1 => ⟨fun c2 => ?_, fun _ => hp σ h2⟩⟩⟩⟩) (fun _ => ⟨fun _ => hp σ h2, fun w => absurd rfl w⟩)⟩) (fun _ => ⟨fun _ => hp σ h2, fun w => absurd rfl w⟩)
    obtain ⟨on, _, ho, ez⟩ := rngI (lo := 0) (hi := 1) (by decide) (by decide) c1 c2
    exact absurd ⟨m, b, on, hm, hb, ho, ex, ey, ez, c⟩ hh
def okS (a : Nat → Nat) (m w v : Nat) : Prop := (w = 0 ∧ v ≤ 2) ∨ (w = 1 ∧ v ≤ a (32 + m)) ∨ (w = 2 ∧ 1 ≤ v ∧ v ≤ 3 ∧ a (26 + m) ≤ v) ∨ (w = 3 ∧ v ≤ 999)
theorem okS.le {a : Nat → Nat} {m w v : Nat} (ha : wfA a) (h : okS a m w v) : w ≤ 3 ∧ v ≤ 999 := by
  have := ha.2.2.1 (32 + m)
  unfold okS at h; omega
theorem v_accepts {σ : Sg} {a : Nat → Nat} (ha : wfA a) {m q : Nat} (hm : m < a 0) (hq : repMb σ q a m) (y z : Int32) {post : Int32 → Sg → Prop} (h1 : ∀ w v, y = nI w → z = nI v → okS a m w v → post 1 σ) (h0 : (∀ w v, y = nI w → z = nI v → ¬ okS a m w v) → post 0 σ) : wpX3_accepts q y z σ post := by
  obtain ⟨b0, b1, b2, b3, b4, b5⟩ := hq
  have hl1 := a_lt ha (26 + m)
  have hl2 := a_lt ha (32 + m)
  have hno : ∀ k : Nat, k < 4 → y = nI k → (∀ v, z = nI v → ¬ okS a m k v) → post 0 σ := by
    intro k hk e hz
    refine h0 (fun w v ew ev ho => hz v ev ?_)
    have hw := (ho.le ha).1
    rw [show k = w from (nI_eq (by omega) (by omega)).mp (e.symm.trans ew)]
    exact ho
  unfold wpX3_accepts
  refine ⟨fun c => h0 (fun w v ew _ ho => ?_), fun c => ?_, fun c => ?_, fun c => ?_, fun c => ?_⟩
  · have hw := (ho.le ha).1
    rw [ew, nI_toInt (by omega)] at c
    omega
  · unfold wpX6_isKind
    refine ⟨fun e => ⟨nar_b true, h1 0 0 c e (Or.inl ⟨rfl, by decide⟩)⟩, fun e0 => ⟨fun e => ⟨nar_b true, h1 0 1 c e (Or.inl ⟨rfl, by decide⟩)⟩, fun e1 => ⟨fun e2 => ⟨nar_b false, hno 0 (by decide) c (fun v ev ho => ?_)⟩, fun e => ⟨nar_b true, h1 0 2 c e (Or.inl ⟨rfl, by decide⟩)⟩⟩⟩⟩
    have hv : v ≤ 2 := by unfold okS at ho; omega
    rcases (show v = 0 ∨ v = 1 ∨ v = 2 by omega) with rfl | rfl | rfl
    · exact e0 ev
    · exact e1 ev
    · exact e2 ev
  · refine ⟨fun c1 => hno 1 (by decide) c (fun v ev ho => ?_), fun c1 => ?_⟩
    · have := (ho.le ha).2
      subst ev; exact absurd c1 (nI_pos (by omega))
    · obtain ⟨j, hj, ej⟩ := nI_of c1
      rw [b3, ej]
      refine pk_lt (a (32 + m)) j (fun c2 => hno 1 (by decide) c (fun v ev ho => ?_)) (fun c2 => h1 1 j c ej (Or.inr (Or.inl ⟨rfl, c2⟩)))
      have hv := (ho.le ha).2
      rw [show j = v from (nI_eq hj (by omega)).mp (ej.symm.trans ev)] at c2
      unfold okS at ho; omega
  · refine ⟨fun c1 => hno 2 (by decide) c (fun v ev ho => ?_), fun c1 => ?_⟩
    · have hv := (ho.le ha).2
      subst ev
      exact absurd c1 (nI_nlt (a := v) (b := 1) (by unfold okS at ho; omega) (by omega))
    · have c0 : ¬ z < 0 := by
        intro w
        apply c1
        rw [Int32.lt_iff_toInt_lt] at w ⊢
        have e0 : (0 : Int32).toInt = 0 := by decide
        have e1 : (1 : Int32).toInt = 1 := by decide
        omega
      obtain ⟨j, hj, ej⟩ := nI_of c0
      have hl : 1 ≤ j := by
        rcases Nat.lt_or_ge j 1 with q | q
        · exact absurd (by rw [ej]; exact nI_lt (a := j) (b := 1) q (by decide)) c1
        · exact q
      have hj2 : ∀ v, z = nI v → okS a m 2 v → j = v := fun v ev ho => (nI_eq hj (by have := (ho.le ha).2; omega)).mp (ej.symm.trans ev)
      rw [b2, ej]
      refine pk_lt 3 j (fun c2 => hno 2 (by decide) c (fun v ev ho => ?_)) (fun c2 => pk_lt j (a (26 + m)) (fun c3 => hno 2 (by decide) c (fun v ev ho => ?_)) (fun c3 => h1 2 j c ej (Or.inr (Or.inr (Or.inl ⟨rfl, hl, c2, c3⟩)))))
      · have := hj2 v ev ho
        unfold okS at ho; omega
      · have := hj2 v ev ho
        unfold okS at ho; omega
  · refine ⟨fun c1 => hno 3 (by decide) c (fun v ev ho => ?_), fun c1 => ?_⟩
    · have := (ho.le ha).2
      subst ev; exact absurd c1 (nI_pos (by omega))
    · obtain ⟨j, hj, ej⟩ := nI_of c1
      rw [ej]
      refine pk_lt 999 j (fun c2 => hno 3 (by decide) c (fun v ev ho => ?_)) (fun c2 => h1 3 j c ej (Or.inr (Or.inr (Or.inr ⟨rfl, c2⟩))))
      have hv := (ho.le ha).2
      rw [show j = v from (nI_eq hj (by omega)).mp (ej.symm.trans ev)] at c2
      omega
theorem d_set (P : Pm) (x y z : Int32) : ∃ r P', Dt (wpX6_set x y z) P r P' := by
  obtain ⟨⟨a, tx, n⟩, ⟨hn, pa⟩, ke, im⟩ := P
  by_cases hh : ∃ m w v : Nat, m < a 0 ∧ okS a m w v ∧ x = nI m ∧ y = nI w ∧ z = nI v
  · obtain ⟨m, w, v, hm, ho, rfl, rfl, rfl⟩ := hh
    refine ⟨nI (a (20 + 6 * w + m)), ((putA a (14 + 6 * (w + 1) + m) v, tx, n), (hnN hn, paN hn pa a), ke, im), fun σ h post hp => ?_⟩
    have h : Cx σ a tx n hn pa ke im := h
    have ha := h.1.1
    have h6 := ha.1
    have hD := h.1.2.2.1
    have hle := ho.le ha
    unfold wpX6_set
    refine v_has ha hD.1 (nI m) (fun m' hm' ex => ⟨fun w => absurd w (by decide), fun _ => ?_⟩) (fun hno => absurd rfl (hno m hm))
    refine v_at1 k51 (by omega) (fun _ => v_accepts ha hm (hD.2.2 m hm) (nI w) (nI v) (fun w' v' ey ez ho' => ⟨fun _ => ?_, fun w => absurd w (by decide)⟩) (fun hn => absurd ho (hn w v rfl rfl)))
    refine q_begin h (fun σ1 f1 c1 => v_at1 k51 (by omega) (fun _ => ?_))
    have hbm := c1.2.2.2.2.1.2.2 m hm
    obtain ⟨b0, b1, b2, b3, b4, b5⟩ := hbm
    have hok2 : (w + 1 = 1 ∧ v ≤ 2) ∨ (w + 1 = 2 ∧ v ≤ a (32 + m)) ∨ (w + 1 = 3 ∧ 1 ≤ v ∧ v ≤ 3 ∧ a (26 + m) ≤ v) ∨ w + 1 = 4 ∨ (w + 1 = 5 ∧ v < 2 ^ a 0) := by
      unfold okS at ho; omega
    have hwf := putA_wf (f := w + 1) ha hm hle.2 hok2
    have hgo : ∀ σ2, σ2 = setI σ1 (σ1.2.2 6 m) (w + 1) (nI v) → post (nI (a (20 + 6 * w + m))) σ2 := by
      intro σ2 e2
      exact hp σ2 (h.fin (c1.putf (f := w + 1) hm (by omega) e2 hwf))
    unfold wpX3_exchange wpX3_property
    rcases (show w = 0 ∨ w = 1 ∨ w = 2 ∨ w = 3 by omega) with rfl | rfl | rfl | rfl
    · refine ⟨fun c => absurd c (by decide), fun _ => ⟨fun c => absurd c (by decide), fun _ σ2 e2 => ?_, fun c => absurd c (by decide), fun c => absurd c (by decide)⟩, fun c => absurd c (by decide), fun c => absurd c (by decide)⟩
      rw [b1]; exact hgo σ2 e2
    · refine ⟨fun c => absurd c (by decide), fun c => absurd c (by decide), fun _ => ⟨fun c => absurd c (by decide), fun c => absurd c (by decide), fun _ σ2 e2 => ?_, fun c => absurd c (by decide)⟩, fun c => absurd c (by decide)⟩
      rw [b2]; exact hgo σ2 e2
    · refine ⟨fun c => absurd c (by decide), fun c => absurd c (by decide), fun c => absurd c (by decide), fun _ => ⟨fun c => absurd c (by decide), fun c => absurd c (by decide), fun c => absurd c (by decide), fun _ σ2 e2 => ?_⟩⟩
      rw [b3]; exact hgo σ2 e2
    · refine ⟨fun _ => ⟨fun _ σ2 e2 => ?_, fun c => absurd c (by decide), fun c => absurd c (by decide), fun c => absurd c (by decide)⟩, fun c => absurd c (by decide), fun c => absurd c (by decide), fun c => absurd c (by decide)⟩
      rw [b4]; exact hgo σ2 e2
  · refine ⟨-1, ((a, tx, n), (hn, pa), ke, im), fun σ h post hp => ?_⟩
    have h2 : Cs σ ((a, tx, n), (hn, pa), ke, im) := h
    have h : Cx σ a tx n hn pa ke im := h
    have ha := h.1.1
    have h6 := ha.1
    have hD := h.1.2.2.1
    unfold wpX6_set
    refine v_has ha hD.1 x (fun m hm ex => ⟨fun _ => hp σ h2, fun _ => ?_⟩) (fun _ => ⟨fun _ => hp σ h2, fun w => absurd rfl w⟩)
    subst ex
    exact v_at1 k51 (by omega) (fun _ => v_accepts ha hm (hD.2.2 m hm) y z (fun w v ey ez ho => absurd ⟨m, w, v, hm, ho, rfl, ey, ez⟩ hh) (fun _ => ⟨fun w => absurd rfl w, fun _ => hp σ h2⟩))
