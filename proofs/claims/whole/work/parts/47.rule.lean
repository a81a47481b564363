/-! rule and set -/
def putA (a : Nat → Nat) (p v : Nat) : Nat → Nat := fun k => if k = p then v else a k
theorem putA_p (a : Nat → Nat) (p v : Nat) : putA a p v p = v := if_pos rfl
theorem putA_n (a : Nat → Nat) {p v k : Nat} (h : k ≠ p) : putA a p v k = a k := if_neg h
theorem putA_wf {a : Nat → Nat} (ha : wfA a) {m f v : Nat} (hm : m < a 0) (hv : v ≤ 999) (h : (f = 1 ∧ v ≤ 2) ∨ (f = 2 ∧ v ≤ a (32 + m)) ∨ (f = 3 ∧ 1 ≤ v ∧ v ≤ 3 ∧ a (26 + m) ≤ v) ∨ f = 4 ∨ (f = 5 ∧ v < 2 ^ a 0)) : wfA (putA a (14 + 6 * f + m) v) := by
  have h6 := ha.1
  have hf : 1 ≤ f ∧ f ≤ 5 := by omega
  have e0 : putA a (14 + 6 * f + m) v 0 = a 0 := putA_n a (by omega)
  refine ⟨by rw [e0]; exact h6, by rw [putA_n a (by omega)]; exact ha.2.1, fun k => ?_, fun x hx => ?_⟩
  · unfold putA
    have := ha.2.2.1 k
    split <;> omega
  · rw [e0] at hx ⊢
    obtain ⟨w1, w2, w3, w4, w5, w6, w7⟩ := ha.2.2.2 x hx
    rw [putA_n a (show 2 + 3 * x ≠ 14 + 6 * f + m by omega), putA_n a (show 3 + 3 * x ≠ 14 + 6 * f + m by omega), putA_n a (show 4 + 3 * x ≠ 14 + 6 * f + m by omega)]
    refine ⟨w1, w2, ?_⟩
    by_cases z : x = m
    · subst z
      rcases h with ⟨rfl, h⟩ | ⟨rfl, h⟩ | ⟨rfl, h⟩ | rfl | ⟨rfl, h⟩
      · rw [show putA a (14 + 6 * 1 + x) v (20 + x) = v from putA_p a _ v, putA_n a (by omega), putA_n a (by omega), putA_n a (by omega)]
        exact ⟨h, w4, w5, w6, w7⟩
      · rw [putA_n a (by omega), show putA a (14 + 6 * 2 + x) v (26 + x) = v from putA_p a _ v, putA_n a (by omega), putA_n a (by omega)]
        exact ⟨w3, h, w5, w6, w7⟩
      · rw [putA_n a (by omega), putA_n a (by omega), show putA a (14 + 6 * 3 + x) v (32 + x) = v from putA_p a _ v, putA_n a (by omega)]
        exact ⟨w3, h.2.2, h.1, h.2.1, w7⟩
      · rw [putA_n a (by omega), putA_n a (by omega), putA_n a (by omega), putA_n a (by omega)]
        exact ⟨w3, w4, w5, w6, w7⟩
      · rw [putA_n a (by omega), putA_n a (by omega), putA_n a (by omega), show putA a (14 + 6 * 5 + x) v (44 + x) = v from putA_p a _ v]
        exact ⟨w3, w4, w5, w6, h⟩
    · rw [putA_n a (by omega), putA_n a (by omega), putA_n a (by omega), putA_n a (by omega)]
      exact ⟨w3, w4, w5, w6, w7⟩
theorem stC.putf {σ σ1 σ2 : Sg} {hn' : Nat} {pa' : Nat → Nat → Nat} {a : Nat → Nat} {m f v : Nat} (h : stC σ σ1 hn' pa' a) (hm : m < a 0) (hf : 1 ≤ f ∧ f ≤ 5) (e : σ2 = setI σ1 (σ1.2.2 6 m) f (nI v)) (hwf : wfA (putA a (14 + 6 * f + m) v)) : stC σ σ2 hn' pa' (putA a (14 + 6 * f + m) v) := by
  obtain ⟨c1, c2, c3, c4, c5, c6, c7⟩ := h
  have h6 := c7.1
  have hq : 8 ≤ σ1.2.2 6 m ∧ σ1.2.2 6 m ≤ 13 := c6.1 m (by omega)
  have r2 : σ2.2 = σ1.2 := by rw [e]; rfl
  have i2 : ∀ k, k ≠ σ1.2.2 6 m → σ2.1 k = σ1.1 k := fun k hk => by rw [e]; exact upd_row hk
  have hg : ∀ m', m' < a 0 → ∀ g, 1 ≤ g → g ≤ 5 → σ1.1 (σ1.2.2 6 m') g = nI (a (14 + 6 * g + m')) → σ2.1 (σ1.2.2 6 m') g = nI (putA a (14 + 6 * f + m) v (14 + 6 * g + m')) := by
    intro m' hm' g g1 g5 e0
    rw [e, setI_1]
    by_cases z : m' = m ∧ g = f
    · rw [if_pos ⟨by rw [z.1], z.2⟩, z.1, z.2, putA_p]
    · rw [if_neg (fun w => z ⟨c6.2 m' m (by omega) (by omega) w.1, w.2⟩), putA_n a (by omega), e0]
  refine ⟨fun k hk => ⟨by rw [i2 k (by omega)]; exact (c1 k hk).1, by rw [r2]; exact (c1 k hk).2⟩, c2.fr (fun k _ _ => ⟨i2 k (by omega), by rw [r2]⟩), by rw [i2 90 (by omega)]; exact c3, by rw [i2 97 (by omega)]; exact c4, ⟨?_, ?_, fun x hx => ?_⟩, c6.row (by rw [r2]), hwf⟩
  · rw [i2 5 (by omega), putA_n a (by omega)]; exact c5.1
  · rw [i2 5 (by omega), putA_n a (by omega)]; exact c5.2.1
  · rw [putA_n a (by omega)] at hx
    obtain ⟨b0, b1, b2, b3, b4, b5⟩ := c5.2.2 x hx
    rw [r2]
    refine ⟨?_, hg x hx 1 (by decide) (by decide) b1, hg x hx 2 (by decide) (by decide) b2, hg x hx 3 (by decide) (by decide) b3, hg x hx 4 (by decide) (by decide) b4, hg x hx 5 (by decide) (by decide) b5⟩
    have e1 : wdN (putA a (14 + 6 * f + m) v) x = wdN a x := by
      unfold wdN
      rw [putA_n a (by omega), putA_n a (by omega), putA_n a (by omega)]
    rw [e1, e, setI_1, if_neg (fun w => by omega)]
    exact b0
def wb (x b on : Nat) : Nat := if on = 1 then x ||| 2 ^ b else if x.testBit b then x - 2 ^ b else x
theorem wb_c : ∀ x, x < 64 → ∀ b, b < 6 → ((nI x &&& (((1 : Int32) <<< (nI b &&& 31)) ^^^ (-1 : Int32))) ||| (nI 0 <<< (nI b &&& 31)) = nI (wb x b 0)) ∧ ((nI x &&& (((1 : Int32) <<< (nI b &&& 31)) ^^^ (-1 : Int32))) ||| (nI 1 <<< (nI b &&& 31)) = nI (wb x b 1)) ∧ (nI x &&& (((1 : Int32) <<< (nI b &&& 31)) ^^^ (-1 : Int32)) = nI (wb x b 0)) ∧ (nI x ||| ((1 : Int32) <<< (nI b &&& 31)) = nI (wb x b 1)) := by decide +kernel
theorem wb_lt : ∀ c, c < 7 → ∀ x, x < 64 → ∀ b, b < c → x < 2 ^ c → wb x b 0 < 2 ^ c ∧ wb x b 1 < 2 ^ c := by decide +kernel
theorem op_rule {σ : Sg} (h : R σ) (x y z : Int32) {post : Int32 → Sg → Prop} (hp : ∀ r σ1, (∀ post2 : Int32 → Sg → Prop, (∀ σ2, R σ2 → post2 r σ2) → wpX7_rule x y z σ1 post2) → post r σ1) : wpX6_rule x y z σ post := by
  obtain ⟨a, tx, n, hn, pa, ke, im, h⟩ := h
  have ha := h.1.1.1
  have h6 := ha.1
  have hp6 := pow_le6 h6
  have hW := h.1.2.2.2.2.1
  have hD := h.1.1.2.2.1
  unfold wpX6_rule
  refine v_has ha hD.1 x (fun m hm ex => ⟨fun w => absurd w (by decide), fun _ => v_has ha hD.1 y (fun b hb ey => ⟨fun w => absurd w (by decide), fun _ => ⟨fun c => ?_, fun c => ?_⟩⟩) (fun hno => ⟨fun _ => ?_, fun w => absurd rfl w⟩)⟩) (fun hno => ⟨fun _ => ?_, fun w => absurd rfl w⟩)
  · refine hp _ _ (fun post2 h2 => ?_)
    unfold wpX7_rule
    refine m_isMember ha hW x (fun _ _ _ => ⟨fun w => absurd w (by decide), fun _ => m_isMember ha hW y (fun _ _ _ => ⟨fun w => absurd w (by decide), fun _ => ⟨fun _ => h2 σ h.r, fun w => absurd c w⟩⟩) (fun hno => absurd ey (hno b hb))⟩) (fun hno => absurd ex (hno m hm))
  · have hbad : (z < 0 ∨ 1 < z) → post (-1) σ := fun cc => hp _ _ (fun post2 h2 => by
      unfold wpX7_rule wpX7_isIn
      refine m_isMember ha hW x (fun _ _ _ => ⟨fun w => absurd w (by decide), fun _ => m_isMember ha hW y (fun _ _ _ => ⟨fun w => absurd w (by decide), fun _ => ⟨fun w => absurd w c, fun _ => ⟨fun _ => ⟨fun w => absurd rfl w, fun _ => h2 σ h.r⟩, fun c1 => ⟨fun _ => ⟨fun w => absurd rfl w, fun _ => h2 σ h.r⟩, fun c2 => ?_⟩⟩⟩⟩) (fun hno => absurd ey (hno b hb))⟩) (fun hno => absurd ex (hno m hm))
      rcases cc with cc | cc
      · exact absurd cc c1
      · exact absurd cc c2)
    refine ⟨fun c1 => hbad (Or.inl c1), fun c1 => ⟨fun c2 => ?_, fun c2 => hbad (Or.inr (by rw [Int32.not_le] at c2; exact c2))⟩⟩
    obtain ⟨on, hon, rfl⟩ := nI_of2 (M := 1) (n := 1) (by decide) c1 c2
    subst ex
    subst ey
    refine q_begin h (fun σ1 f1 c1 => v_at1 k51 (by omega) (fun _ => ?_))
    have hbm := c1.2.2.2.2.1.2.2 m hm
    have hb5 := hbm.2.2.2.2.2
    have hlt := (ha.2.2.2 m hm).2.2.2.2.2.2
    rw [hb5]
    refine v_bitOf (by omega) (by omega) ?_
    unfold wpX6_withBit
    rw [hb5]
    intro σ2 e2
    have hwb := wb_c (a (44 + m)) (by omega) b (by omega)
    have hwl := wb_lt (a 0) (by omega) (a (44 + m)) (by omega) b hb hlt
    have e3 : (nI (a (44 + m)) &&& (((1 : Int32) <<< (nI b &&& 31)) ^^^ (-1 : Int32))) ||| (nI on <<< (nI b &&& 31)) = nI (wb (a (44 + m)) b on) := by
      rcases (show on = 0 ∨ on = 1 by omega) with rfl | rfl
      · exact hwb.1
      · exact hwb.2.1
    rw [e3] at e2
    have hvl : wb (a (44 + m)) b on < 2 ^ a 0 := by
      rcases (show on = 0 ∨ on = 1 by omega) with rfl | rfl
      · exact hwl.1
      · exact hwl.2
    have hwf := putA_wf (f := 5) ha hm (v := wb (a (44 + m)) b on) (by omega) (Or.inr (Or.inr (Or.inr (Or.inr ⟨rfl, hvl⟩))))
    have hst := c1.putf (f := 5) hm (by decide) e2 hwf
    refine hp _ _ (fun post2 h2 => ?_)
    have up : ∀ k, 98 < k → σ2.1 k = σ.1 k := fun k hk => (hst.1 k (by omega)).1
    have hW2 : repW σ2 a := by unfold repW; rw [up 118 (by decide)]; exact hW
    unfold wpX7_rule
    refine m_isMember ha hW2 (nI m) (fun _ _ _ => ⟨fun w => absurd w (by decide), fun _ => m_isMember ha hW2 (nI b) (fun _ _ _ => ⟨fun w => absurd w (by decide), fun _ => ⟨fun w => absurd w c, fun _ => m_isIm (nI on) (fun _ _ _ => ⟨fun _ => q_remember h up (fun σ3 hW3 m3 => ?_), fun w => absurd w (by decide)⟩) (fun hno => absurd rfl (hno on (by omega)))⟩⟩) (fun hno => absurd rfl (hno b hb))⟩) (fun hno => absurd rfl (hno m hm))
    rw [show (44 : Int32) + nI m = nI (44 + m) from nI_add 44 m]
    refine ⟨pk_in (44 + m) 50 (by omega), ?_⟩
    rw [nI_clamp (by omega), hW3 _ (by omega)]
    have hfin : ∀ y0, y0 = nI (if (a (44 + m)).testBit b then 1 else 0) → BX7_rule_57 (nI m) (nI b) (nI on) post2 y0 σ3 := by
      intro y0 hy
      unfold BX7_rule_57
      rw [show (44 : Int32) + nI m = nI (44 + m) from nI_add 44 m, nI_clamp (show 44 + m < 2 ^ 31 by omega), hW3 _ (by omega)]
      refine ⟨fun w => ⟨pk_in (44 + m) 50 (by omega), pk_in (44 + m) 50 (by omega), fun σ4 e4 => ?_⟩, fun w => ⟨pk_in (44 + m) 50 (by omega), pk_in (44 + m) 50 (by omega), fun σ4 e4 => ?_⟩⟩
      · have ho : on = 0 := by
          rcases (show on = 0 ∨ on = 1 by omega) with q | q
          · exact q
          · exact absurd (by rw [q]; rfl) w
        subst ho
        rw [hwb.2.2.1] at e4
        rw [hy]; exact h2 σ4 (h.fin hst (m3.put e4)).r
      · have ho : on = 1 := (nI_eq (b := 1) (by omega) (by decide)).mp w
        subst ho
        rw [hwb.2.2.2] at e4
        rw [hy]; exact h2 σ4 (h.fin hst (m3.put e4)).r
    refine m_has (by omega) (by omega) (bI_0 _ (fun e => hfin _ ?_) (fun e => hfin _ ?_))
    · rw [if_neg (by rw [e]; decide)]; rfl
    · rw [if_pos e]; rfl
  · refine hp _ _ (fun post2 h2 => ?_)
    unfold wpX7_rule
    exact m_isMember ha hW x (fun _ _ _ => ⟨fun w => absurd w (by decide), fun _ => m_isMember ha hW y (fun b hb e => absurd e (hno b hb)) (fun _ => ⟨fun _ => h2 σ h.r, fun w => absurd rfl w⟩)⟩) (fun hno => absurd ex (hno m hm))
  · refine hp _ _ (fun post2 h2 => ?_)
    unfold wpX7_rule
    exact m_isMember ha hW x (fun m hm e => absurd e (hno m hm)) (fun _ => ⟨fun _ => h2 σ h.r, fun w => absurd rfl w⟩)
