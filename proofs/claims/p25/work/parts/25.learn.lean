/-! the class's reading tables -/
theorem setI_1 (σ : Sg) (k j : Nat) (v : Int32) (k' j' : Nat) : (setI σ k j v).1 k' j' = if k' = k ∧ j' = j then v else σ.1 k' j' := rfl
theorem setI_2 (σ : Sg) (k j : Nat) (v : Int32) : (setI σ k j v).2 = σ.2 := rfl
theorem setL_1 (σ : Sg) (k j : Nat) (v : Int64) : (setL σ k j v).1 = σ.1 := rfl
theorem setL_2 (σ : Sg) (k j : Nat) (v : Int64) (k' j' : Nat) : (setL σ k j v).2.1 k' j' = if k' = k ∧ j' = j then v else σ.2.1 k' j' := rfl
theorem setL_3 (σ : Sg) (k j : Nat) (v : Int64) : (setL σ k j v).2.2 = σ.2.2 := rfl
/-- rows outside lo .. hi stay -/
def frR (lo hi : Nat) (σ σ' : Sg) : Prop := ∀ k, (k < lo ∨ hi < k) → σ'.1 k = σ.1 k ∧ σ'.2.1 k = σ.2.1 k ∧ σ'.2.2 k = σ.2.2 k
theorem frR.rf {lo hi : Nat} {σ : Sg} : frR lo hi σ σ := fun _ _ => ⟨rfl, rfl, rfl⟩
theorem frR.tr {lo hi : Nat} {σ σ1 σ2 : Sg} (h1 : frR lo hi σ σ1) (h2 : frR lo hi σ1 σ2) : frR lo hi σ σ2 := fun k hk => ⟨(h2 k hk).1.trans (h1 k hk).1, (h2 k hk).2.1.trans (h1 k hk).2.1, (h2 k hk).2.2.trans (h1 k hk).2.2⟩
theorem frR.wk {lo hi lo' hi' : Nat} {σ σ1 : Sg} (h : frR lo hi σ σ1) (h1 : lo' ≤ lo) (h2 : hi ≤ hi') : frR lo' hi' σ σ1 := fun k hk => h k (by omega)
theorem frR.i {lo hi : Nat} {σ σ1 : Sg} (h : frR lo hi σ σ1) {k : Nat} (j : Nat) (v : Int32) (hk : lo ≤ k ∧ k ≤ hi) : frR lo hi σ (setI σ1 k j v) := fun q hq => by
  obtain ⟨h1, h2, h3⟩ := h q hq
  refine ⟨?_, h2, h3⟩
  rw [← h1]
  exact upd2_ne (by omega)
theorem frR.l {lo hi : Nat} {σ σ1 : Sg} (h : frR lo hi σ σ1) {k : Nat} (j : Nat) (v : Int64) (hk : lo ≤ k ∧ k ≤ hi) : frR lo hi σ (setL σ1 k j v) := fun q hq => by
  obtain ⟨h1, h2, h3⟩ := h q hq
  refine ⟨h1, ?_, h3⟩
  rw [← h2]
  exact upd2_ne (by omega)
/-- what the class's reading methods rest on: the present declarations and the text -/
def ctxN (σ : Sg) (a tx : Nat → Nat) (n : Nat) : Prop := wfA a ∧ wfT tx n ∧ repD σ 5 a ∧ repT σ 1 tx n ∧ (∀ m, m < 6 → 8 ≤ σ.2.2 6 m ∧ σ.2.2 6 m ≤ 13)
theorem ctxN.fr {σ σ' : Sg} {a tx : Nat → Nat} {n lo hi : Nat} (h : ctxN σ a tx n) (hf : frR lo hi σ σ') (hlo : 14 ≤ lo) : ctxN σ' a tx n := by
  obtain ⟨ha, hT, hD, hR, hM⟩ := h
  have e : ∀ k, k < 14 → σ'.1 k = σ.1 k := fun k hk => (hf k (by omega)).1
  have e6 : σ'.2.2 6 = σ.2.2 6 := (hf 6 (by omega)).2.2
  refine ⟨ha, hT, ⟨?_, ?_, ?_⟩, ⟨?_, ?_⟩, ?_⟩
  · rw [e 5 (by decide)]; exact hD.1
  · rw [e 5 (by decide)]; exact hD.2.1
  · intro m hm
    have hm6 := ha.1
    have h1 := hM m (by omega)
    have h2 := hD.2.2 m hm
    show repMb σ' (σ'.2.2 6 m) a m
    rw [e6]
    unfold repMb at h2 ⊢
    rw [e _ (by omega)]
    exact h2
  · rw [e 1 (by decide)]; exact hR.1
  · intro j hj
    rw [e (1 + 1) (by decide)]
    exact hR.2 j hj
  · rw [e6]; exact hM
theorem v_rEndOf {t : Nat} (ht : t < 4096) {σ : Sg} {post : Int32 → Sg → Prop} (h : post (σ.1 91 t) σ) : wpX5_endOf (nI t) σ post := by
  unfold wpX5_endOf
  refine ⟨fun c => absurd c (nI_pos (by omega)), fun _ => pk_le 4096 t (fun c => by omega) (fun _ => ⟨pk_in t 4096 ht, ?_⟩)⟩
  rw [nI_clamp (by omega)]; exact h
theorem v_stepsFrom {t : Nat} (ht : t < 4096) {σ : Sg} {post : Int32 → Sg → Prop} (h : post (σ.1 92 t) σ) : wpX5_stepsFrom (nI t) σ post := by
  unfold wpX5_stepsFrom
  refine ⟨fun c => absurd c (nI_pos (by omega)), fun _ => pk_le 4096 t (fun c => by omega) (fun _ => ⟨pk_in t 4096 ht, ?_⟩)⟩
  rw [nI_clamp (by omega)]; exact h
theorem v_waysFrom {t : Nat} (ht : t < 4096) {σ : Sg} {post : Int64 → Sg → Prop} (h : post (σ.2.1 93 t) σ) : wpX5_waysFrom (nI t) σ post := by
  unfold wpX5_waysFrom
  refine ⟨fun c => absurd c (nI_pos (by omega)), fun _ => pk_le 4096 t (fun c => by omega) (fun _ => ⟨pk_in t 4096 ht, ?_⟩)⟩
  rw [nI_clamp (by omega)]; exact h
theorem f10 : s_fin 1 0 = 1 + 1 := by decide
theorem k51 : s_kd 5 = 1 := by decide
theorem v_startBehind {σ : Sg} {a tx : Nat → Nat} {n t p : Nat} (hc : ctxN σ a tx n) (ht : t < 4096) (hp : p ≤ n) (he : σ.1 91 t = nI p) {post : Int32 → Sg → Prop} (h : post (oI (stP a tx n t p)) σ) : wpX5_startBehind (nI t) σ post := by
  obtain ⟨ha, hT, hD, hR, hM⟩ := hc
  have hn := hT.1
  have hsep := ha.2.1
  unfold wpX5_startBehind
  refine v_rEndOf ht ?_
  rw [he]
  unfold stP at h
  refine pk_eq t 0 (fun c => ?_) (fun c => ?_)
  · rw [if_pos (Or.inl c)] at h
    exact h
  · rw [hD.2.1]
    refine ⟨fun c2 => ?_, fun c2 => ?_⟩
    · have c3 : a 1 ≠ 0 := fun z => by rw [z] at c2; exact c2 rfl
      rw [if_neg (by omega)] at h
      refine v_at f10 hn hR (by omega) ?_
      rw [hD.2.1]
      unfold cI
      by_cases q : p < n
      · rw [if_pos q]
        have := hT.2 p
        by_cases q2 : tx p = a 1
        · rw [if_pos ⟨q, q2⟩] at h
          rw [q2]
          exact ⟨fun z => absurd rfl z, fun _ => by rw [show nI p + (1 : Int32) = nI (p + 1) from nI_1 p]; exact h⟩
        · rw [if_neg (fun z => q2 z.2)] at h
          exact ⟨fun _ => h, fun z => absurd ((nI_eq (by omega) (by omega)).mp z) q2⟩
      · rw [if_neg q]
        rw [if_neg (fun z => q z.1)] at h
        exact ⟨fun _ => h, fun z => absurd z (fun z => (nI_m9 (by omega)).mp z)⟩
    · have c3 : a 1 = 0 := (nI_eq (by omega) (by omega)).mp (c2.trans nI_0.symm)
      rw [if_pos (Or.inr c3)] at h
      exact h
theorem v_fs68 {t k acc e : Nat} {K31 : Int32 → Int32 → Int32 → Int32 → Sg → Prop} {post : Int32 → Sg → Prop} {x4 x5 : Int32} {σ : Sg} (hk : k < 6) (he : e < 2 ^ 31) (h0 : e = 0 → K31 x4 x5 (nI acc) (nI (k + 1)) σ) (h1 : e ≠ 0 → t + 4 ^ k < 4096 ∧ K31 x4 x5 (nI acc ||| ((1 : Int32) <<< (nI k &&& 31))) (nI (k + 1)) (setI σ 91 (t + 4 ^ k) (nI e))) : BX5_findSteps_68 (nI t) K31 post x4 x5 (nI acc) (nI k) (eI e) σ := by
  unfold BX5_findSteps_68
  refine v_withOneMore (by omega) ?_
  rw [nI_1]
  unfold eI
  by_cases z : e = 0
  · rw [if_pos z]
    exact ⟨fun _ => h0 z, fun c => absurd (by decide) c⟩
  · rw [if_neg z]
    obtain ⟨h2, h3⟩ := h1 z
    refine ⟨fun c => absurd c (nI_pos he), fun _ => ⟨fun c => absurd c (nI_pos (by omega)), fun _ => pk_le 4096 (t + 4 ^ k) (fun c => by omega) (fun _ => ⟨pk_in (t + 4 ^ k) 4096 h2, ?_⟩)⟩⟩
    intro σ1 e1
    rw [nI_clamp (by omega)] at e1
    subst e1
    exact h3
/-- the beginnings whose last step is from a tally below u, or from u with a member below k -/
def RcS (a tx : Nat → Nat) (n u k s p : Nat) : Prop := (s = 0 ∧ p = 0) ∨ ∃ m t' p', m < a 0 ∧ Rc a tx n t' p' ∧ (t' < u ∨ (t' = u ∧ m < k)) ∧ nxP a tx n t' p' m = p ∧ p ≠ 0 ∧ s = t' + 4 ^ m
theorem RcS.rc {a tx : Nat → Nat} {n u k s p : Nat} (h : RcS a tx n u k s p) : Rc a tx n s p := by
  rcases h with ⟨rfl, rfl⟩ | ⟨m, t', p', hm, h1, _, h2, h3, rfl⟩
  · exact Rc.zero
  · exact h1.step hm h2 h3
theorem RcS.of {a tx : Nat → Nat} {n u k s p : Nat} (h : Rc a tx n s p) (hs : s ≤ u) : RcS a tx n u k s p := by
  rcases h.last with h | ⟨m, t', p', hm, h1, h2, h3, rfl⟩
  · exact Or.inl h
  · exact Or.inr ⟨m, t', p', hm, h1, Or.inl (by have : 0 < 4 ^ m := Nat.pow_pos (by decide); omega), h2, h3, rfl⟩
def EnI (σ : Sg) (a tx : Nat → Nat) (n u k : Nat) : Prop := ∀ s, s < 4 ^ a 0 → (∀ p, RcS a tx n u k s p → σ.1 91 s = nI p) ∧ ((∀ p, ¬ RcS a tx n u k s p) → σ.1 91 s = -9)
theorem EnI.at {σ : Sg} {a tx : Nat → Nat} {n u k t : Nat} (ha : wfA a) (h : EnI σ a tx n u k) (ht : t ≤ u) (hl : t < 4 ^ a 0) : σ.1 91 t = oI (eT a tx n t) := by
  obtain ⟨h1, h2⟩ := h t hl
  by_cases q : ∃ p, Rc a tx n t p
  · obtain ⟨p, hp⟩ := q
    rw [eT_of ha hp, h1 p (RcS.of hp ht)]
    rfl
  · rw [eT_no q]
    exact h2 (fun p hp => q ⟨p, hp.rc⟩)
theorem EnI.skip {σ : Sg} {a tx : Nat → Nat} {n u k p : Nat} (ha : wfA a) (h : EnI σ a tx n u k) (hu : Rc a tx n u p) (hz : nxP a tx n u p k = 0) : EnI σ a tx n u (k + 1) := by
  have key : ∀ s q, RcS a tx n u (k + 1) s q → RcS a tx n u k s q := by
    intro s q hq
    rcases hq with hq | ⟨m, t', p', hm, h1, h2, h3, h4, h5⟩
    · exact Or.inl hq
    · refine Or.inr ⟨m, t', p', hm, h1, ?_, h3, h4, h5⟩
      rcases h2 with h2 | ⟨rfl, h2⟩
      · exact Or.inl h2
      · right
        refine ⟨rfl, ?_⟩
        rcases Nat.lt_or_ge m k with z | z
        · exact z
        · have : m = k := by omega
          subst this
          rw [Rc.uniq ha h1 hu] at h3
          rw [hz] at h3
          exact absurd h3.symm h4
  have key2 : ∀ s q, RcS a tx n u k s q → RcS a tx n u (k + 1) s q := by
    intro s q hq
    rcases hq with hq | ⟨m, t', p', hm, h1, h2, h3⟩
    · exact Or.inl hq
    · exact Or.inr ⟨m, t', p', hm, h1, by omega, h3⟩
  intro s hs
  obtain ⟨h1, h2⟩ := h s hs
  exact ⟨fun q hq => h1 q (key s q hq), fun hn => h2 (fun q hq => hn q (key2 s q hq))⟩
theorem EnI.put {σ : Sg} {a tx : Nat → Nat} {n u k p e : Nat} (ha : wfA a) (h : EnI σ a tx n u k) (hu : Rc a tx n u p) (hk : k < a 0) (he : nxP a tx n u p k = e) (h0 : e ≠ 0) : EnI (setI σ 91 (u + 4 ^ k) (nI e)) a tx n u (k + 1) := by
  have hst := hu.step hk he h0
  intro s hs
  obtain ⟨h1, h2⟩ := h s hs
  by_cases q : s = u + 4 ^ k
  · subst q
    refine ⟨fun q hq => ?_, fun hn => ?_⟩
    · rw [setI_1, if_pos ⟨rfl, rfl⟩, Rc.uniq ha hq.rc hst]
    · exact absurd (Or.inr ⟨k, u, p, hk, hu, Or.inr ⟨rfl, by omega⟩, he, h0, rfl⟩) (hn e)
  · have key : ∀ q, RcS a tx n u (k + 1) s q → RcS a tx n u k s q := by
      intro q hq
      rcases hq with hq | ⟨m, t', p', hm, g1, g2, g3, g4, g5⟩
      · exact Or.inl hq
      · refine Or.inr ⟨m, t', p', hm, g1, ?_, g3, g4, g5⟩
        rcases g2 with g2 | ⟨rfl, g2⟩
        · exact Or.inl g2
        · right
          refine ⟨rfl, ?_⟩
          rcases Nat.lt_or_ge m k with z | z
          · exact z
          · have : m = k := by omega
            subst this
            exact absurd g5 q
    have key2 : ∀ q, RcS a tx n u k s q → RcS a tx n u (k + 1) s q := by
      intro q hq
      rcases hq with hq | ⟨m, t', p', hm, g1, g2, g3⟩
      · exact Or.inl hq
      · exact Or.inr ⟨m, t', p', hm, g1, by omega, g3⟩
    rw [setI_1, if_neg (fun z => q z.2)]
    exact ⟨fun q hq => h1 q (key q hq), fun hn => h2 (fun q hq => hn q (key2 q hq))⟩
theorem EnI.next {σ : Sg} {a tx : Nat → Nat} {n u : Nat} (h : EnI σ a tx n u (a 0)) : EnI σ a tx n (u + 1) 0 := by
  have key : ∀ s q, RcS a tx n (u + 1) 0 s q ↔ RcS a tx n u (a 0) s q := by
    intro s q
    constructor
    · rintro (hq | ⟨m, t', p', hm, g1, g2, g3⟩)
      · exact Or.inl hq
      · exact Or.inr ⟨m, t', p', hm, g1, by omega, g3⟩
    · rintro (hq | ⟨m, t', p', hm, g1, g2, g3⟩)
      · exact Or.inl hq
      · exact Or.inr ⟨m, t', p', hm, g1, by omega, g3⟩
  intro s hs
  obtain ⟨h1, h2⟩ := h s hs
  exact ⟨fun q hq => h1 q ((key s q).mp hq), fun hn => h2 (fun q hq => hn q ((key s q).mpr hq))⟩
theorem EnI.none {σ : Sg} {a tx : Nat → Nat} {n u : Nat} (h : EnI σ a tx n u 0) (hu : ¬ ∃ p, Rc a tx n u p) : EnI σ a tx n (u + 1) 0 := by
  have key : ∀ s q, RcS a tx n (u + 1) 0 s q ↔ RcS a tx n u 0 s q := by
    intro s q
    constructor
    · rintro (hq | ⟨m, t', p', hm, g1, g2, g3⟩)
      · exact Or.inl hq
      · refine Or.inr ⟨m, t', p', hm, g1, ?_, g3⟩
        rcases g2 with g2 | g2
        · rcases Nat.lt_or_ge t' u with z | z
          · exact Or.inl z
          · have : t' = u := by omega
            subst this
            exact absurd ⟨p', g1⟩ hu
        · omega
    · rintro (hq | ⟨m, t', p', hm, g1, g2, g3⟩)
      · exact Or.inl hq
      · exact Or.inr ⟨m, t', p', hm, g1, by omega, g3⟩
  intro s hs
  obtain ⟨h1, h2⟩ := h s hs
  exact ⟨fun q hq => h1 q ((key s q).mp hq), fun hn => h2 (fun q hq => hn q ((key s q).mpr hq))⟩
theorem v_findSteps {σ : Sg} {a tx : Nat → Nat} {n t p : Nat} (hc : ctxN σ a tx n) (ht : t < 4 ^ a 0) (hp : Rc a tx n t p) (hE : EnI σ a tx n t 0) {post : Int32 → Sg → Prop} (h : ∀ σ', frR 91 91 σ σ' → EnI σ' a tx n (t + 1) 0 → post (nI (sT a tx n t)) σ') : wpX5_findSteps (nI t) σ post := by
  have ha := hc.1
  have hT := hc.2.1
  have hn := hT.1
  have h6 := ha.1
  have h4 := pow4_le h6
  have hpn := (hp.J ha).2.2.2.2.2.2.2.1
  have heT := eT_of ha hp
  have hsT : sT a tx n t = sN (fun m => decide (nxP a tx n t p m ≠ 0)) (a 0) := by
    unfold sT
    rw [heT, if_neg (by omega), Nat.add_sub_cancel]
  unfold wpX5_findSteps
  refine v_startBehind hc (by omega) hpn (by rw [hE.at ha (Nat.le_refl t) ht, heT]; rfl) ?_
  have hst : stP a tx n t p ≤ n + 1 := by unfold stP; split <;> (try split) <;> omega
  obtain ⟨F, hFe⟩ : ∃ F, F = (if stP a tx n t p = 0 then 0 else sN (mayB a t) (a 0)) := ⟨_, rfl⟩
  -- the loop over the members
  have key : ∀ r k σ1, k + r = a 0 → frR 91 91 σ σ1 → EnI σ1 a tx n t k → BX5_findSteps_31 (nI t) post (r + 1) (oI (stP a tx n t p)) (nI F) (nI (sN (fun m => decide (nxP a tx n t p m ≠ 0)) k)) (nI k) σ1 := by
    intro r
    induction r with
    | zero =>
      intro k σ1 hk hf hE1
      have hc1 := hc.fr hf (by decide)
      rw [BX5_findSteps_31, hc1.2.2.1.1]
      refine pk_le (a 0) k (fun _ => ?_) (fun c => by omega)
      have hk0 : k = a 0 := by omega
      subst hk0
      rw [← hsT]
      exact h σ1 hf hE1.next
    | succ r ih =>
      intro k σ1 hk hf hE1
      have hc1 := hc.fr hf (by decide)
      obtain ⟨-, -, hD, hR, hM⟩ := hc1
      rw [BX5_findSteps_31, hD.1]
      refine pk_le (a 0) k (fun c => by omega) (fun c => ?_)
      have hF : F < 64 := by
        have := pow_le6 h6
        have := sN_lt (mayB a t) (a 0)
        rw [hFe]
        split <;> omega
      refine v_bitOf (by omega) (by omega) ?_
      have hgo : ∀ e, e = nxP a tx n t p k → BX5_findSteps_68 (nI t) (BX5_findSteps_31 (nI t) post (r + 1)) post (oI (stP a tx n t p)) (nI F) (nI (sN (fun m => decide (nxP a tx n t p m ≠ 0)) k)) (nI k) (eI e) σ1 := by
        intro e he
        have hele : e ≤ n := by
          by_cases z : e = 0
          · omega
          · have := enP_in (a := a) (tx := tx) (n := n) (m := k) (p := stP a tx n t p - 1) ha c (by
              rw [(nx_may he.symm z).2.2]; exact z)
            rw [(nx_may he.symm z).2.2] at this
            exact this.2
        refine v_fs68 (by omega) (by omega) (fun z => ?_) (fun z => ⟨?_, ?_⟩)
        · have h2 := ih (k + 1) σ1 (by omega) hf (hE1.skip ha hp (by rw [← he]; exact z))
          rw [sN_1, if_neg (by simp [← he, z]), Nat.add_zero] at h2
          exact h2
        · have := (nx_lt ha ht c (by rw [← he]; exact z)).1
          omega
        · have h2 := ih (k + 1) (setI σ1 91 (t + 4 ^ k) (nI e)) (by omega) (hf.i _ _ (by decide)) (hE1.put ha hp c he.symm z)
          rw [sN_1, if_pos (by simp [← he, z])] at h2
          rw [sN_set (by omega)]
          exact h2
      by_cases hb : F.testBit k = true
      · rw [if_pos hb]
        have hb2 : stP a tx n t p ≠ 0 ∧ mayB a t k = true := by
          rw [hFe] at hb
          by_cases z : stP a tx n t p = 0
          · rw [if_pos z, Nat.zero_testBit] at hb; cases hb
          · rw [if_neg z, sN_bit, decide_eq_true c, Bool.true_and] at hb
            exact ⟨z, hb⟩
        refine ⟨fun z => absurd rfl z, fun _ => v_at1 k51 (by omega) (fun _ => ?_)⟩
        rw [show oI (stP a tx n t p) = nI (stP a tx n t p - 1) from by unfold oI; rw [if_neg hb2.1]]
        refine v_endOf f10 ha hT c hR (hD.2.2 k c) (by omega) ?_
        have h3 := hgo (enP a tx n k (stP a tx n t p - 1)) (by unfold nxP; rw [if_pos ⟨hb2.2, hb2.1⟩])
        rw [show oI (stP a tx n t p) = nI (stP a tx n t p - 1) from by unfold oI; rw [if_neg hb2.1]] at h3
        exact h3
      · rw [if_neg hb]
        refine ⟨fun _ => ?_, fun z => absurd z (by decide)⟩
        have h3 := hgo 0 (by
          unfold nxP
          rw [if_neg]
          rintro ⟨z1, z2⟩
          apply hb
          rw [hFe, if_neg z2, sN_bit, decide_eq_true c, z1]; rfl)
        exact h3
  by_cases z : stP a tx n t p = 0
  · have h2 := key (a 0) 0 σ (by omega) frR.rf hE
    rw [hFe, if_pos z, z] at h2
    rw [z]
    exact ⟨fun _ => ⟨_, h2⟩, fun c => absurd (by decide) c⟩
  · rw [show oI (stP a tx n t p) = nI (stP a tx n t p - 1) from by unfold oI; rw [if_neg z]]
    refine ⟨fun c => absurd c (nI_pos (by omega)), fun _ => v_followers k51 ha (by omega) hc.2.2.1 ?_⟩
    have h2 := key (a 0) 0 σ (by omega) frR.rf hE
    rw [hFe, if_neg z, show oI (stP a tx n t p) = nI (stP a tx n t p - 1) from by unfold oI; rw [if_neg z]] at h2
    exact ⟨_, h2⟩
