theorem EnI.row {σ σ' : Sg} {a tx : Nat → Nat} {n u k : Nat} (h : EnI σ a tx n u k) (he : σ'.1 91 = σ.1 91) : EnI σ' a tx n u k := by
  intro s hs
  rw [he]
  exact h s hs
theorem upd_row {σ : Sg} {k j q : Nat} {v : Int32} (h : q ≠ k) : (setI σ k j v).1 q = σ.1 q := upd2_ne h
theorem v_findEnds {σ : Sg} {a tx : Nat → Nat} {n : Nat} (hc : ctxN σ a tx n) {post : Sg → Prop} (h : ∀ σ', frR 91 92 σ σ' → (∀ s, s < 4 ^ a 0 → σ'.1 91 s = oI (eT a tx n s)) → (∀ s, s < 4 ^ a 0 → σ'.1 92 s = nI (sT a tx n s)) → post σ') : wpX5_findEnds σ post := by
  have ha := hc.1
  have h6 := ha.1
  have h4 := pow4_le h6
  have hp4 : 0 < 4 ^ a 0 := Nat.pow_pos (by decide)
  unfold wpX5_findEnds
  refine v_tallies ha hc.2.2.1.1 ?_
  have key2 : ∀ r t σ1, t + r = 4 ^ a 0 → frR 91 92 σ σ1 → EnI σ1 a tx n t 0 → (∀ s, s < t → σ1.1 92 s = nI (sT a tx n s)) → BX5_findEnds_51 post (r + 1) (nI (4 ^ a 0)) (nI t) σ1 := by
    intro r
    induction r with
    | zero =>
      intro t σ1 ht hf hE hs
      rw [BX5_findEnds_51]
      refine pk_le (4 ^ a 0) t (fun _ => ?_) (fun c => by omega)
      refine h σ1 hf (fun s hs1 => ?_) (fun s hs1 => hs s (by omega))
      exact hE.at ha (by omega) hs1
    | succ r ih =>
      intro t σ1 ht hf hE hs
      rw [BX5_findEnds_51]
      refine pk_le (4 ^ a 0) t (fun c => by omega) (fun c => pk_le 4096 t (fun c => by omega) (fun c2 => ⟨pk_in t 4096 c2, ?_⟩))
      intro σ2 e2
      rw [nI_clamp (by omega)] at e2
      have hf2 : frR 91 92 σ σ2 := by rw [e2]; exact hf.i _ _ (by decide)
      have h91 : σ2.1 91 = σ1.1 91 := by rw [e2]; exact upd_row (by decide)
      have hE2 := hE.row h91
      have hs2 : ∀ s, s < t → σ2.1 92 s = nI (sT a tx n s) := by
        intro s hs1
        rw [e2, setI_1, if_neg (by omega)]
        exact hs s hs1
      refine v_rEndOf (by omega) ?_
      rw [hE2.at ha (Nat.le_refl t) c]
      by_cases q : ∃ p, Rc a tx n t p
      · obtain ⟨p, hp⟩ := q
        have hpn := (hp.J ha).2.2.2.2.2.2.2.1
        have hn := hc.2.1.1
        rw [eT_of ha hp, show oI (p + 1) = nI p from rfl]
        refine ⟨fun z => absurd z (nI_pos (by omega)), fun _ => ?_⟩
        refine v_findSteps (hc.fr hf2 (by decide)) c hp hE2 (fun σ3 hf3 hE3 => ⟨pk_in t 4096 c2, ?_⟩)
        intro σ4 e4
        rw [nI_clamp (by omega)] at e4
        rw [nI_1]
        have hf3' := hf3.wk (lo' := 91) (hi' := 92) (by decide) (by decide)
        refine ih (t + 1) σ4 (by omega) (by rw [e4]; exact (hf2.tr hf3').i _ _ (by decide)) (hE3.row (by rw [e4]; exact upd_row (by decide))) (fun s hs1 => ?_)
        rw [e4, setI_1]
        by_cases z : s = t
        · rw [if_pos ⟨rfl, z⟩, z]
        · rw [if_neg (fun w => z w.2), (hf3 92 (by decide)).1]
          exact hs2 s (by omega)
      · rw [eT_no q, show oI 0 = (-9 : Int32) from rfl]
        refine ⟨fun _ => ?_, fun z => absurd (by decide) z⟩
        rw [nI_1]
        refine ih (t + 1) σ2 (by omega) hf2 (hE2.none q) (fun s hs1 => ?_)
        by_cases z : s = t
        · rw [z, e2, setI_1, if_pos ⟨rfl, rfl⟩]
          unfold sT
          rw [eT_no q]; rfl
        · exact hs2 s (by omega)
  have key1 : ∀ r t σ1, t + r = 4 ^ a 0 → frR 91 92 σ σ1 → (∀ s, s < t → σ1.1 91 s = if s = 0 then 0 else -9) → BX5_findEnds_8 post (r + 1) (nI (4 ^ a 0)) (nI t) σ1 := by
    intro r
    induction r with
    | zero =>
      intro t σ1 ht hf hs
      rw [BX5_findEnds_8]
      refine pk_le (4 ^ a 0) t (fun _ => ?_) (fun c => by omega)
      refine ⟨_, key2 (4 ^ a 0) 0 σ1 (by omega) hf (fun s hs1 => ⟨fun p hp => ?_, fun hn => ?_⟩) (fun s hs1 => by omega)⟩
      · rcases hp with ⟨rfl, rfl⟩ | ⟨m, t', p', _, _, g, _⟩
        · rw [hs 0 (by omega)]; rfl
        · omega
      · rw [hs s (by omega), if_neg]
        intro z
        exact hn 0 (Or.inl ⟨z, rfl⟩)
    | succ r ih =>
      intro t σ1 ht hf hs
      rw [BX5_findEnds_8]
      refine pk_le (4 ^ a 0) t (fun c => by omega) (fun c => pk_le 4096 t (fun c => by omega) (fun c2 => ?_))
      have hgo : ∀ v : Int32, v = (if t = 0 then 0 else -9) → ∀ σ2, σ2 = setI σ1 91 (nI t).toNatClampNeg v → BX5_findEnds_8 post (r + 1) (nI (4 ^ a 0)) (nI t + 1) σ2 := by
        intro v hv σ2 e2
        rw [nI_clamp (by omega)] at e2
        rw [nI_1]
        refine ih (t + 1) σ2 (by omega) (by rw [e2]; exact hf.i _ _ (by decide)) (fun s hs1 => ?_)
        rw [e2, setI_1]
        by_cases z : s = t
        · rw [if_pos ⟨rfl, z⟩, z, hv]
        · rw [if_neg (fun w => z w.2)]
          exact hs s (by omega)
      by_cases z : t = 0
      · refine ⟨fun w => absurd (by rw [z]; rfl) w, fun _ => ⟨pk_in t 4096 c2, hgo 0 (by rw [if_pos z])⟩⟩
      · refine ⟨fun _ => ⟨pk_in t 4096 c2, hgo (-9) (by rw [if_neg z])⟩, fun w => absurd w (nI_ne0 (by omega) (by omega))⟩
  exact ⟨_, key1 (4 ^ a 0) 0 σ (by omega) frR.rf (fun s hs => by omega)⟩
theorem v_countFrom {σ : Sg} {a tx : Nat → Nat} {n t : Nat} (hc : ctxN σ a tx n) (ht : t < 4 ^ a 0) (h0 : eT a tx n t ≠ 0) (hE : ∀ s, s < 4 ^ a 0 → σ.1 91 s = oI (eT a tx n s)) (hS : ∀ s, s < 4 ^ a 0 → σ.1 92 s = nI (sT a tx n s)) (hW : ∀ s, t < s → s < 4 ^ a 0 → σ.2.1 93 s = lN (wT a tx n s)) {post : Int64 → Sg → Prop} (h : post (lN (wT a tx n t)) σ) : wpX5_countFrom (nI t) σ post := by
  have ha := hc.1
  have h6 := ha.1
  have h4 := pow4_le h6
  have hn := hc.2.1.1
  have heL := eT_le ha h0
  unfold wpX5_countFrom
  refine v_rEndOf (by omega) ?_
  rw [hE t ht, hc.2.2.2.1.1, show oI (eT a tx n t) = nI (eT a tx n t - 1) from by unfold oI; rw [if_neg h0]]
  have key : ∀ own r k, k + r = a 0 → (own = if eT a tx n t = n + 1 ∧ enB a t = true then 1 else 0) → BX5_countFrom_30 (nI t) post (r + 1) (lN (own + smN (fun m => if (sT a tx n t).testBit m = true then wT a tx n (t + 4 ^ m) else 0) k)) (nI k) σ := by
    intro own r
    induction r with
    | zero =>
      intro k hk ho
      rw [BX5_countFrom_30, hc.2.2.1.1]
      refine pk_le (a 0) k (fun _ => ?_) (fun c => by omega)
      rw [show k = a 0 by omega, ho, ← wT_eq ha ht h0]
      exact h
    | succ r ih =>
      intro k hk ho
      rw [BX5_countFrom_30, hc.2.2.1.1]
      refine pk_le (a 0) k (fun c => by omega) (fun c => v_stepsFrom (by omega) ?_)
      rw [hS t ht]
      have h64 := sT_lt (tx := tx) (n := n) (t := t) ha
      refine v_bitOf (by omega) (by omega) ?_
      have h2 := ih (k + 1) (by omega) ho
      rw [show smN (fun m => if (sT a tx n t).testBit m = true then wT a tx n (t + 4 ^ m) else 0) (k + 1) = smN (fun m => if (sT a tx n t).testBit m = true then wT a tx n (t + 4 ^ m) else 0) k + (if (sT a tx n t).testBit k = true then wT a tx n (t + 4 ^ k) else 0) from rfl] at h2
      by_cases z : (sT a tx n t).testBit k = true
      · rw [if_pos z] at h2 ⊢
        refine ⟨fun w => absurd rfl w, fun _ => v_withOneMore (by omega) ?_⟩
        have hnx : nxP a tx n t (eT a tx n t - 1) k ≠ 0 := by
          unfold sT at z
          rw [if_neg h0, sN_bit, decide_eq_true c, Bool.true_and, decide_eq_true_eq] at z
          exact z
        have hl := (nx_lt ha ht c hnx).1
        have hp : 0 < 4 ^ k := Nat.pow_pos (by decide)
        refine v_waysFrom (by omega) ?_
        rw [hW _ (by omega) hl, lN_add, nI_1, Nat.add_assoc]
        exact h2
      · rw [if_neg z] at h2 ⊢
        refine ⟨fun _ => ?_, fun w => absurd w (by decide)⟩
        rw [Nat.add_zero] at h2
        rw [nI_1]
        exact h2
  have hmk : ∀ own, (own = if eT a tx n t = n + 1 ∧ enB a t = true then 1 else 0) → ∃ nf, BX5_countFrom_30 (nI t) post nf (lN own) ((0 : Int32)) σ := fun own ho => ⟨_, key own (a 0) 0 (by omega) ho⟩
  by_cases q : eT a tx n t = n + 1
  · refine ⟨fun w => absurd (by rw [q]; rfl) w, fun _ => v_isEnough k51 ha (by omega) hc.2.2.1 (bI_0 _ (fun e => ?_) (fun e => ?_))⟩
    · exact hmk 0 (by rw [if_neg (fun w => by rw [e] at w; cases w.2)])
    · exact hmk 1 (by rw [if_pos ⟨q, e⟩])
  · refine ⟨fun _ => hmk 0 (by rw [if_neg (fun w => q w.1)]), fun w => ?_⟩
    have := (nI_eq (by omega) (by omega)).mp w
    omega
theorem v_countWays {σ : Sg} {a tx : Nat → Nat} {n : Nat} (hc : ctxN σ a tx n) (hE : ∀ s, s < 4 ^ a 0 → σ.1 91 s = oI (eT a tx n s)) (hS : ∀ s, s < 4 ^ a 0 → σ.1 92 s = nI (sT a tx n s)) {post : Sg → Prop} (h : ∀ σ', frR 93 93 σ σ' → σ'.1 = σ.1 → (∀ s, s < 4 ^ a 0 → σ'.2.1 93 s = lN (wT a tx n s)) → post σ') : wpX5_countWays σ post := by
  have ha := hc.1
  have h6 := ha.1
  have h4 := pow4_le h6
  have hp4 : 0 < 4 ^ a 0 := Nat.pow_pos (by decide)
  unfold wpX5_countWays
  refine v_tallies ha hc.2.2.1.1 ?_
  rw [show (if (4096 : Int32) < nI (4 ^ a 0) then (4096 : Int32) else nI (4 ^ a 0)) = nI (4 ^ a 0) from if_neg (nI_nlt (a := 4096) h4 (by decide))]
  have key : ∀ k σ1, k ≤ 4 ^ a 0 → frR 93 93 σ σ1 → σ1.1 = σ.1 → (∀ s, k ≤ s → s < 4 ^ a 0 → σ1.2.1 93 s = lN (wT a tx n s)) → BX5_countWays_15 post (k + 1) (if k = 0 then -1 else nI (k - 1)) σ1 := by
    intro k
    induction k with
    | zero =>
      intro σ1 _ hf he hs
      rw [BX5_countWays_15, if_pos rfl]
      exact ⟨fun _ => h σ1 hf he (fun s hs1 => hs s (Nat.zero_le _) hs1), fun w => absurd (by decide) w⟩
    | succ t ih =>
      intro σ1 hk hf he hs
      have hc1 := hc.fr hf (by decide)
      rw [if_neg (by omega), Nat.add_sub_cancel, BX5_countWays_15]
      have hgo : ∀ v : Int64, v = lN (wT a tx n t) → ∀ σ2, σ2 = setL σ1 93 (nI t).toNatClampNeg v → BX5_countWays_15 post (t + 1) (nI t + (-1)) σ2 := by
        intro v hv σ2 e2
        rw [nI_clamp (by omega)] at e2
        have e3 : nI t + (-1) = if t = 0 then -1 else nI (t - 1) := by
          cases t with
          | zero => rfl
          | succ t => rw [if_neg (by omega), Nat.add_sub_cancel]; exact pk_m1 t
        rw [e3]
        refine ih σ2 (by omega) (by rw [e2]; exact hf.l _ _ (by decide)) (by rw [e2]; exact he) (fun s h1 h2 => ?_)
        rw [e2, setL_2]
        by_cases z : s = t
        · rw [if_pos ⟨rfl, z⟩, hv, z]
        · rw [if_neg (fun w => z w.2)]
          exact hs s (by omega) h2
      refine ⟨fun w => absurd w (nI_pos (by omega)), fun _ => v_rEndOf (by omega) ?_⟩
      rw [he, hE t (by omega)]
      by_cases z : eT a tx n t = 0
      · rw [z, show oI 0 = (-9 : Int32) from rfl]
        refine ⟨fun _ => ⟨pk_in t 4096 (by omega), hgo 0 (by unfold wT; rw [if_pos z]; rfl)⟩, fun w => absurd (by decide) w⟩
      · have := eT_le ha z
        have hn := hc.2.1.1
        rw [show oI (eT a tx n t) = nI (eT a tx n t - 1) from by unfold oI; rw [if_neg z]]
        refine ⟨fun w => absurd w (nI_pos (by omega)), fun _ => ?_⟩
        refine v_countFrom hc1 (by omega) z (fun s h1 => by rw [he]; exact hE s h1) (fun s h1 => by rw [he]; exact hS s h1) (fun s h1 h2 => hs s (by omega) h2) ⟨pk_in t 4096 (by omega), hgo _ rfl⟩
  have h2 := key (4 ^ a 0) σ (Nat.le_refl _) frR.rf rfl (fun s h1 h2 => by omega)
  rw [if_neg (by omega)] at h2
  rw [show nI (4 ^ a 0) - (1 : Int32) = nI (4 ^ a 0 - 1) from pk_sub (b := 1) (by omega)]
  exact ⟨_, h2⟩
def srch (f : Nat → Bool) : Nat → Nat → Nat
  | 0, _ => 0
  | r + 1, k => if f k then k + 1 else srch f r (k + 1)
theorem srch_spec (f : Nat → Bool) : ∀ r k, (srch f r k = 0 ∧ ∀ i, k ≤ i → i < k + r → f i = false) ∨ (k < srch f r k ∧ srch f r k ≤ k + r ∧ f (srch f r k - 1) = true ∧ ∀ i, k ≤ i → i < srch f r k - 1 → f i = false)
  | 0, k => Or.inl ⟨rfl, fun i h1 h2 => by omega⟩
  | r + 1, k => by
    unfold srch
    by_cases hf : f k = true
    · rw [if_pos hf]
      exact Or.inr ⟨by omega, by omega, hf, fun i h1 h2 => by omega⟩
    · rw [if_neg hf]
      have hf' : f k = false := Bool.eq_false_iff.mpr hf
      rcases srch_spec f r (k + 1) with ⟨h1, h2⟩ | ⟨h1, h2, h3, h4⟩
      · refine Or.inl ⟨h1, fun i g1 g2 => ?_⟩
        rcases Nat.lt_or_ge k i with q | q
        · exact h2 i q (by omega)
        · rw [show i = k by omega]; exact hf'
      · refine Or.inr ⟨by omega, by omega, h3, fun i g1 g2 => ?_⟩
        rcases Nat.lt_or_ge k i with q | q
        · exact h4 i q g2
        · rw [show i = k by omega]; exact hf'
noncomputable def fm (a tx : Nat → Nat) (n t : Nat) : Nat := srch (fun m => (sT a tx n t).testBit m && decide (0 < wT a tx n (t + 4 ^ m))) (a 0) 0
noncomputable def tq (a tx : Nat → Nat) (n : Nat) : Nat → Nat
  | 0 => 0
  | k + 1 => tq a tx n k + 4 ^ (fm a tx n (tq a tx n k) - 1)
noncomputable def rdN (a tx : Nat → Nat) (n : Nat) : Nat := mt (fun i => decide (fm a tx n (tq a tx n i) ≠ 0)) 18 0
theorem fm_spec {a tx : Nat → Nat} {n t : Nat} (h : fm a tx n t ≠ 0) : fm a tx n t - 1 < a 0 ∧ (sT a tx n t).testBit (fm a tx n t - 1) = true ∧ 0 < wT a tx n (t + 4 ^ (fm a tx n t - 1)) := by
  rcases srch_spec (fun m => (sT a tx n t).testBit m && decide (0 < wT a tx n (t + 4 ^ m))) (a 0) 0 with ⟨h1, _⟩ | ⟨h1, h2, h3, h4⟩
  · exact absurd h1 h
  · simp only [Bool.and_eq_true, decide_eq_true_eq] at h3
    unfold fm at h ⊢
    exact ⟨by omega, h3⟩
theorem sT_nx {a tx : Nat → Nat} {n t m : Nat} (h : (sT a tx n t).testBit m = true) : eT a tx n t ≠ 0 ∧ m < a 0 ∧ nxP a tx n t (eT a tx n t - 1) m ≠ 0 := by
  unfold sT at h
  by_cases z : eT a tx n t = 0
  · rw [if_pos z, Nat.zero_testBit] at h; cases h
  · rw [if_neg z, sN_bit] at h
    simp only [Bool.and_eq_true, decide_eq_true_eq] at h
    exact ⟨z, h.1, h.2⟩
theorem tq_rc {a tx : Nat → Nat} {n : Nat} (ha : wfA a) : ∀ k, (∀ i, i < k → fm a tx n (tq a tx n i) ≠ 0) → eT a tx n (tq a tx n k) ≠ 0 ∧ tq a tx n k < 4 ^ a 0
  | 0, _ => ⟨by rw [tq, eT_zero ha]; decide, Nat.pow_pos (by decide)⟩
  | k + 1, h => by
    obtain ⟨h1, h2⟩ := tq_rc ha k (fun i hi => h i (by omega))
    obtain ⟨f1, f2, f3⟩ := fm_spec (h k (by omega))
    obtain ⟨g1, g2, g3⟩ := sT_nx f2
    have hst := (eT_rc h1).step f1 rfl g3
    rw [tq, eT_of ha hst]
    exact ⟨by omega, (nx_lt ha h2 f1 g3).1⟩
theorem v_firstBehind {σ : Sg} {a tx : Nat → Nat} {n t : Nat} (hc : ctxN σ a tx n) (ht : t < 4 ^ a 0) (hS : ∀ s, s < 4 ^ a 0 → σ.1 92 s = nI (sT a tx n s)) (hW : ∀ s, s < 4 ^ a 0 → σ.2.1 93 s = lN (wT a tx n s)) {post : Int32 → Sg → Prop} (h : post (oI (fm a tx n t)) σ) : wpX5_firstBehind (nI t) σ post := by
  have ha := hc.1
  have h6 := ha.1
  have h4 := pow4_le h6
  have key : ∀ r k, k + r = a 0 → post (oI (srch (fun m => (sT a tx n t).testBit m && decide (0 < wT a tx n (t + 4 ^ m))) r k)) σ → BX5_firstBehind_2 (nI t) post (r + 1) (nI k) σ := by
    intro r
    induction r with
    | zero =>
      intro k hk h
      rw [BX5_firstBehind_2, hc.2.2.1.1]
      exact pk_le (a 0) k (fun _ => h) (fun c => by omega)
    | succ r ih =>
      intro k hk h
      rw [BX5_firstBehind_2, hc.2.2.1.1]
      refine pk_le (a 0) k (fun c => by omega) (fun c => v_stepsFrom (by omega) ?_)
      rw [hS t ht]
      have h64 := sT_lt (tx := tx) (n := n) (t := t) ha
      refine v_bitOf (by omega) (by omega) ?_
      unfold srch at h
      by_cases z : (sT a tx n t).testBit k = true
      · rw [if_pos z]
        refine ⟨fun w => absurd rfl w, fun _ => v_withOneMore (by omega) ?_⟩
        obtain ⟨g1, g2, g3⟩ := sT_nx z
        have hl := (nx_lt ha ht c g3).1
        refine v_waysFrom (by omega) ?_
        rw [hW _ hl]
        have hwl := wT_le (tx := tx) (n := n) ha (t + 4 ^ k)
        rw [lg_cmp_le]
        by_cases z2 : 0 < wT a tx n (t + 4 ^ k)
        · rw [if_pos (by simp [z, z2])] at h
          refine ⟨fun w => ?_, fun _ => h⟩
          have := (pk_lLE (a := wT a tx n (t + 4 ^ k)) (b := 0) (by omega) (by decide)).mp w
          omega
        · rw [if_neg (by simp [z2])] at h
          refine ⟨fun _ => ?_, fun w => ?_⟩
          · rw [nI_1]; exact ih (k + 1) (by omega) h
          · exact absurd ((pk_lLE (a := wT a tx n (t + 4 ^ k)) (b := 0) (by omega) (by decide)).mpr (by omega)) w
      · rw [if_neg z]
        rw [if_neg (by simp [z])] at h
        refine ⟨fun _ => ?_, fun w => absurd w (by decide)⟩
        rw [nI_1]; exact ih (k + 1) (by omega) h
  exact ⟨_, key (a 0) 0 (by omega) h⟩
/-- the first reading's rows -/
def rdRow (σ : Sg) (a tx : Nat → Nat) (n k : Nat) : Prop := σ.1 94 k = nI (fm a tx n (tq a tx n k) - 1) ∧ σ.1 95 k = nI (stP a tx n (tq a tx n k) (eT a tx n (tq a tx n k) - 1) - 1) ∧ σ.1 96 k = nI (vlP a tx n (fm a tx n (tq a tx n k) - 1) (stP a tx n (tq a tx n k) (eT a tx n (tq a tx n k) - 1) - 1))
def tabC (σ : Sg) (a tx : Nat → Nat) (n : Nat) : Prop := (∀ s, s < 4 ^ a 0 → σ.1 91 s = oI (eT a tx n s)) ∧ (∀ s, s < 4 ^ a 0 → σ.1 92 s = nI (sT a tx n s)) ∧ (∀ s, s < 4 ^ a 0 → σ.2.1 93 s = lN (wT a tx n s)) ∧ σ.1 90 6 = nI (rdN a tx n) ∧ ∀ k, k < rdN a tx n → rdRow σ a tx n k
theorem v_listFirst {σ : Sg} {a tx : Nat → Nat} {n : Nat} (hc : ctxN σ a tx n) (hE : ∀ s, s < 4 ^ a 0 → σ.1 91 s = oI (eT a tx n s)) (hS : ∀ s, s < 4 ^ a 0 → σ.1 92 s = nI (sT a tx n s)) (hW : ∀ s, s < 4 ^ a 0 → σ.2.1 93 s = lN (wT a tx n s)) {post : Sg → Prop} (h : ∀ σ', frR 90 96 σ σ' → tabC σ' a tx n → post σ') : wpX5_listFirst σ post := by
  have ha := hc.1
  have h6 := ha.1
  have h4 := pow4_le h6
  have hn := hc.2.1.1
  unfold wpX5_listFirst
  intro σ0 e0
  have key : ∀ r k σ1, k + r = 18 → (∀ i, i < k → fm a tx n (tq a tx n i) ≠ 0) → mt (fun i => decide (fm a tx n (tq a tx n i) ≠ 0)) r k = rdN a tx n → frR 90 96 σ σ1 → σ1.1 91 = σ.1 91 → σ1.1 92 = σ.1 92 → σ1.2 = σ.2 → σ1.1 90 6 = nI k → (∀ i, i < k → rdRow σ1 a tx n i) → BX5_listFirst_10 post (r + 1) (nI (tq a tx n k)) (nI k) σ1 := by
    intro r
    induction r with
    | zero =>
      intro k σ1 hk hfm hmt hf e91 e92 e2 hcnt hrow
      rw [BX5_listFirst_10]
      refine pk_le 18 k (fun _ => ?_) (fun c => by omega)
      have hkr : k = rdN a tx n := by rw [← hmt]; rfl
      refine h σ1 hf ⟨?_, ?_, ?_, ?_, ?_⟩
      · rw [e91]; exact hE
      · rw [e92]; exact hS
      · rw [e2]; exact hW
      · rw [hcnt, hkr]
      · rw [← hkr]; exact hrow
    | succ r ih =>
      intro k σ1 hk hfm hmt hf e91 e92 e2 hcnt hrow
      rw [BX5_listFirst_10]
      refine pk_le 18 k (fun c => by omega) (fun _ => pk_le 18 k (fun c => by omega) (fun _ => pk_le 18 k (fun c => by omega) (fun c18 => ?_)))
      have hc1 := hc.fr hf (by decide)
      obtain ⟨ht0, htl⟩ := tq_rc ha k hfm
      refine v_firstBehind hc1 htl (by rw [e92]; exact hS) (by rw [e2]; exact hW) ?_
      unfold mt at hmt
      by_cases z : fm a tx n (tq a tx n k) = 0
      · rw [z, show oI 0 = (-9 : Int32) from rfl]
        rw [if_neg (by simp [z])] at hmt
        refine ⟨fun w => absurd w (by decide), fun _ => ?_⟩
        refine h σ1 hf ⟨?_, ?_, ?_, ?_, ?_⟩
        · rw [e91]; exact hE
        · rw [e92]; exact hS
        · rw [e2]; exact hW
        · rw [hcnt, hmt]
        · rw [← hmt]; exact hrow
      · rw [if_pos (by simp [z])] at hmt
        rw [show oI (fm a tx n (tq a tx n k)) = nI (fm a tx n (tq a tx n k) - 1) from by unfold oI; rw [if_neg z]]
        obtain ⟨f1, f2, f3⟩ := fm_spec z
        obtain ⟨g1, g2, g3⟩ := sT_nx f2
        have hst := (eT_rc ht0).step f1 rfl g3
        have heS := eT_of ha hst
        obtain ⟨n1, n2, n3⟩ := nx_may rfl g3
        have hlt := (nx_lt ha htl f1 g3).1
        have heL := eT_le ha ht0
        have hsle : stP a tx n (tq a tx n k) (eT a tx n (tq a tx n k) - 1) ≤ n + 1 := by unfold stP; split <;> (try split) <;> omega
        refine ⟨fun _ => ?_, fun w => absurd (nI_pos' (by omega)) w⟩
        refine v_startBehind (p := eT a tx n (tq a tx n k) - 1) hc1 (by omega) (by omega) (by rw [e91, hE _ htl]; unfold oI; rw [if_neg ht0]) ?_
        rw [show oI (stP a tx n (tq a tx n k) (eT a tx n (tq a tx n k) - 1)) = nI (stP a tx n (tq a tx n k) (eT a tx n (tq a tx n k) - 1) - 1) from by unfold oI; rw [if_neg n2]]
        refine v_withOneMore (by omega) ⟨pk_in k 18 c18, ?_⟩
        rw [nI_clamp (by omega)]
        intro σ2 e2'
        refine ⟨pk_in k 18 c18, ?_⟩
        intro σ3 e3'
        refine v_at1 k51 (by omega) (fun _ => v_rEndOf (by omega) ?_)
        have hf3 : frR 90 96 σ σ3 := by rw [e3', e2']; exact (hf.i _ _ (by decide)).i _ _ (by decide)
        have hc3 := hc.fr hf3 (by decide)
        have e913 : σ3.1 91 = σ.1 91 := by rw [e3', upd_row (by decide), e2', upd_row (by decide), e91]
        have e23 : σ3.2 = σ.2 := by rw [e3', setI_2, e2', setI_2, e2]
        rw [e913, hE _ hlt, heS, show oI (nxP a tx n (tq a tx n k) (eT a tx n (tq a tx n k) - 1) (fm a tx n (tq a tx n k) - 1) + 1) = nI (nxP a tx n (tq a tx n k) (eT a tx n (tq a tx n k) - 1) (fm a tx n (tq a tx n k) - 1)) from rfl, ← n3]
        refine v_numberIn f10 ha hc.2.1 f1 hc3.2.2.2.1 (hc3.2.2.1.2.2 _ f1) (by omega) (by rw [n3]; exact g3) ⟨pk_in k 18 c18, ?_⟩
        intro σ4 e4' σ5 e5'
        rw [nI_1]
        have hf5 : frR 90 96 σ σ5 := by rw [e5', e4']; exact (hf3.i _ _ (by decide)).i _ _ (by decide)
        have hrowk : rdRow σ5 a tx n k := by
          refine ⟨?_, ?_, ?_⟩
          · rw [e5', upd_row (by decide), e4', upd_row (by decide), e3', upd_row (by decide), e2', setI_1, if_pos ⟨rfl, rfl⟩]
          · rw [e5', upd_row (by decide), e4', upd_row (by decide), e3', setI_1, if_pos ⟨rfl, rfl⟩]
          · rw [e5', upd_row (by decide), e4', setI_1, if_pos ⟨rfl, rfl⟩]
        refine ih (k + 1) σ5 (by omega) (fun i hi => ?_) hmt hf5 ?_ ?_ ?_ ?_ (fun i hi => ?_)
        · rcases Nat.lt_or_ge i k with q | q
          · exact hfm i q
          · rw [show i = k by omega]; exact z
        · rw [e5', upd_row (by decide), e4', upd_row (by decide), e913]
        · rw [e5', upd_row (by decide), e4', upd_row (by decide), e3', upd_row (by decide), e2', upd_row (by decide), e92]
        · rw [e5', setI_2, e4', setI_2, e23]
        · rw [e5', setI_1, if_pos ⟨rfl, rfl⟩, e4', upd_row (by decide), e3', upd_row (by decide), e2', upd_row (by decide), hcnt]
          exact nI_1 k
        · by_cases q : i = k
          · rw [q]; exact hrowk
          · have hr := hrow i (by omega)
            refine ⟨?_, ?_, ?_⟩
            · rw [e5', upd_row (by decide), e4', upd_row (by decide), e3', upd_row (by decide), e2', setI_1, if_neg (fun w => q w.2)]; exact hr.1
            · rw [e5', upd_row (by decide), e4', upd_row (by decide), e3', setI_1, if_neg (fun w => q w.2), e2', upd_row (by decide)]; exact hr.2.1
            · rw [e5', upd_row (by decide), e4', setI_1, if_neg (fun w => q w.2), e3', upd_row (by decide), e2', upd_row (by decide)]; exact hr.2.2
  exact ⟨_, key 18 0 σ0 (by omega) (fun i hi => by omega) rfl (by rw [e0]; exact frR.rf.i _ _ (by decide)) (by rw [e0]; exact upd_row (by decide)) (by rw [e0]; exact upd_row (by decide)) (by rw [e0]; rfl) (by rw [e0]; rfl) (fun i hi => by omega)⟩
theorem v_learn {σ : Sg} {a tx : Nat → Nat} {n : Nat} (hc : ctxN σ a tx n) (hk : ¬ σ.1 90 7 = 0 → tabC σ a tx n) {post : Sg → Prop} (h : ∀ σ', frR 90 96 σ σ' → ¬ σ'.1 90 7 = 0 → tabC σ' a tx n → post σ') : wpX5_learn σ post := by
  unfold wpX5_learn
  refine ⟨fun _ => ?_, fun z => h σ frR.rf z (hk z)⟩
  refine v_findEnds hc (fun σ1 f1 hE hS => ?_)
  refine v_countWays (hc.fr f1 (by decide)) hE hS (fun σ2 f2 e2 hW => ?_)
  have f12 := (f1.wk (lo' := 90) (hi' := 96) (by decide) (by decide)).tr (f2.wk (by decide) (by decide))
  refine v_listFirst (hc.fr f12 (by decide)) (by rw [e2]; exact hE) (by rw [e2]; exact hS) hW (fun σ3 f3 hT => ?_)
  intro σ4 e4
  refine h σ4 (by rw [e4]; exact (f12.tr f3).i _ _ (by decide)) (by rw [e4, setI_1, if_pos ⟨rfl, rfl⟩]; decide) ?_
  obtain ⟨t1, t2, t3, t4, t5⟩ := hT
  refine ⟨?_, ?_, ?_, ?_, ?_⟩
  · rw [e4, upd_row (by decide)]; exact t1
  · rw [e4, upd_row (by decide)]; exact t2
  · rw [e4]; exact t3
  · rw [e4, setI_1, if_neg (by decide)]; exact t4
  · intro k hk
    have := t5 k hk
    unfold rdRow at this ⊢
    rw [e4, upd_row (by decide), upd_row (by decide), upd_row (by decide)]
    exact this
