/-! the reference's first reading -/
theorem fm_end {a tx : Nat → Nat} {n t : Nat} (ha : wfA a) (h : eT a tx n t = n + 1) : fm a tx n t = 0 := by
  refine Classical.byContradiction (fun z => ?_)
  obtain ⟨h1, h2, h3⟩ := fm_spec z
  obtain ⟨g1, g2, g3⟩ := sT_nx h2
  have := nx_gt ha g2 rfl g3
  omega
theorem fm_pos {a tx : Nat → Nat} {n t : Nat} (ha : wfA a) (ht : t < 4 ^ a 0) (h0 : eT a tx n t ≠ 0) (h : eT a tx n t ≠ n + 1) (hw : 0 < wT a tx n t) : fm a tx n t ≠ 0 := by
  intro z
  rcases srch_spec (fun m => (sT a tx n t).testBit m && decide (0 < wT a tx n (t + 4 ^ m))) (a 0) 0 with q | q
  · rw [wT_eq ha ht h0, if_neg (fun w => h w.1), smN_zero (a 0) (fun m hm => ?_)] at hw
    · exact absurd hw (by decide)
    · by_cases y : (sT a tx n t).testBit m = true
      · rw [if_pos y]
        have := q.2 m (Nat.zero_le _) (by omega)
        rw [y, Bool.true_and, decide_eq_false_iff_not] at this
        omega
      · rw [if_neg y]
  · unfold fm at z; omega
theorem tq_occ {a tx : Nat → Nat} {n : Nat} (ha : wfA a) : ∀ k, (∀ i, i < k → fm a tx n (tq a tx n i) ≠ 0) → occ a (tq a tx n k) = k
  | 0, _ => occ_0 a
  | k + 1, h => by
    have hz := h k (Nat.lt_succ_self k)
    obtain ⟨h1, h2, h3⟩ := fm_spec hz
    obtain ⟨g1, g2, g3⟩ := sT_nx h2
    have := may_lt ha g2 (nx_may rfl g3).1
    show occ a (tq a tx n k + 4 ^ (fm a tx n (tq a tx n k) - 1)) = k + 1
    rw [occ_add h1 this, tq_occ ha k (fun i hi => h i (by omega))]
theorem rdN_is {a tx : Nat → Nat} {n k : Nat} (hk : k ≤ 18) (h : ∀ i, i < k → fm a tx n (tq a tx n i) ≠ 0) (h0 : fm a tx n (tq a tx n k) = 0) : rdN a tx n = k := by
  unfold rdN
  rcases Nat.lt_trichotomy (mt (fun i => decide (fm a tx n (tq a tx n i) ≠ 0)) 18 0) k with q | q | q
  · have := mt_end (fun i => decide (fm a tx n (tq a tx n i) ≠ 0)) 18 0 (by omega)
    rw [decide_eq_false_iff_not] at this
    exact absurd (h _ q) this
  · exact q
  · have := mt_all (fun i => decide (fm a tx n (tq a tx n i) ≠ 0)) 18 0 k (Nat.zero_le _) q
    rw [decide_eq_true_eq] at this
    exact absurd h0 this
def lrRow (σ : Sg) (a tx : Nat → Nat) (n k : Nat) : Prop := σ.1 125 k = nI (memK a tx n k) ∧ σ.1 126 k = nI (staK a tx n k) ∧ σ.1 127 k = nI (vlK a tx n k)
theorem m_layReading {σ : Sg} {a tx : Nat → Nat} {n : Nat} (hs : mSt σ a tx n) {post : Int32 → Sg → Prop} (h1 : 0 < wT a tx n 0 → ∀ σ', frM σ σ' → mSt σ' a tx n → (∀ k, k < rdN a tx n → lrRow σ' a tx n k) → post (nI (rdN a tx n)) σ') (h0 : wT a tx n 0 = 0 → ∀ σ', frM σ σ' → mSt σ' a tx n → post (-9) σ') : wpX7_layReading σ post := by
  unfold wpX7_layReading
  have ha := hs.1.1
  have h6 := ha.1
  have h4 := pow4_le h6
  have hn := hs.1.2.1.1
  refine m_lay hs (fun σ1 f1 s1 t1 => ⟨in0_w, ?_⟩)
  rw [z0, ways0 ha t1]
  have hcl := capN_le (wT a tx n 0)
  -- the search of one member
  have l41 : ∀ (K : Int32 → Int32 → Int32 → Sg → Prop) k σ2, k < 18 → fm a tx n (tq a tx n k) ≠ 0 → eT a tx n (tq a tx n k) ≠ 0 → tq a tx n k < 4 ^ a 0 → stP a tx n (tq a tx n k) (eT a tx n (tq a tx n k) - 1) ≠ 0 → frR 125 127 σ1 σ2 → (∀ j, j < k → lrRow σ2 a tx n j) → (∀ σ', frR 125 127 σ1 σ' → (∀ j, j < k + 1 → lrRow σ' a tx n j) → K (nI (eT a tx n (tq a tx n (k + 1)) - 1)) (nI (tq a tx n (k + 1))) (nI (k + 1)) σ') → ∀ r m, m + r = memK a tx n k + 1 → 0 < r → BX7_layReading_41 K post r (nI (tq a tx n k)) (nI k) (nI (staK a tx n k)) (nI m) σ2 := by
    intro K k σ2 hk hfm he0 htl hst hf hrow hK r
    have hs2 : mSt σ2 a tx n := s1.fr hf (by decide)
    have tb2 : tabM σ2 a tx n := ⟨t1.1.row (hf 123 (by decide)).1, fun q t' a b => by rw [(hf 124 (by decide)).1]; exact t1.2 q t' a b⟩
    have hel := eT_le ha he0
    have hrc := eT_rc he0
    obtain ⟨w1, w2, w3⟩ := fm_spec hfm
    have hmk : memK a tx n k = fm a tx n (tq a tx n k) - 1 := rfl
    have hsk : staK a tx n k = stP a tx n (tq a tx n k) (eT a tx n (tq a tx n k) - 1) - 1 := rfl
    have hs3 := (stP_ge hst).2 (by omega)
    have hnx : ∀ m, nxP a tx n (tq a tx n k) (eT a tx n (tq a tx n k) - 1) m = if mayB a (tq a tx n k) m = true then enP a tx n m (staK a tx n k) else 0 := by
      intro m
      unfold nxP
      by_cases y : mayB a (tq a tx n k) m = true
      · rw [if_pos ⟨y, hst⟩, if_pos y, hsk]
      · rw [if_neg (fun w => y w.1), if_neg y]
    induction r with
    | zero => intro m _ h; omega
    | succ r ih =>
      intro m hm _
      rw [BX7_layReading_41]
      have hma : m < a 0 := by omega
      refine m_may ha hs2.1.2.2.1 (by omega) hma ?_
      have hskip : m ≠ memK a tx n k → BX7_layReading_41 K post r (nI (tq a tx n k)) (nI k) (nI (staK a tx n k)) (nI m + 1) σ2 := by
        intro w
        rw [nI_1]
        exact ih (m + 1) (by omega) (by omega)
      have hskm : ∀ P : Prop, (m = memK a tx n k → P) → (¬ P) → m ≠ memK a tx n k := fun P f g e => g (f e)
      have hnz : m = memK a tx n k → nxP a tx n (tq a tx n k) (eT a tx n (tq a tx n k) - 1) m ≠ 0 := by
        intro e
        rw [e]
        exact (sT_nx w2).2.2
      refine bI_0 _ (fun e => hskip (fun w => ?_)) (fun e => ?_)
      · have := hnz w
        rw [hnx, if_neg (by rw [e]; decide)] at this
        exact this rfl
      · have hnm := hnx m
        rw [if_pos e] at hnm
        have hen := fun z => enP_in (a := a) (tx := tx) (n := n) (m := m) (p := staK a tx n k) ha hma z
        refine m_endOf hs2.1 hma (by omega) ?_
        by_cases y : enP a tx n m (staK a tx n k) = 0
        · rw [y]
          refine ⟨fun _ => hskip (fun w => hnz w (by rw [hnm]; exact y)), fun w => absurd rfl w⟩
        · have hen2 := hen y
          have hgo := hrc.step (m := m) hma hnm y
          have hxl := (nx_lt ha htl hma (by rw [hnm]; exact y)).1
          rw [show eI (enP a tx n m (staK a tx n k)) = nI (enP a tx n m (staK a tx n k)) from by unfold eI; rw [if_neg y]]
          refine ⟨fun w => absurd w.symm (fun w => (nI_m9 (by omega)).mp w), fun _ => m_endOf hs2.1 hma (by omega) (m_with (by omega) ?_)⟩
          rw [show eI (enP a tx n m (staK a tx n k)) = nI (enP a tx n m (staK a tx n k)) from by unfold eI; rw [if_neg y], mI, nI_add]
          refine ⟨pk_in (4096 * enP a tx n m (staK a tx n k) + (tq a tx n k + 4 ^ m)) 249856 (by omega), ?_⟩
          rw [nI_clamp (by omega), tb2.2 _ _ trivial hgo, ← wT_of ha hgo]
          have hcw := capN_le (wT a tx n (tq a tx n k + 4 ^ m))
          have hbit : (sT a tx n (tq a tx n k)).testBit m = true := by
            unfold sT
            rw [if_neg he0, sN_bit, decide_eq_true hma, Bool.true_and, decide_eq_true_eq, hnm]
            exact y
          refine ⟨fun w => ?_, fun w => hskip (fun x => ?_)⟩
          · -- this is the member
            have hwp : 0 < wT a tx n (tq a tx n k + 4 ^ m) := by
              rcases Nat.eq_zero_or_pos (wT a tx n (tq a tx n k + 4 ^ m)) with q | q
              · rw [q] at w; exact absurd rfl w
              · exact q
            have hmm : m = memK a tx n k := by
              rcases srch_spec (fun m => (sT a tx n (tq a tx n k)).testBit m && decide (0 < wT a tx n (tq a tx n k + 4 ^ m))) (a 0) 0 with q | q
              · exact absurd q.1 hfm
              · rcases Nat.lt_or_ge m (memK a tx n k) with x | x
                · have := q.2.2.2 m (Nat.zero_le _) x
                  rw [hbit, Bool.true_and, decide_eq_false_iff_not] at this
                  exact absurd hwp this
                · omega
            have htq : tq a tx n (k + 1) = tq a tx n k + 4 ^ m := by rw [hmm]; rfl
            have heq : eT a tx n (tq a tx n (k + 1)) = enP a tx n m (staK a tx n k) + 1 := by
              rw [htq]; exact eT_of ha hgo
            refine ⟨pk_in k 20 (by omega), fun σ3 e3 => ⟨pk_in k 20 (by omega), fun σ4 e4 => ?_⟩⟩
            rw [nI_clamp (by omega)] at e3 e4
            have hf4 : frR 125 127 σ1 σ4 := by rw [e4, e3]; exact (hf.i _ _ (by decide)).i _ _ (by decide)
            have hs4 : mSt σ4 a tx n := s1.fr hf4 (by decide)
            refine m_valueAt hs4.1 hma (by omega) y ⟨pk_in k 20 (by omega), fun σ5 e5 => ?_⟩
            rw [nI_clamp (by omega)] at e5
            have hf5 : frR 125 127 σ1 σ5 := by rw [e5]; exact hf4.i _ _ (by decide)
            have hs5 : mSt σ5 a tx n := s1.fr hf5 (by decide)
            refine m_endOf hs5.1 hma (by omega) (m_with (by omega) ?_)
            rw [show eI (enP a tx n m (staK a tx n k)) = nI (enP a tx n m (staK a tx n k)) from by unfold eI; rw [if_neg y], nI_1]
            have h3 := hK σ5 hf5 (fun j hj => ?_)
            · rw [heq, Nat.add_sub_cancel, htq] at h3
              exact h3
            · unfold lrRow
              rw [e5, e4, e3]
              simp only [setI_1]
              by_cases q : j = k
              · rw [q]
                refine ⟨?_, ?_, ?_⟩
                · rw [if_neg (by omega), if_neg (by omega), if_pos ⟨trivial, rfl⟩, hmm]
                · rw [if_neg (by omega), if_pos ⟨trivial, rfl⟩]
                · rw [if_pos ⟨trivial, rfl⟩, hmm]; rfl
              · have hj2 := hrow j (by omega)
                refine ⟨?_, ?_, ?_⟩
                · rw [if_neg (by omega), if_neg (by omega), if_neg (by omega)]; exact hj2.1
                · rw [if_neg (by omega), if_neg (by omega), if_neg (by omega)]; exact hj2.2.1
                · rw [if_neg (by omega), if_neg (by omega), if_neg (by omega)]; exact hj2.2.2
          · have e2 := (nI_eq (b := 0) (by omega) (by omega)).mp w
            have e3 := capN_0.mp e2
            rw [x, hmk] at e3
            omega
  have l22 : 0 < wT a tx n 0 → ∀ r k σ2, k + r = 18 → (∀ i, i < k → fm a tx n (tq a tx n i) ≠ 0) → 0 < wT a tx n (tq a tx n k) → frR 125 127 σ1 σ2 → (∀ j, j < k → lrRow σ2 a tx n j) → BX7_layReading_22 post (r + 1) (nI (eT a tx n (tq a tx n k) - 1)) (nI (tq a tx n k)) (nI k) σ2 := by
    intro hw r
    induction r with
    | zero =>
      intro k σ2 hk hall hwk hf hrow
      have hs2 : mSt σ2 a tx n := s1.fr hf (by decide)
      obtain ⟨q1, q2⟩ := tq_rc ha k hall
      have hel := eT_le ha q1
      rw [BX7_layReading_22, hs2.1.2.2.2.1]
      have hend : eT a tx n (tq a tx n k) = n + 1 := by
        refine Classical.byContradiction (fun z => ?_)
        have hz := fm_pos ha q2 q1 z hwk
        have := tq_occ ha (k + 1) (fun i hi => by
          rcases Nat.lt_or_ge i k with y | y
          · exact hall i y
          · rw [show i = k by omega]; exact hz)
        have := occ_le ha (tq a tx n (k + 1))
        omega
      refine pk_le n (eT a tx n (tq a tx n k) - 1) (fun _ => ?_) (fun c => by omega)
      have hrd := rdN_is (by omega) hall (fm_end ha hend)
      rw [← hrd]
      exact h1 hw σ2 (f1.tr (frM.of hf (by decide) (by decide))) hs2 (fun j hj => hrow j (by omega))
    | succ r ih =>
      intro k σ2 hk hall hwk hf hrow
      have hs2 : mSt σ2 a tx n := s1.fr hf (by decide)
      obtain ⟨q1, q2⟩ := tq_rc ha k hall
      have hel := eT_le ha q1
      rw [BX7_layReading_22, hs2.1.2.2.2.1]
      refine pk_le n (eT a tx n (tq a tx n k) - 1) (fun c => ?_) (fun c => ?_)
      · have hrd := rdN_is (by omega) hall (fm_end ha (show eT a tx n (tq a tx n k) = n + 1 by omega))
        rw [← hrd]
        exact h1 hw σ2 (f1.tr (frM.of hf (by decide) (by decide))) hs2 (fun j hj => hrow j (by omega))
      · have hz := fm_pos ha q2 q1 (by omega) hwk
        obtain ⟨w1, w2, w3⟩ := fm_spec hz
        have hst := (nx_may rfl (sT_nx w2).2.2).2.1
        refine m_startOf hs2.1 (by omega) (by omega) ?_
        rw [show oI (stP a tx n (tq a tx n k) (eT a tx n (tq a tx n k) - 1)) = nI (staK a tx n k) from by unfold oI; rw [if_neg hst]; rfl]
        refine ⟨memK a tx n k + 1, l41 _ k σ2 (by omega) hz q1 q2 hst hf hrow (fun σ3 f3 r3 => ?_) _ 0 (by omega) (by omega)⟩
        refine ih (k + 1) σ3 (by omega) (fun i hi => ?_) w3 f3 r3
        rcases Nat.lt_or_ge i k with y | y
        · exact hall i y
        · rw [show i = k by omega]; exact hz
  refine ⟨fun c => ?_, fun c => ?_⟩
  · have hw : 0 < wT a tx n 0 := by
      rcases Nat.eq_zero_or_pos (wT a tx n 0) with q | q
      · rw [q] at c; exact absurd rfl c
      · exact q
    have h3 := l22 hw 18 0 σ1 rfl (fun i hi => absurd hi (Nat.not_lt_zero i)) hw frR.rf (fun j hj => absurd hj (Nat.not_lt_zero j))
    rw [show eT a tx n (tq a tx n 0) = 1 from eT_zero ha] at h3
    exact ⟨_, h3⟩
  · have e2 := (nI_eq (b := 0) (by omega) (by omega)).mp c
    exact h0 (capN_0.mp e2) σ1 f1 s1
