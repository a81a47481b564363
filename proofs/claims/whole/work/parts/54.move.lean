/-! move and remove, both sides -/
theorem hnN_1 (hn : Nat) : 1 ≤ hnN hn ∧ hnN hn ≤ 8 := by unfold hnN; split <;> omega
theorem paN_last {hn : Nat} (h8 : hn ≤ 8) (pa : Nat → Nat → Nat) (a : Nat → Nat) : paN hn pa a (hnN hn - 1) = a := by
  unfold paN hnN
  by_cases c : hn < 8
  · rw [if_pos c, if_pos c, if_pos (by omega)]
  · rw [if_neg c, if_neg c, if_pos (by omega)]
def nxE (m r : Nat) : Nat := if r < m then r else r + 1
theorem op_move {σ : Sg} (h : R σ) (x y : Int32) {post : Int32 → Sg → Prop} (hp : ∀ r σ1, (∀ post2 : Int32 → Sg → Prop, (∀ σ2, R σ2 → post2 r σ2) → wpX7_move x y σ1 post2) → post r σ1) : wpX6_move x y σ post := by
  obtain ⟨a, tx, n, hn, pa, ke, im, h⟩ := h
  have ha := h.1.1.1
  have h6 := ha.1
  have hW := h.1.2.2.2.2.1
  have hD := h.1.1.2.2.1
  have hN := hnN_1 hn
  have hpl := paN_last h.2.2.1.1 pa a
  unfold wpX6_move
  refine v_has ha hD.1 x (fun m hm ex => ⟨fun w => absurd w (by decide), fun _ => v_has ha hD.1 y (fun t ht ey => ⟨fun _ => ?_, fun w => absurd w (by decide)⟩) (fun hno => ⟨fun w => absurd rfl w, fun _ => ?_⟩)⟩) (fun hno => ⟨fun _ => ?_, fun w => absurd rfl w⟩)
  · subst ex
    subst ey
    refine q_begin h (fun σ1 f1 c1 => v_reseat ha c1.2.2.2.2.1 c1.2.2.2.2.2.1 hm ht (fun σ2 v2 => ?_))
    have hst := c1.mvd hm ht (Nat.le_refl _) v2
    refine hp _ _ (fun post2 h2 => ?_)
    have up : ∀ k, 98 < k → σ2.1 k = σ.1 k := fun k hk => (hst.1 k (by omega)).1
    have hW2 : repW σ2 a := by unfold repW; rw [up 118 (by decide)]; exact hW
    unfold wpX7_move
    refine m_isMember ha hW2 (nI m) (fun _ _ _ => ⟨fun w => absurd w (by decide), fun _ => m_isMember ha hW2 (nI t) (fun _ _ _ => ⟨fun _ => q_remember h up (fun σ3 hW3 m3 => ?_), fun w => absurd w (by decide)⟩) (fun hno => absurd rfl (hno t ht))⟩) (fun hno => absurd rfl (hno m hm))
    have key : ∀ r k nx σ4, k + r = a 0 → stM σ2 σ4 (hnN hn) (paN hn pa a) a → (∀ j, j < k → σ4.1 122 j = nI (mvF m t j)) → nx ≤ 8 → (if nx = m then nx + 1 else nx) = nxE m (k - if t < k then 1 else 0) → BX7_move_27 (nI m) (nI t) post2 (r + 1) (nI nx) (nI k) σ4 := by
      intro r
      induction r with
      | zero =>
        intro k nx σ4 hk m4 hf hnx hb
        rw [BX7_move_27, z0, m4.2.2.2.2.2 0 (by decide)]
        refine ⟨in0_50, pk_le (a 0) k (fun _ => ⟨in0_50, ?_⟩) (fun c => by omega)⟩
        exact m_arrange ha m4 hN.1 hN.2 hpl h6 (fun j hj => ⟨hf j (by omega), by have := mv_lt hm ht hj; omega⟩) (fun σ5 m5 => h2 σ5 (h.fin hst m5).r)
      | succ r ih =>
        intro k nx σ4 hk m4 hf hnx hb
        rw [BX7_move_27, z0, m4.2.2.2.2.2 0 (by decide)]
        refine ⟨in0_50, pk_le (a 0) k (fun c => by omega) (fun c => ?_)⟩
        have hgo : ∀ ny, ny ≤ 9 → ny = nxE m (k - if t < k then 1 else 0) → BX7_move_46 (nI m) (nI t) (BX7_move_27 (nI m) (nI t) post2 (r + 1)) post2 (nI ny) (nI k) σ4 := by
          intro ny hny9 hny
          have hny8 : ny ≤ 6 := by
            have hq : ∀ q, q ≤ 5 → nxE m q ≤ 6 := fun q hq => by unfold nxE; split <;> omega
            rw [hny]; exact hq _ (by omega)
          unfold BX7_move_46
          refine ⟨fun w => ?_, fun w => ?_⟩
          · have hkt : k ≠ t := fun q => w (by rw [q])
            unfold BX7_move_63
            refine ⟨pk_in k 6 (by omega), fun σ5 e5 => ⟨fun _ => ?_, fun w2 => absurd w2 w⟩⟩
            rw [nI_clamp (by omega)] at e5
            rw [nI_1, nI_1]
            refine ih (k + 1) (ny + 1) σ5 (by omega) (m4.f22 e5) (fun j hj => ?_) (by omega) ?_
            · rw [e5, setI_1]
              by_cases z : j = k
              · rw [if_pos ⟨rfl, z⟩, hny, z]
                congr 1
                unfold nxE mvF
                rw [if_neg hkt]
                by_cases g : t < k
                · rw [if_pos g]
                  by_cases g2 : k - 1 < m
                  · rw [if_pos g2, if_neg (by omega), if_pos (by omega)]
                  · rw [if_neg g2, if_neg (by omega), if_neg (by omega)]; omega
                · rw [if_neg g]
                  by_cases g2 : k < m
                  · rw [if_pos (by omega), if_neg (by omega), if_neg (by omega)]; omega
                  · rw [if_neg (by omega), if_pos (by omega)]; omega
              · rw [if_neg (fun q => z q.2)]; exact hf j (by omega)
            · rw [hny]
              unfold nxE
              by_cases g : t < k
              · rw [if_pos g, if_pos (show t < k + 1 by omega)]
                by_cases g2 : k - 1 < m
                · rw [if_pos g2]
                  by_cases g3 : k - 1 + 1 = m
                  · rw [if_pos g3, if_neg (by omega)]; omega
                  · rw [if_neg g3, if_pos (by omega)]; omega
                · rw [if_neg g2, if_neg (by omega), if_neg (by omega)]; omega
              · rw [if_neg g, if_neg (show ¬ t < k + 1 by omega)]
                by_cases g2 : k - 0 < m
                · rw [if_pos g2]
                  by_cases g3 : k - 0 + 1 = m
                  · rw [if_pos g3, if_neg (by omega)]; omega
                  · rw [if_neg g3, if_pos (by omega)]; omega
                · rw [if_neg g2, if_neg (by omega), if_neg (by omega)]; omega
          · have hkt : k = t := (nI_eq (by omega) (by omega)).mp w
            unfold BX7_move_63
            refine ⟨pk_in k 6 (by omega), fun σ5 e5 => ⟨fun w2 => absurd w w2, fun _ => ?_⟩⟩
            rw [nI_clamp (by omega)] at e5
            rw [nI_1, show nI ny + (0 : Int32) = nI ny from nI_add ny 0]
            refine ih (k + 1) ny σ5 (by omega) (m4.f22 e5) (fun j hj => ?_) (by omega) ?_
            · rw [e5, setI_1]
              by_cases z : j = k
              · rw [if_pos ⟨rfl, z⟩, z, hkt]
                unfold mvF; rw [if_pos rfl]
              · rw [if_neg (fun q => z q.2)]; exact hf j (by omega)
            · rw [if_neg (show ¬ t < k by omega)] at hny
              rw [if_pos (show t < k + 1 by omega), hny]
              unfold nxE
              by_cases g2 : k - 0 < m
              · rw [if_pos g2, if_neg (by omega), if_pos (by omega)]; omega
              · rw [if_neg g2, if_neg (by omega), if_neg (by omega)]; omega
        refine ⟨fun w => hgo nx (by omega) ?_, fun w => ?_⟩
        · rw [if_neg (fun q => w (by rw [q]))] at hb; exact hb
        · rw [nI_1]
          rw [if_pos ((nI_eq (by omega) (by omega)).mp w)] at hb
          exact hgo (nx + 1) (by omega) hb
    refine ⟨_, key (a 0) 0 0 σ3 (by omega) m3 (fun j hj => absurd hj (Nat.not_lt_zero j)) (by omega) ?_⟩
    unfold nxE
    by_cases g : 0 = m
    · rw [if_pos g, if_neg (by omega)]
      omega
    · rw [if_neg g, if_pos (by omega)]
      omega
  · refine hp _ _ (fun post2 h2 => ?_)
    unfold wpX7_move
    exact m_isMember ha hW x (fun _ _ _ => ⟨fun w => absurd w (by decide), fun _ => m_isMember ha hW y (fun b hb e => absurd e (hno b hb)) (fun _ => ⟨fun w => absurd rfl w, fun _ => h2 σ h.r⟩)⟩) (fun hno => absurd ex (hno m hm))
  · refine hp _ _ (fun post2 h2 => ?_)
    unfold wpX7_move
    exact m_isMember ha hW x (fun m hm e => absurd e (hno m hm)) (fun _ => ⟨fun _ => h2 σ h.r, fun w => absurd rfl w⟩)
theorem op_remove {σ : Sg} (h : R σ) (x : Int32) {post : Int32 → Sg → Prop} (hp : ∀ r σ1, (∀ post2 : Int32 → Sg → Prop, (∀ σ2, R σ2 → post2 r σ2) → wpX7_remove x σ1 post2) → post r σ1) : wpX6_remove x σ post := by
  obtain ⟨a, tx, n, hn, pa, ke, im, h⟩ := h
  have ha := h.1.1.1
  have h6 := ha.1
  have hW := h.1.2.2.2.2.1
  have hD := h.1.1.2.2.1
  have hN := hnN_1 hn
  have hpl := paN_last h.2.2.1.1 pa a
  unfold wpX6_remove
  refine v_has ha hD.1 x (fun m hm ex => ⟨fun _ => ?_, fun w => absurd w (by decide)⟩) (fun hno => ⟨fun w => absurd rfl w, fun _ => ?_⟩)
  · subst ex
    refine q_begin h (fun σ1 f1 c1 => v_takeOut ha c1.2.2.2.2.1 c1.2.2.2.2.2.1 hm (fun σ2 v2 => ?_))
    have hst := c1.mvd hm (show a 0 - 1 < a 0 by omega) (show a 0 - 1 ≤ a 0 by omega) v2
    rw [v2.2.2.2.1]
    refine hp _ _ (fun post2 h2 => ?_)
    have up : ∀ k, 98 < k → σ2.1 k = σ.1 k := fun k hk => (hst.1 k (by omega)).1
    have hW2 : repW σ2 a := by unfold repW; rw [up 118 (by decide)]; exact hW
    unfold wpX7_remove
    refine m_isMember ha hW2 (nI m) (fun _ _ _ => ⟨fun _ => q_remember h up (fun σ3 hW3 m3 => ⟨in0_50, ?_⟩), fun w => absurd w (by decide)⟩) (fun hno => absurd rfl (hno m hm))
    rw [z0, hW3 0 (by decide), show nI (a 0) - (1 : Int32) = nI (a 0 - 1) from pk_sub (b := 1) (by omega)]
    have key : ∀ r k σ4, k + r = a 0 - 1 → stM σ2 σ4 (hnN hn) (paN hn pa a) a → (∀ j, j < k → σ4.1 122 j = nI (mvF m (a 0 - 1) j)) → BX7_remove_25 (nI m) post2 (r + 1) (nI (a 0 - 1)) (nI k) σ4 := by
      intro r
      induction r with
      | zero =>
        intro k σ4 hk m4 hf
        rw [BX7_remove_25]
        refine pk_le (a 0 - 1) k (fun _ => ?_) (fun c => by omega)
        exact m_arrange ha m4 hN.1 hN.2 hpl (by omega) (fun j hj => ⟨hf j (by omega), by have := mv_lt hm (show a 0 - 1 < a 0 by omega) (show j < a 0 by omega); omega⟩) (fun σ5 m5 => h2 σ5 (h.fin hst m5).r)
      | succ r ih =>
        intro k σ4 hk m4 hf
        rw [BX7_remove_25]
        refine pk_le (a 0 - 1) k (fun c => by omega) (fun c => pk_le m k (fun c2 => ⟨pk_in k 6 (by omega), fun σ5 e5 => ?_⟩) (fun c2 => ⟨pk_in k 6 (by omega), fun σ5 e5 => ?_⟩))
        · rw [nI_clamp (by omega), nI_1] at e5
          rw [nI_1]
          refine ih (k + 1) σ5 (by omega) (m4.f22 e5) (fun j hj => ?_)
          rw [e5, setI_1]
          by_cases z : j = k
          · rw [if_pos ⟨rfl, z⟩, z]
            unfold mvF; rw [if_neg (by omega), if_pos (by omega)]
          · rw [if_neg (fun q => z q.2)]; exact hf j (by omega)
        · rw [nI_clamp (by omega)] at e5
          rw [nI_1]
          refine ih (k + 1) σ5 (by omega) (m4.f22 e5) (fun j hj => ?_)
          rw [e5, setI_1]
          by_cases z : j = k
          · rw [if_pos ⟨rfl, z⟩, z]
            unfold mvF; rw [if_neg (by omega), if_neg (by omega), if_neg (by omega)]
          · rw [if_neg (fun q => z q.2)]; exact hf j (by omega)
    exact ⟨_, key (a 0 - 1) 0 σ3 (by omega) m3 (fun j hj => absurd hj (Nat.not_lt_zero j))⟩
  · refine hp _ _ (fun post2 h2 => ?_)
    unfold wpX7_remove
    exact m_isMember ha hW x (fun m hm e => absurd e (hno m hm)) (fun _ => ⟨fun w => absurd rfl w, fun _ => h2 σ h.r⟩)
