/-! the reference's order tables -/
def mOrd (σ : Sg) (a : Nat → Nat) : Prop := (∀ t, t < 4096 → isB a t = true → σ.2.1 129 t = lN (oc a 0 t)) ∧ ∀ t, t < 4096 → σ.2.1 130 t = lN (bhS a 4096 t)
theorem setL_row {σ : Sg} {k j q : Nat} {v : Int64} (h : q ≠ k) : (setL σ k j v).2.1 q = σ.2.1 q := by
  funext x; rw [setL_2, if_neg (fun w => h w.1)]
theorem m_layOrders {σ : Sg} {a : Nat → Nat} (ha : wfA a) (hW : repW σ a) {post : Sg → Prop} (h : ∀ σ', frR 129 130 σ σ' → σ'.1 = σ.1 → mOrd σ' a → post σ') : wpX7_layOrders σ post := by
  have h6 := ha.1
  have h4 := pow4_le h6
  have hWr : ∀ σ1 : Sg, σ1.1 = σ.1 → repW σ1 a := fun σ1 e => by unfold repW; rw [e]; exact hW
  -- forward
  have l124 : ∀ (K : Int32 → Sg → Prop) u, u < 4096 → (∀ σ', frR 129 130 σ σ' → σ'.1 = σ.1 → (∀ t, t < 4096 → isB a t = true → σ'.2.1 129 t = lN (oc a 0 t)) → (∀ t, t < 4096 → σ'.2.1 130 t = lN (bhS a (u + 1) t)) → K (nI (u + 1)) σ') → ∀ r k σ1, k + r = a 0 → frR 129 130 σ σ1 → σ1.1 = σ.1 → (∀ t, t < 4096 → isB a t = true → σ1.2.1 129 t = lN (oc a 0 t)) → (∀ t, t < 4096 → σ1.2.1 130 t = lN (bhP a u k t)) → BX7_layOrders_124 K post (r + 1) (nI u) (nI k) σ1 := by
    intro K u hu hK r
    induction r with
    | zero =>
      intro k σ1 hk hf e1 hA hB
      rw [BX7_layOrders_124, z0, hWr σ1 e1 0 (by decide)]
      refine ⟨in0_50, pk_le (a 0) k (fun _ => ?_) (fun c => by omega)⟩
      rw [nI_1]
      rw [show k = a 0 by omega] at hB
      exact hK σ1 hf e1 hA hB
    | succ r ih =>
      intro k σ1 hk hf e1 hA hB
      rw [BX7_layOrders_124, z0, hWr σ1 e1 0 (by decide)]
      refine ⟨in0_50, pk_le (a 0) k (fun c => by omega) (fun c => ⟨pk_in u 4096 hu, ?_⟩)⟩
      have hbl := bhS_le ha u u
      rw [nI_clamp (by omega), hB u hu, bhP_old (Nat.le_refl u), lg_cmp_le, show (0 : Int64) = lN 0 from rfl, pk_lLE (by omega) (by decide)]
      refine ⟨fun z => ?_, fun z => m_may ha (hWr σ1 e1) (by omega) c (bI_0 _ (fun e => ?_) (fun e => m_with (by omega) ?_))⟩
      · rw [nI_1]
        have hz : bhS a u u = 0 := by omega
        refine hK σ1 hf e1 hA (fun t ht => ?_)
        rw [hB t ht]
        congr 1
        have q1 : ∀ c, smN (fun m => if mayB a u m = true ∧ t = u + 4 ^ m then bhS a u u else 0) c = 0 := fun c => smN_zero c (fun m _ => by rw [hz]; split <;> rfl)
        show bhS a u t + _ = bhS a u t + _
        rw [q1, q1]
      · rw [nI_1]
        refine ih (k + 1) σ1 (by omega) hf e1 hA (fun t ht => ?_)
        rw [bhP_1, if_neg (fun w => by rw [e] at w; cases w.1), Nat.add_zero]
        exact hB t ht
      · have hul : u < 4 ^ a 0 := by
          rcases Nat.lt_or_ge u (4 ^ a 0) with y | y
          · exact y
          · rw [bhS_out ha u u y] at z; exact absurd (Nat.le_refl 0) z
        have hnl := tal_lt hul c (may_lt ha c e)
        refine ⟨pk_in (u + 4 ^ k) 4096 (by omega), pk_in u 4096 hu, pk_in (u + 4 ^ k) 4096 (by omega), fun σ2 e2 => ?_⟩
        rw [nI_clamp (by omega), hB (u + 4 ^ k) (by omega), hB u hu, bhP_old (Nat.le_refl u), lN_add] at e2
        rw [nI_1]
        refine ih (k + 1) σ2 (by omega) (by rw [e2]; exact hf.l _ _ (by decide)) (by rw [e2, setL_1]; exact e1) (fun t ht hb => by rw [e2, setL_row (by decide)]; exact hA t ht hb) (fun t ht => ?_)
        rw [e2, setL_2, bhP_1]
        by_cases q : t = u + 4 ^ k
        · rw [if_pos ⟨rfl, q⟩, if_pos ⟨e, q⟩, q]
        · rw [if_neg (fun w => q w.2), if_neg (fun w => q w.2), Nat.add_zero]
          exact hB t ht
  have l115 : ∀ r u σ1, u + r = 4096 → frR 129 130 σ σ1 → σ1.1 = σ.1 → (∀ t, t < 4096 → isB a t = true → σ1.2.1 129 t = lN (oc a 0 t)) → (∀ t, t < 4096 → σ1.2.1 130 t = lN (bhS a u t)) → BX7_layOrders_115 post (r + 1) (nI u) σ1 := by
    intro r
    induction r with
    | zero =>
      intro u σ1 hu hf e1 hA hB
      rw [BX7_layOrders_115]
      refine pk_le 4096 u (fun _ => ?_) (fun c => by omega)
      rw [show u = 4096 by omega] at hB
      exact h σ1 hf e1 ⟨hA, hB⟩
    | succ r ih =>
      intro u σ1 hu hf e1 hA hB
      rw [BX7_layOrders_115]
      exact pk_le 4096 u (fun c => by omega) (fun c => ⟨_, l124 (BX7_layOrders_115 post (r + 1)) u c (fun σ2 f2 e2 hA2 hB2 => ih (u + 1) σ2 (by omega) f2 e2 hA2 hB2) (a 0) 0 σ1 (by omega) hf e1 hA hB⟩)
  -- backward
  have l59 : ∀ (K : Int32 → Sg → Prop) v, v < 4096 → isB a v = true → ∀ own, own = gE a 0 v → (∀ σ', frR 129 130 σ σ' → σ'.1 = σ.1 → (∀ t, v ≤ t → t < 4096 → isB a t = true → σ'.2.1 129 t = lN (oc a 0 t)) → (∀ t, v ≤ t → t < 4096 → σ'.2.1 130 t = lN (bhS a 0 t)) → K (nI v + (-1)) σ') → ∀ r k σ1, k + r = a 0 → frR 129 130 σ σ1 → σ1.1 = σ.1 → σ1.2.1 129 v = lN (own + cb a 0 v k) → (∀ t, v < t → t < 4096 → isB a t = true → σ1.2.1 129 t = lN (oc a 0 t)) → (∀ t, v ≤ t → t < 4096 → σ1.2.1 130 t = lN (bhS a 0 t)) → BX7_layOrders_59 K post (r + 1) (nI v) (nI k) σ1 := by
    intro K v hv hb own ho hK r
    have hvl := isB_lt ha hv hb
    induction r with
    | zero =>
      intro k σ1 hk hf e1 hv1 hA hB
      rw [BX7_layOrders_59, z0, hWr σ1 e1 0 (by decide)]
      refine ⟨in0_50, pk_le (a 0) k (fun _ => ?_) (fun c => by omega)⟩
      refine hK σ1 hf e1 (fun t h1 h2 h3 => ?_) hB
      by_cases q : t = v
      · rw [q, hv1, oc_eq ha hvl, ho, show k = a 0 by omega]; rfl
      · exact hA t (by omega) h2 h3
    | succ r ih =>
      intro k σ1 hk hf e1 hv1 hA hB
      rw [BX7_layOrders_59, z0, hWr σ1 e1 0 (by decide)]
      refine ⟨in0_50, pk_le (a 0) k (fun c => by omega) (fun c => ⟨pk_in v 4096 hv, m_may ha (hWr σ1 e1) (by omega) c ?_⟩)⟩
      have hp := p4_pos k
      have hgo : ∀ y σ2, σ2 = setL σ1 129 v (lN (own + cb a 0 v (k + 1))) → y = nI (k + 1) → BX7_layOrders_59 K post (r + 1) (nI v) y σ2 := by
        intro y σ2 e2 hy
        rw [hy]
        refine ih (k + 1) σ2 (by omega) (by rw [e2]; exact hf.l _ _ (by decide)) (by rw [e2, setL_1]; exact e1) (by rw [e2, setL_2, if_pos ⟨rfl, rfl⟩]) (fun t h1 h2 h3 => ?_) (fun t h1 h2 => by rw [e2, setL_row (by decide)]; exact hB t h1 h2)
        rw [e2, setL_2, if_neg (fun w => by omega)]
        exact hA t h1 h2 h3
      refine bI_0 _ (fun e => ⟨pk_in v 4096 hv, fun σ2 e2 => ?_⟩) (fun e => m_with (by omega) ?_)
      · rw [nI_clamp (by omega), hv1, show (0 : Int64) = lN 0 from rfl, lN_add] at e2
        exact hgo _ σ2 (by rw [e2, cb_1, if_neg (by rw [e]; decide)]; rfl) (nI_1 k)
      · have hnl := tal_lt hvl c (may_lt ha c e)
        refine ⟨pk_in (v + 4 ^ k) 4096 (by omega), pk_in v 4096 hv, fun σ2 e2 => ?_⟩
        rw [nI_clamp (by omega), nI_clamp (by omega), hv1, hA (v + 4 ^ k) (by omega) (by omega) (isB_add ha hb c e), lN_add] at e2
        exact hgo _ σ2 (by rw [e2, cb_1, if_pos e, Nat.add_assoc]) (nI_1 k)
  have l29 : ∀ (K : Int32 → Sg → Prop) v σ1, v < 4096 → frR 129 130 σ σ1 → σ1.1 = σ.1 → (∀ t, v < t → t < 4096 → isB a t = true → σ1.2.1 129 t = lN (oc a 0 t)) → (∀ t, v < t → t < 4096 → σ1.2.1 130 t = lN (bhS a 0 t)) → (∀ σ', frR 129 130 σ σ' → σ'.1 = σ.1 → (∀ t, v ≤ t → t < 4096 → isB a t = true → σ'.2.1 129 t = lN (oc a 0 t)) → (∀ t, v ≤ t → t < 4096 → σ'.2.1 130 t = lN (bhS a 0 t)) → K (nI v + (-1)) σ') → ∀ y, y = lN (bhS a 0 v) → BX7_layOrders_29 K post (nI v) (nI v) y σ1 := by
    intro K v σ1 hv hf e1 hA hB hK y hy
    unfold BX7_layOrders_29
    refine ⟨pk_in v 4096 hv, fun σ2 e2 => ?_⟩
    rw [nI_clamp (by omega)] at e2
    have f2 : frR 129 130 σ σ2 := by rw [e2]; exact hf.l _ _ (by decide)
    have g2 : σ2.1 = σ.1 := by rw [e2, setL_1]; exact e1
    have hA2 : ∀ t, v < t → t < 4096 → isB a t = true → σ2.2.1 129 t = lN (oc a 0 t) := fun t h1 h2 h3 => by rw [e2, setL_row (by decide)]; exact hA t h1 h2 h3
    have hB2 : ∀ t, v ≤ t → t < 4096 → σ2.2.1 130 t = lN (bhS a 0 t) := by
      intro t h1 h2
      rw [e2, setL_2]
      by_cases q : t = v
      · rw [if_pos ⟨rfl, q⟩, hy, q]
      · rw [if_neg (fun w => q w.2)]; exact hB t (by omega) h2
    refine m_isState ha (hWr σ2 g2) (by omega) (bI_0 _ (fun e => ?_) (fun e => m_isWhole ha (hWr σ2 g2) (by omega) ?_))
    · refine hK σ2 f2 g2 (fun t h1 h2 h3 => ?_) hB2
      by_cases q : t = v
      · rw [q, e] at h3; cases h3
      · exact hA2 t (by omega) h2 h3
    · have hgo : ∀ own σ3, own = gE a 0 v → σ3 = setL σ2 129 (nI v).toNatClampNeg (lN own) → ∃ nf, BX7_layOrders_59 K post nf (nI v) ((0 : Int32)) σ3 := by
        intro own σ3 ho e3
        rw [nI_clamp (by omega)] at e3
        refine ⟨_, l59 K v hv e own ho hK (a 0) 0 σ3 (by omega) (by rw [e3]; exact f2.l _ _ (by decide)) (by rw [e3, setL_1]; exact g2) (by rw [e3, setL_2, if_pos ⟨rfl, rfl⟩]; rfl) (fun t h1 h2 h3 => ?_) (fun t h1 h2 => by rw [e3, setL_row (by decide)]; exact hB2 t h1 h2)⟩
        rw [e3, setL_2, if_neg (fun w => by omega)]
        exact hA2 t h1 h2 h3
      refine bI_0 _ (fun q => ⟨pk_in v 4096 hv, fun σ3 e3 => hgo 0 σ3 ?_ e3⟩) (fun q => ⟨pk_in v 4096 hv, fun σ3 e3 => hgo 1 σ3 ?_ e3⟩)
      · unfold gE; rw [if_neg (fun w => by rw [q] at w; cases w.2)]
      · unfold gE; rw [if_pos ⟨Or.inl rfl, q⟩]
  have l4 : ∀ k σ1, k ≤ 4096 → frR 129 130 σ σ1 → σ1.1 = σ.1 → (∀ t, k ≤ t → t < 4096 → isB a t = true → σ1.2.1 129 t = lN (oc a 0 t)) → (∀ t, k ≤ t → t < 4096 → σ1.2.1 130 t = lN (bhS a 0 t)) → BX7_layOrders_4 post (k + 1) (if k = 0 then -1 else nI (k - 1)) σ1 := by
    intro k
    induction k with
    | zero =>
      intro σ1 _ hf e1 hA hB
      rw [BX7_layOrders_4, if_pos rfl]
      exact ⟨fun _ => ⟨_, l115 4096 0 σ1 rfl hf e1 (fun t ht => hA t (Nat.zero_le t) ht) (fun t ht => hB t (Nat.zero_le t) ht)⟩, fun w => absurd (by decide) w⟩
    | succ v ih =>
      intro σ1 hk hf e1 hA hB
      rw [if_neg (by omega), Nat.add_sub_cancel, BX7_layOrders_4]
      refine ⟨fun w => absurd w (nI_pos (by omega)), fun _ => ⟨pk_in v 4096 (by omega), fun σ2 e2 => ?_⟩⟩
      rw [nI_clamp (by omega)] at e2
      have e3 : nI v + (-1) = if v = 0 then -1 else nI (v - 1) := by
        cases v with
        | zero => rfl
        | succ t => rw [if_neg (by omega), Nat.add_sub_cancel]; exact pk_m1 t
      have hgo : ∀ y, y = lN (bhS a 0 v) → BX7_layOrders_29 (BX7_layOrders_4 post (v + 1)) post (nI v) (nI v) y σ2 := by
        intro y hy
        refine l29 _ v σ2 (by omega) (by rw [e2]; exact hf.l _ _ (by decide)) (by rw [e2, setL_1]; exact e1) (fun t h1 h2 h3 => ?_) (fun t h1 h2 => by rw [e2, setL_row (by decide)]; exact hB t (by omega) h2) (fun σ3 f3 g3 hA3 hB3 => ?_) y hy
        · rw [e2, setL_2, if_neg (fun w => by omega)]; exact hA t (by omega) h2 h3
        · rw [e3]; exact ih σ3 (by omega) f3 g3 hA3 hB3
      refine ⟨fun w => hgo _ ?_, fun w => hgo _ ?_⟩
      · rw [show bhS a 0 v = 0 from if_neg (fun z => w (by rw [z]; rfl))]; rfl
      · have := (nI_eq (b := 0) (by omega) (by omega)).mp w
        rw [this]; rfl
  have h3 := l4 4096 σ (Nat.le_refl _) frR.rf rfl (fun t h1 h2 => by omega) (fun t h1 h2 => by omega)
  rw [if_neg (by decide)] at h3
  exact ⟨_, h3⟩
