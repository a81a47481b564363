/-! the reference's normal form -/
def repF (σ : Sg) (L : List Nat) : Prop := ∀ j, j < L.length → σ.1 128 j = nI (L.getD j 0)
theorem f_put {σ σ' : Sg} {L : List Nat} {x : Nat} (hR : repF σ L) (hl : L.length < 200) (e : σ' = setI σ 128 (nI L.length).toNatClampNeg (nI x)) : repF σ' (L ++ [x]) ∧ frR 128 128 σ σ' := by
  rw [nI_clamp (by omega)] at e
  refine ⟨fun j hj => ?_, by rw [e]; exact frR.rf.i _ _ (by decide)⟩
  rw [List.length_append] at hj
  have hj2 : j < L.length + 1 := hj
  rw [e, setI_1]
  by_cases q : j = L.length
  · rw [if_pos ⟨rfl, q⟩, q]; simp
  · rw [if_neg (fun w => q w.2), hR j (by omega)]
    have : (L ++ [x]).getD j 0 = L.getD j 0 := by
      simp [List.getD_eq_getElem?_getD, List.getElem?_append_left (show j < L.length by omega)]
    rw [this]
theorem m_layValue {σ : Sg} {a tx : Nat → Nat} {n m v : Nat} (hs : mSt σ a tx n) (hm : m < a 0) (hv : v < 1000) {L : List Nat} (hR : repF σ L) (hl : L.length ≤ 100) {post : Int32 → Sg → Prop} (h : ∀ σ', frR 128 128 σ σ' → repF σ' (L ++ valL a m v) → post (nI (L ++ valL a m v).length) σ') : wpX7_layValue (nI L.length) (nI m) (nI v) σ post := by
  have ha := hs.1.1
  have h6 := ha.1
  have hkind := (ha.2.2.2 m hm).2.2.1
  have d10 : nI v / (10 : Int32) = nI (v / 10) := pk_div (d := 10) (by omega) (by decide) (by decide)
  have d100 : nI v / (100 : Int32) = nI (v / 100) := pk_div (d := 100) (by omega) (by decide) (by decide)
  have r10 : nI v - nI v / (10 : Int32) * (10 : Int32) = nI (v % 10) := pk_rem (d := 10) (by omega) (by decide) (by decide)
  have r1010 : nI v / (10 : Int32) - nI v / (10 : Int32) / (10 : Int32) * (10 : Int32) = nI (v / 10 % 10) := by
    rw [d10]; exact pk_rem (d := 10) (by omega) (by decide) (by decide)
  have hlen : ∀ (L1 : List Nat) x, (L1 ++ [x]).length = L1.length + 1 := fun L1 x => by simp
  unfold valL at h
  unfold wpX7_layValue
  rw [show (20 : Int32) + nI m = nI (20 + m) from nI_add 20 m]
  refine ⟨pk_in (20 + m) 50 (by omega), ?_⟩
  rw [nI_clamp (by omega), hs.1.2.2.1 _ (by omega)]
  have h92 : ∀ σ1 (L1 : List Nat) x1, frR 128 128 σ σ1 → repF σ1 L1 → L1.length < 150 → (a (20 + m) = 1) → L1 ++ [48 + v % 10] = L ++ numL v → BX7_layValue_92 x1 (nI m) (nI v) post (nI L1.length) σ1 := by
    intro σ1 L1 x1 f1 R1 hl1 hk e1
    unfold BX7_layValue_92
    rw [r10, show (48 : Int32) + nI (v % 10) = nI (48 + v % 10) from nI_add 48 _]
    refine ⟨pk_in L1.length 200 (by omega), fun σ2 e2 => ?_⟩
    obtain ⟨R2, f2⟩ := f_put R1 (by omega) e2
    rw [if_pos hk] at h
    rw [nI_1, ← hlen L1 (48 + v % 10)]
    rw [e1] at R2 ⊢
    exact h σ2 (f1.tr f2) R2
  have h66 : ∀ σ1 (L1 : List Nat) x1, frR 128 128 σ σ1 → repF σ1 L1 → L1.length < 149 → (a (20 + m) = 1) → L1 ++ ((if 10 ≤ v then [48 + v / 10 % 10] else []) ++ [48 + v % 10]) = L ++ numL v → BX7_layValue_66 x1 (nI m) (nI v) post (nI L1.length) σ1 := by
    intro σ1 L1 x1 f1 R1 hl1 hk e1
    unfold BX7_layValue_66
    refine pk_le v 9 (fun c => ?_) (fun c => ⟨pk_in L1.length 200 (by omega), fun σ2 e2 => ?_⟩)
    · rw [if_neg (by omega)] at e1
      exact h92 σ1 L1 x1 f1 R1 (by omega) hk e1
    · rw [if_pos (by omega)] at e1
      rw [r1010, show (48 : Int32) + nI (v / 10 % 10) = nI (48 + v / 10 % 10) from nI_add 48 _] at e2
      obtain ⟨R2, f2⟩ := f_put R1 (by omega) e2
      rw [nI_1, ← hlen L1 (48 + v / 10 % 10)]
      exact h92 σ2 _ x1 (f1.tr f2) R2 (by rw [hlen]; omega) hk (by rw [← e1]; simp)
  have h30 : ∀ x1, a (20 + m) ≠ 2 → BX7_layValue_30 x1 (nI m) (nI v) post (nI L.length) σ := by
    intro x1 hk2
    unfold BX7_layValue_30
    rw [show (20 : Int32) + nI m = nI (20 + m) from nI_add 20 m]
    refine ⟨pk_in (20 + m) 50 (by omega), ?_⟩
    rw [nI_clamp (by omega), hs.1.2.2.1 _ (by omega)]
    by_cases k : a (20 + m) = 1
    · refine ⟨fun w => absurd (by rw [k]; rfl) w, fun _ => ?_⟩
      refine pk_le v 99 (fun c => ?_) (fun c => ⟨pk_in L.length 200 (by omega), fun σ2 e2 => ?_⟩)
      · exact h66 σ L x1 frR.rf hR (by omega) k (by unfold numL; rw [if_neg (show ¬ 100 ≤ v by omega)]; rfl)
      · rw [d100, show (48 : Int32) + nI (v / 100) = nI (48 + v / 100) from nI_add 48 _] at e2
        obtain ⟨R2, f2⟩ := f_put hR (by omega) e2
        rw [nI_1, ← hlen L (48 + v / 100)]
        exact h66 σ2 _ x1 f2 R2 (by rw [hlen]; omega) k (by unfold numL; rw [if_pos (show 100 ≤ v by omega)]; simp)
    · have k0 : a (20 + m) = 0 := by omega
      rw [if_neg k, if_neg hk2, List.append_nil] at h
      exact ⟨fun _ => h σ frR.rf hR, fun w => absurd w (by rw [k0]; decide)⟩
  by_cases k : a (20 + m) = 2
  · refine ⟨fun w => absurd (by rw [k]; rfl) w, fun _ => ⟨pk_in L.length 200 (by omega), fun σ2 e2 => ?_⟩⟩
    rw [show (65 : Int32) + nI v = nI (65 + v) from nI_add 65 v] at e2
    obtain ⟨R2, f2⟩ := f_put hR (by omega) e2
    rw [if_neg (by omega), if_pos k] at h
    unfold BX7_layValue_30
    rw [show (20 : Int32) + nI m = nI (20 + m) from nI_add 20 m]
    refine ⟨pk_in (20 + m) 50 (by omega), ?_⟩
    have hs2 := hs.fr f2 (by decide)
    rw [nI_clamp (by omega), hs2.1.2.2.1 _ (by omega), k, nI_1, ← hlen L (65 + v)]
    exact ⟨fun _ => h σ2 f2 R2, fun w => absurd w (by decide)⟩
  · refine ⟨fun _ => h30 _ k, fun w => absurd ((nI_eq (b := 2) (by omega) (by omega)).mp w) k⟩
theorem m_layForm {σ : Sg} {a tx : Nat → Nat} {n : Nat} (hs : mSt σ a tx n) (hrow : ∀ k, k < rdN a tx n → lrRow σ a tx n k) {post : Int32 → Sg → Prop} (h : ∀ σ', frR 128 128 σ σ' → repF σ' (nfM a tx n (a 0)) → post (nI (nfM a tx n (a 0)).length) σ') : wpX7_layForm (nI (rdN a tx n)) σ post := by
  have ha := hs.1.1
  have h6 := ha.1
  have hn := hs.1.2.1.1
  have hr := rdN_le a tx n
  have hsep := ha.2.1
  have hlen : ∀ (L1 : List Nat) x, (L1 ++ [x]).length = L1.length + 1 := fun L1 x => by simp
  have row1 : ∀ σ1 k, frR 128 128 σ σ1 → k < rdN a tx n → lrRow σ1 a tx n k := by
    intro σ1 k f1 hk
    unfold lrRow
    rw [(f1 125 (by decide)).1, (f1 126 (by decide)).1, (f1 127 (by decide)).1]
    exact hrow k hk
  -- one word
  have l65 : ∀ (K : Int32 → Int32 → Int32 → Sg → Prop) m k, m < a 0 → k < rdN a tx n → ∀ L : List Nat, (L ++ occL a m (vlK a tx n k)).length ≤ 60 → (∀ σ', frR 128 128 σ σ' → repF σ' (L ++ occL a m (vlK a tx n k)) → K (nI (L ++ occL a m (vlK a tx n k)).length) (nI m) (nI (k + 1)) σ') → ∀ r j σ1, j + r = wl a m → frR 128 128 σ σ1 → repF σ1 (L ++ (List.range j).map (fun k => a (2 + 3 * m + k))) → BX7_layForm_65 (nI (rdN a tx n)) K post (r + 1) (nI (L ++ (List.range j).map (fun k => a (2 + 3 * m + k))).length) (nI m) (nI k) (nI j) σ1 := by
    intro K m k hm hk L hl hK r
    have w3 := wl_le a m
    have hLl : L.length ≤ 60 := by rw [List.length_append] at hl; omega
    induction r with
    | zero =>
      intro j σ1 hj f1 R1
      have hs1 := hs.fr f1 (by decide)
      rw [BX7_layForm_65]
      refine m_wordLength ha (by omega) hs1.1.2.2.1 (pk_le (wl a m) j (fun _ => ⟨pk_in k 20 (by omega), ?_⟩) (fun c => by omega))
      have hj0 : j = wl a m := by omega
      subst hj0
      rw [nI_clamp (by omega), (row1 σ1 k f1 hk).2.2]
      have hv : vlK a tx n k < 1000 := vlP_lt hs.1.2.1 ha
      refine m_layValue hs1 hm hv R1 (by rw [List.length_append, List.length_map, List.length_range]; omega) (fun σ2 f2 R2 => ?_)
      have e : (L ++ (List.range (wl a m)).map (fun k => a (2 + 3 * m + k))) ++ valL a m (vlK a tx n k) = L ++ occL a m (vlK a tx n k) := by
        rw [List.append_assoc]; rfl
      rw [e] at R2 ⊢
      rw [nI_1]
      exact hK σ2 (f1.tr f2) R2
    | succ r ih =>
      intro j σ1 hj f1 R1
      have hs1 := hs.fr f1 (by decide)
      rw [BX7_layForm_65]
      refine m_wordLength ha (by omega) hs1.1.2.2.1 (pk_le (wl a m) j (fun c => by omega) (fun c => m_letter (by omega) (by omega) hs1.1.2.2.1 ?_))
      have hl1 : (L ++ (List.range j).map (fun k => a (2 + 3 * m + k))).length < 200 := by rw [List.length_append, List.length_map, List.length_range]; omega
      refine ⟨pk_in _ 200 hl1, fun σ2 e2 => ?_⟩
      obtain ⟨R2, f2⟩ := f_put R1 hl1 e2
      rw [nI_1, nI_1, ← hlen _ (a (2 + 3 * m + j))]
      have e : (L ++ (List.range j).map (fun k => a (2 + 3 * m + k))) ++ [a (2 + 3 * m + j)] = L ++ (List.range (j + 1)).map (fun k => a (2 + 3 * m + k)) := by
        rw [List.range_succ, List.map_append, List.append_assoc]; rfl
      rw [e] at R2 ⊢
      exact ih (j + 1) σ2 (by omega) (f1.tr f2) R2
  have l17 : ∀ (K : Int32 → Int32 → Sg → Prop) m, m < a 0 → (∀ σ', frR 128 128 σ σ' → repF σ' (nfM a tx n (m + 1)) → K (nI (nfM a tx n (m + 1)).length) (nI (m + 1)) σ') → ∀ r k σ1, k + r = rdN a tx n → frR 128 128 σ σ1 → repF σ1 (nfK a tx n m (nfM a tx n m) k) → BX7_layForm_17 (nI (rdN a tx n)) K post (r + 1) (nI (nfK a tx n m (nfM a tx n m) k).length) (nI m) (nI k) σ1 := by
    intro K m hm hK r
    induction r with
    | zero =>
      intro k σ1 hk f1 R1
      rw [BX7_layForm_17]
      refine pk_le (rdN a tx n) k (fun _ => ?_) (fun c => by omega)
      rw [nI_1]
      rw [show k = rdN a tx n by omega] at R1 ⊢
      exact hK σ1 f1 R1
    | succ r ih =>
      intro k σ1 hk f1 R1
      have hs1 := hs.fr f1 (by decide)
      rw [BX7_layForm_17]
      refine pk_le (rdN a tx n) k (fun c => by omega) (fun c => ⟨pk_in k 20 (by omega), ?_⟩)
      have hmk := memK_lt c
      have hlen2 := nf_len (tx := tx) (n := n) ha hm (k := k + 1) (by omega)
      have hlen1 := nf_len (tx := tx) (n := n) ha hm (k := k) (by omega)
      have e1 : nfK a tx n m (nfM a tx n m) (k + 1) = if memK a tx n k = m then nfS a (nfK a tx n m (nfM a tx n m) k) m (vlK a tx n k) else nfK a tx n m (nfM a tx n m) k := rfl
      have ihk := ih (k + 1)
      have hrk := row1 σ1 k f1 c
      have in1 : vp_in ((1 : Int32)) 50 := in1_50
      rw [nI_clamp (by omega), hrk.1]
      by_cases q : memK a tx n k = m
      · rw [if_pos q] at e1
        rw [e1] at hlen2 ihk
        refine ⟨fun w => absurd (by rw [q]) w, fun _ => ?_⟩
        have hgo : ∀ σ2 (L2 : List Nat), frR 128 128 σ σ2 → repF σ2 L2 → L2 ++ occL a m (vlK a tx n k) = nfS a (nfK a tx n m (nfM a tx n m) k) m (vlK a tx n k) → ∃ nf, BX7_layForm_65 (nI (rdN a tx n)) (BX7_layForm_17 (nI (rdN a tx n)) K post (r + 1)) post nf (nI L2.length) (nI m) (nI k) ((0 : Int32)) σ2 := by
          intro σ2 L2 f2 R2 e2
          have h3 := l65 (BX7_layForm_17 (nI (rdN a tx n)) K post (r + 1)) m k hm c L2 (by rw [e2]; omega) (fun σ3 f3 R3 => by
            rw [e2] at R3 ⊢
            exact ihk σ3 (by omega) f3 R3) (wl a m) 0 σ2 (by omega) f2 (by rw [List.range_zero, List.map_nil, List.append_nil]; exact R2)
          rw [List.range_zero, List.map_nil, List.append_nil] at h3
          exact ⟨_, h3⟩
        refine pk_le (nfK a tx n m (nfM a tx n m) k).length 0 (fun z => ?_) (fun z => ⟨in1, ?_⟩)
        · exact hgo σ1 _ f1 R1 (by unfold nfS; rw [if_neg (by omega)])
        · rw [z1, hs1.1.2.2.1 1 (by decide)]
          refine ⟨fun w => ?_, fun w => ⟨in1, pk_in (nfK a tx n m (nfM a tx n m) k).length 200 (by omega), fun σ2 e2 => ?_⟩⟩
          · have hs0 : a 1 = 0 := (nI_eq (by omega) (by omega)).mp (w.trans nI_0.symm)
            exact hgo σ1 _ f1 R1 (by unfold nfS; rw [if_neg (by omega)])
          · have hs9 : a 1 ≠ 0 := fun y => w (by rw [y]; rfl)
            obtain ⟨R2, f2⟩ := f_put R1 (by omega) e2
            rw [nI_1, ← hlen _ (a 1)]
            exact hgo σ2 _ (f1.tr f2) R2 (by unfold nfS; rw [if_pos ⟨by omega, hs9⟩])
      · rw [if_neg q] at e1
        rw [e1] at ihk
        refine ⟨fun _ => ?_, fun w => absurd ((nI_eq (a := memK a tx n k) (by omega) (by omega)).mp w) q⟩
        rw [nI_1]
        exact ihk σ1 (by omega) f1 R1
  have l4 : ∀ r m σ1, m + r = a 0 → frR 128 128 σ σ1 → repF σ1 (nfM a tx n m) → BX7_layForm_4 (nI (rdN a tx n)) post (r + 1) (nI (nfM a tx n m).length) (nI m) σ1 := by
    intro r
    induction r with
    | zero =>
      intro m σ1 hm f1 R1
      have hs1 := hs.fr f1 (by decide)
      rw [BX7_layForm_4, z0, hs1.1.2.2.1 0 (by decide)]
      refine ⟨in0_50, pk_le (a 0) m (fun _ => ?_) (fun c => by omega)⟩
      rw [show m = a 0 by omega] at R1 ⊢
      exact h σ1 f1 R1
    | succ r ih =>
      intro m σ1 hm f1 R1
      have hs1 := hs.fr f1 (by decide)
      rw [BX7_layForm_4, z0, hs1.1.2.2.1 0 (by decide)]
      exact ⟨in0_50, pk_le (a 0) m (fun c => by omega) (fun c => ⟨_, l17 (BX7_layForm_4 (nI (rdN a tx n)) post (r + 1)) m c (fun σ2 f2 R2 => ih (m + 1) σ2 (by omega) f2 R2) (rdN a tx n) 0 σ1 (by omega) f1 R1⟩)⟩
  exact ⟨_, l4 (a 0) 0 σ (by omega) frR.rf (fun j hj => absurd hj (Nat.not_lt_zero j))⟩
