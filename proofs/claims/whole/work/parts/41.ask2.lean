/-! more questions -/
theorem op_occurrence {σ : Sg} (h : R σ) (x y : Int32) {post : Int32 → Sg → Prop} (hp : ∀ r σ1, (∀ post2 : Int32 → Sg → Prop, (∀ σ2, R σ2 → post2 r σ2) → wpX7_occurrence x y σ1 post2) → post r σ1) : wpX6_occurrence x y σ post := by
  obtain ⟨a, tx, n, hn, pa, ke, im, h⟩ := h
  have hr := rdN_le a tx n
  have hbad : (x < 0 ∨ y < 0 ∨ ¬ y ≤ 2) → post (-1) σ := fun c => hp _ _ (fun post2 h2 => by
    unfold wpX7_occurrence wpX7_isIn
    refine ⟨fun _ => h2 σ h.r, fun c1 => ⟨fun _ => ⟨fun w => absurd rfl w, fun _ => h2 σ h.r⟩, fun c2 => ⟨fun _ => ⟨fun w => absurd rfl w, fun _ => h2 σ h.r⟩, fun c3 => ?_⟩⟩⟩
    rcases c with c | c | c
    · exact absurd c c1
    · exact absurd c c2
    · rw [Int32.not_lt] at c3; exact absurd c3 c)
  unfold wpX6_occurrence
  refine ⟨fun c => hbad (Or.inl c), fun c => ⟨fun c2 => hbad (Or.inr (Or.inl c2)), fun c2 => ⟨fun c3 => ?_, fun c3 => hbad (Or.inr (Or.inr c3))⟩⟩⟩
  have hge : ∀ σ1 (post2 : Int32 → Sg → Prop), wpX7_layReading σ1 (fun r6 σ5 => (((¬ r6 = (-9 : Int32)) → (((x < r6) → (((¬ y = 0) → (((¬ y = (1 : Int32)) → (vp_in x 20 ∧ post2 ((σ5.1 127 (x).toNatClampNeg)) σ5)) ∧ ((y = (1 : Int32)) → (vp_in x 20 ∧ post2 ((σ5.1 126 (x).toNatClampNeg)) σ5)))) ∧ ((y = 0) → (vp_in x 20 ∧ post2 ((σ5.1 125 (x).toNatClampNeg)) σ5)))) ∧ ((¬ x < r6) → post2 ((-9 : Int32)) σ5))) ∧ ((r6 = (-9 : Int32)) → post2 ((-2 : Int32)) σ5))) → wpX7_occurrence x y σ1 post2 := by
    intro σ1 post2 hw
    unfold wpX7_occurrence wpX7_isIn
    exact ⟨fun w => absurd w c, fun _ => ⟨fun w => absurd w c2, fun _ => ⟨fun w => absurd c3 (by rw [Int32.not_le]; exact w), fun _ => ⟨fun _ => hw, fun w => absurd w (by decide)⟩⟩⟩⟩
  obtain ⟨k, hk, rfl⟩ := nI_of c
  obtain ⟨w, hw2, rfl⟩ := nI_of2 (M := 2) (n := 2) (by decide) c2 c3
  refine q_learn h (fun σ1 f1 h1 t1 => v_exists h1.1.1 t1 (bI_n _ (fun e => hp _ _ (fun post2 h2 => hge σ1 post2 (m_layReading h1.mst (fun hw => ?_) (fun _ σ2 f2 s2 => ⟨fun w => absurd rfl w, fun _ => h2 σ2 (h1.mod f2 s2).r⟩)))) (fun e => ?_)))
  · rw [decide_eq_false_iff_not] at e; omega
  · rw [decide_eq_true_eq] at e
    have hno : rdN a tx n ≤ k → post (-9) σ1 := fun hle => hp _ _ (fun post2 h2 => hge σ1 post2 (m_layReading h1.mst (fun hw σ2 f2 s2 hrow => ⟨fun _ => pk_lt k (rdN a tx n) (fun c => by omega) (fun _ => h2 σ2 (h1.mod f2 s2).r), fun w => absurd w.symm (fun w => (nI_m9 (by omega)).mp w)⟩) (fun hw => by omega)))
    rcases (show w = 0 ∨ w = 1 ∨ w = 2 by omega) with rfl | rfl | rfl
    · refine ⟨fun w => absurd rfl w.1, fun _ => v_memberAt t1 hk (fun hlt => hp _ _ (fun post2 h2 => hge σ1 post2 (m_layReading h1.mst (fun hw σ2 f2 s2 hrow => ⟨fun _ => pk_lt k (rdN a tx n) (fun _ => ⟨fun w => absurd rfl w, fun _ => ⟨pk_in k 20 (by omega), ?_⟩⟩) (fun c => by omega), fun w => absurd w.symm (fun w => (nI_m9 (by omega)).mp w)⟩) (fun hw => by omega)))) hno, fun w => absurd w (by decide)⟩
      rw [nI_clamp hk, (hrow k hlt).1]; exact h2 σ2 (h1.mod f2 s2).r
    · refine ⟨fun w => absurd rfl w.2, fun w => absurd w (by decide), fun _ => v_startAt t1 hk (fun hlt => hp _ _ (fun post2 h2 => hge σ1 post2 (m_layReading h1.mst (fun hw σ2 f2 s2 hrow => ⟨fun _ => pk_lt k (rdN a tx n) (fun _ => ⟨fun _ => ⟨fun w => absurd rfl w, fun _ => ⟨pk_in k 20 (by omega), ?_⟩⟩, fun w => absurd w (by decide)⟩) (fun c => by omega), fun w => absurd w.symm (fun w => (nI_m9 (by omega)).mp w)⟩) (fun hw => by omega)))) hno⟩
      rw [nI_clamp hk, (hrow k hlt).2.1, show nI (staK a tx n k) = σ1.1 95 k from (t1.2.2.2.2 k hlt).2.1.symm]; exact h2 σ2 (h1.mod f2 s2).r
    · refine ⟨fun _ => v_numberAt t1 hk (fun hlt => hp _ _ (fun post2 h2 => hge σ1 post2 (m_layReading h1.mst (fun hw σ2 f2 s2 hrow => ⟨fun _ => pk_lt k (rdN a tx n) (fun _ => ⟨fun _ => ⟨fun _ => ⟨pk_in k 20 (by omega), ?_⟩, fun w => absurd w (by decide)⟩, fun w => absurd w (by decide)⟩) (fun c => by omega), fun w => absurd w.symm (fun w => (nI_m9 (by omega)).mp w)⟩) (fun hw => by omega)))) hno, fun w => absurd w (by decide), fun w => absurd w (by decide)⟩
      rw [nI_clamp hk, (hrow k hlt).2.2, show nI (vlK a tx n k) = σ1.1 96 k from (t1.2.2.2.2 k hlt).2.2.symm]; exact h2 σ2 (h1.mod f2 s2).r
noncomputable def vF (a tx : Nat → Nat) (n m k : Nat) : Nat → Nat → Nat → Int32
  | 0, _, f => if f = 0 ∧ k = 0 then nI (a (38 + m)) else -9
  | r + 1, i, f => if memK a tx n i = m then (if f = k then nI (vlK a tx n i) else vF a tx n m k r (i + 1) (f + 1)) else vF a tx n m k r (i + 1) f
theorem v_value {σ : Sg} {a tx : Nat → Nat} {n m k : Nat} (hc : ctxN σ a tx n) (hT : tabC σ a tx n) (hm : m < a 0) (hk : k < 2 ^ 31) {post : Int32 → Sg → Prop} : ∀ r i f, i + r = rdN a tx n → f ≤ i → post (vF a tx n m k r i f) σ → BX6_value_50 (nI m) (nI k) post (r + 1) (nI f) (nI i) σ := by
  have h6 := hc.1.1
  have hr := rdN_le a tx n
  intro r
  induction r with
  | zero =>
    intro i f hi hf h
    rw [BX6_value_50, hT.2.2.2.1]
    refine pk_le (rdN a tx n) i (fun _ => ?_) (fun c => by omega)
    unfold vF at h
    by_cases z1 : f = 0
    · subst z1
      refine ⟨fun w => absurd rfl w, fun _ => ?_⟩
      by_cases z2 : k = 0
      · subst z2
        rw [if_pos ⟨rfl, rfl⟩] at h
        refine ⟨fun w => absurd rfl w, fun _ => v_at1 k51 (by omega) (fun _ => ?_)⟩
        rw [(hc.2.2.1.2.2 m hm).2.2.2.2.1]; exact h
      · rw [if_neg (fun w => z2 w.2)] at h
        exact ⟨fun _ => h, fun w => absurd ((nI_eq (b := 0) hk (by decide)).mp w) z2⟩
    · rw [if_neg (fun w => z1 w.1)] at h
      exact ⟨fun _ => h, fun w => absurd ((nI_eq (b := 0) (by omega) (by decide)).mp w) z1⟩
  | succ r ih =>
    intro i f hi hf h
    rw [BX6_value_50, hT.2.2.2.1]
    refine pk_le (rdN a tx n) i (fun c => by omega) (fun c => v_memberAt hT (by omega) (fun _ => ?_) (fun q => by omega))
    have hmk := memK_lt c
    show (¬ nI (memK a tx n i) = nI m → _) ∧ (nI (memK a tx n i) = nI m → _)
    unfold vF at h
    rw [nI_1, nI_1]
    refine ⟨fun w => ?_, fun w => ?_⟩
    · rw [if_neg (fun z => w (by rw [z]))] at h
      exact ih (i + 1) f (by omega) (by omega) h
    · rw [if_pos ((nI_eq (by omega) (by omega)).mp w)] at h
      refine ⟨fun w2 => ?_, fun w2 => ?_⟩
      · rw [if_neg (fun z => w2 (by rw [z]))] at h
        exact ih (i + 1) (f + 1) (by omega) (by omega) h
      · rw [if_pos ((nI_eq (by omega) hk).mp w2)] at h
        refine v_numberAt hT (by omega) (fun _ => ?_) (fun q => by omega)
        rw [(hT.2.2.2.2 i c).2.2]; exact h
theorem m_value {σ : Sg} {a tx : Nat → Nat} {n m k : Nat} (hs : mSt σ a tx n) (hrow : ∀ k, k < rdN a tx n → lrRow σ a tx n k) (hm : m < a 0) (hk : k < 2 ^ 31) {post : Int32 → Sg → Prop} : ∀ r i f, i + r = rdN a tx n → f ≤ i → post (vF a tx n m k r i f) σ → BX7_value_34 (nI m) (nI k) post (r + 1) (nI (rdN a tx n)) (nI f) (nI i) σ := by
  have h6 := hs.1.1.1
  have hr := rdN_le a tx n
  intro r
  induction r with
  | zero =>
    intro i f hi hf h
    rw [BX7_value_34]
    refine ⟨fun _ => ?_, fun w => absurd (nI_le (by omega) (by omega)) w⟩
    unfold vF at h
    by_cases z1 : f = 0
    · subst z1
      refine ⟨fun w => absurd rfl w, fun _ => ?_⟩
      by_cases z2 : k = 0
      · subst z2
        rw [if_pos ⟨rfl, rfl⟩] at h
        rw [show (38 : Int32) + nI m = nI (38 + m) from nI_add 38 m]
        refine ⟨fun w => absurd rfl w, fun _ => ⟨pk_in (38 + m) 50 (by omega), ?_⟩⟩
        rw [nI_clamp (by omega), hs.1.2.2.1 _ (by omega)]; exact h
      · rw [if_neg (fun w => z2 w.2)] at h
        exact ⟨fun _ => h, fun w => absurd ((nI_eq (b := 0) hk (by decide)).mp w) z2⟩
    · rw [if_neg (fun w => z1 w.1)] at h
      exact ⟨fun _ => h, fun w => absurd ((nI_eq (b := 0) (by omega) (by decide)).mp w) z1⟩
  | succ r ih =>
    intro i f hi hf h
    rw [BX7_value_34]
    have c : i < rdN a tx n := by omega
    have hmk := memK_lt c
    have hcl : (nI i).toNatClampNeg = i := nI_clamp (by omega)
    rw [hcl, (hrow i c).1]
    refine pk_le (rdN a tx n) i (fun c2 => by omega) (fun _ => ⟨pk_in i 20 (by omega), ?_⟩)
    unfold vF at h
    rw [nI_1, nI_1]
    refine ⟨fun w => ?_, fun w => ?_⟩
    · rw [if_neg (fun z => w (by rw [z]))] at h
      exact ih (i + 1) f (by omega) (by omega) h
    · rw [if_pos ((nI_eq (by omega) (by omega)).mp w)] at h
      refine ⟨fun w2 => ?_, fun w2 => ⟨pk_in i 20 (by omega), ?_⟩⟩
      · rw [if_neg (fun z => w2 (by rw [z]))] at h
        exact ih (i + 1) (f + 1) (by omega) (by omega) h
      · rw [if_pos ((nI_eq (by omega) hk).mp w2)] at h
        rw [(hrow i c).2.2]; exact h
theorem op_value {σ : Sg} (h : R σ) (x y : Int32) {post : Int32 → Sg → Prop} (hp : ∀ r σ1, (∀ post2 : Int32 → Sg → Prop, (∀ σ2, R σ2 → post2 r σ2) → wpX7_value x y σ1 post2) → post r σ1) : wpX6_value x y σ post := by
  obtain ⟨a, tx, n, hn, pa, ke, im, h⟩ := h
  have ha := h.1.1.1
  have h6 := ha.1
  have hr := rdN_le a tx n
  unfold wpX6_value
  refine v_has ha h.1.1.2.2.1.1 x (fun m hm e => ?_) (fun hno => ?_)
  · subst e
    refine ⟨fun w => absurd w (by decide), fun _ => ⟨fun c => ?_, fun c => ?_⟩⟩
    · obtain ⟨k, hk, rfl⟩ := nI_of (show ¬ y < 0 by rw [Int32.not_lt]; exact c)
      have hge : ∀ σ1 (post2 : Int32 → Sg → Prop), repW σ1 a → wpX7_layReading σ1 (fun r11 σ10 => (((¬ r11 = (-9 : Int32)) → ∃ nf, BX7_value_34 (nI m) (nI k) post2 nf r11 ((0 : Int32)) ((0 : Int32)) σ10) ∧ ((r11 = (-9 : Int32)) → post2 ((-2 : Int32)) σ10))) → wpX7_value (nI m) (nI k) σ1 post2 := by
        intro σ1 post2 hW hw
        unfold wpX7_value
        refine m_isMember ha hW (nI m) (fun m' hm' e => ?_) (fun hno => absurd rfl (hno m hm))
        exact ⟨fun w => absurd w (by decide), fun _ => ⟨fun _ => hw, fun w => absurd c w⟩⟩
      refine q_learn h (fun σ1 f1 h1 t1 => v_exists h1.1.1 t1 (bI_n _ (fun e => hp _ _ (fun post2 h2 => hge σ1 post2 h1.1.2.2.2.2.1 (m_layReading h1.mst (fun hw => ?_) (fun _ σ2 f2 s2 => ⟨fun w => absurd rfl w, fun _ => h2 σ2 (h1.mod f2 s2).r⟩)))) (fun e => ?_)))
      · rw [decide_eq_false_iff_not] at e; omega
      · rw [decide_eq_true_eq] at e
        refine ⟨_, v_value h1.1.1 t1 hm hk (rdN a tx n) 0 0 (by omega) (Nat.le_refl 0) (hp _ _ (fun post2 h2 => hge σ1 post2 h1.1.2.2.2.2.1 (m_layReading h1.mst (fun hw σ2 f2 s2 hrow => ⟨fun _ => ⟨_, m_value s2 hrow hm hk (rdN a tx n) 0 0 (by omega) (Nat.le_refl 0) (h2 σ2 (h1.mod f2 s2).r)⟩, fun w => absurd w.symm (fun w => (nI_m9 (by omega)).mp w)⟩) (fun hw => by omega))))⟩
    · refine hp _ _ (fun post2 h2 => ?_)
      unfold wpX7_value
      refine m_isMember ha h.1.2.2.2.2.1 (nI m) (fun m' hm' e => ?_) (fun hno => absurd rfl (hno m hm))
      exact ⟨fun w => absurd w (by decide), fun _ => ⟨fun w => absurd w c, fun _ => h2 σ h.r⟩⟩
  · refine ⟨fun _ => hp _ _ (fun post2 h2 => ?_), fun w => absurd rfl w⟩
    unfold wpX7_value
    refine m_isMember ha h.1.2.2.2.2.1 x (fun m' hm' e => absurd e (hno m' hm')) (fun _ => ?_)
    exact ⟨fun _ => h2 σ h.r, fun w => absurd rfl w⟩
