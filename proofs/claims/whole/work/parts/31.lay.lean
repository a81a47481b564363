/-! the reference's reading tables -/
def RM (a tx : Nat → Nat) (n u v k t q : Nat) : Prop := (t = 0 ∧ q = 0) ∨ ∃ m t' p', m < a 0 ∧ Rc a tx n t' p' ∧ (p' < u ∨ (p' = u ∧ t' < v) ∨ (p' = u ∧ t' = v ∧ m < k)) ∧ nxP a tx n t' p' m = q ∧ q ≠ 0 ∧ t = t' + 4 ^ m
theorem nx_gt {a tx : Nat → Nat} {n t p m e : Nat} (ha : wfA a) (hm : m < a 0) (he : nxP a tx n t p m = e) (h0 : e ≠ 0) : p < e ∧ e ≤ n := by
  obtain ⟨h1, h2, h3⟩ := nx_may he h0
  have g := enP_in (a := a) (tx := tx) (n := n) (m := m) (p := stP a tx n t p - 1) ha hm (by rw [h3]; exact h0)
  rw [h3] at g
  have := (stP_ge h2).1
  omega
theorem RM.rc {a tx : Nat → Nat} {n u v k t q : Nat} (h : RM a tx n u v k t q) : Rc a tx n t q := by
  rcases h with ⟨rfl, rfl⟩ | ⟨m, t', p', hm, h1, _, h2, h3, rfl⟩
  · exact Rc.zero
  · exact h1.step hm h2 h3
theorem RM.of {a tx : Nat → Nat} {n u v k t q : Nat} (ha : wfA a) (h : Rc a tx n t q) (hq : q ≤ u) : RM a tx n u v k t q := by
  rcases h.last with h | ⟨m, t', p', hm, h1, h2, h3, rfl⟩
  · exact Or.inl h
  · exact Or.inr ⟨m, t', p', hm, h1, Or.inl (by have := nx_gt ha hm h2 h3; omega), h2, h3, rfl⟩
def flI (σ : Sg) (P : Nat → Nat → Prop) : Prop := ∀ q t, q ≤ 60 → t < 4096 → (P t q → σ.1 123 (4096 * q + t) = 1) ∧ (¬ P t q → σ.1 123 (4096 * q + t) = 0)
theorem flI.iff {σ : Sg} {P Q : Nat → Nat → Prop} (h : flI σ P) (e : ∀ t q, P t q ↔ Q t q) : flI σ Q := fun q t hq ht => ⟨fun z => (h q t hq ht).1 ((e t q).mpr z), fun z => (h q t hq ht).2 (fun w => z ((e t q).mp w))⟩
theorem flI.row {σ σ' : Sg} {P : Nat → Nat → Prop} (h : flI σ P) (e : σ'.1 123 = σ.1 123) : flI σ' P := fun q t hq ht => by rw [e]; exact h q t hq ht
theorem ix_inj {q t q' t' : Nat} (ht : t < 4096) (ht' : t' < 4096) (h : 4096 * q + t = 4096 * q' + t') : q = q' ∧ t = t' := by omega
theorem nar0 : vp_nar .boolean ((0 : Int32)) = 0 := by decide
theorem nar1 : vp_nar .boolean ((1 : Int32)) = 1 := by decide
theorem mI (q : Nat) : (4096 : Int32) * nI q = nI (4096 * q) := pk_mul 4096 q
/-- the members that go on behind one beginning -/
theorem m_lay80 {σ : Sg} {a tx : Nat → Nat} {n u v : Nat} (hc : ctxM σ a tx n) (hu : u < n) (hv : v < 4096) (hr : Rc a tx n v u) {K48 : Int32 → Int32 → Sg → Prop} {post : Sg → Prop} (hK : ∀ σ', frR 122 124 σ σ' → σ'.1 124 = σ.1 124 → flI σ' (RM a tx n u (v + 1) 0) → K48 (nI u) (nI (v + 1)) σ') : flI σ (RM a tx n u v 0) → ∃ nf, BX7_layBeginnings_80 K48 post nf (nI u) (nI v) (oI (stP a tx n v u)) ((0 : Int32)) σ := by
  intro hfl
  have ha := hc.1
  have h6 := ha.1
  have h4 := pow4_le h6
  have hn := hc.2.1.1
  have hvl := hr.lt ha
  have hnext : ∀ σ', flI σ' (RM a tx n u v (a 0)) → flI σ' (RM a tx n u (v + 1) 0) := by
    intro σ' h
    refine h.iff (fun t q => ?_)
    constructor
    · rintro (z | ⟨m, t', p', g0, g1, g2, g3⟩)
      · exact Or.inl z
      · exact Or.inr ⟨m, t', p', g0, g1, by omega, g3⟩
    · rintro (z | ⟨m, t', p', g0, g1, g2, g3⟩)
      · exact Or.inl z
      · exact Or.inr ⟨m, t', p', g0, g1, by omega, g3⟩
  have hskip : ∀ σ' k, flI σ' (RM a tx n u v k) → nxP a tx n v u k = 0 → flI σ' (RM a tx n u v (k + 1)) := by
    intro σ' k h hz
    refine h.iff (fun t q => ?_)
    constructor
    · rintro (z | ⟨m, t', p', g0, g1, g2, g3⟩)
      · exact Or.inl z
      · exact Or.inr ⟨m, t', p', g0, g1, by omega, g3⟩
    · rintro (z | ⟨m, t', p', g0, g1, g2, g3, g4, g5⟩)
      · exact Or.inl z
      · refine Or.inr ⟨m, t', p', g0, g1, ?_, g3, g4, g5⟩
        rcases g2 with g2 | g2 | ⟨rfl, rfl, g2⟩
        · exact Or.inl g2
        · exact Or.inr (Or.inl g2)
        · by_cases y : m = k
          · subst y; rw [hz] at g3; exact absurd g3.symm g4
          · exact Or.inr (Or.inr ⟨rfl, rfl, by omega⟩)
  have key : ∀ r k σ1, k + r = a 0 → frR 122 124 σ σ1 → σ1.1 124 = σ.1 124 → flI σ1 (RM a tx n u v k) → BX7_layBeginnings_80 K48 post (r + 1) (nI u) (nI v) (oI (stP a tx n v u)) (nI k) σ1 := by
    intro r
    induction r with
    | zero =>
      intro k σ1 hk hf e124 h1
      have hc1 := hc.fr hf (by decide)
      rw [BX7_layBeginnings_80, z0, hc1.2.2.1 0 (by decide)]
      refine ⟨in0_50, pk_le (a 0) k (fun _ => ?_) (fun c => by omega)⟩
      rw [show k = a 0 by omega] at h1
      rw [nI_1]
      exact hK σ1 hf e124 (hnext σ1 h1)
    | succ r ih =>
      intro k σ1 hk hf e124 h1
      have hc1 := hc.fr hf (by decide)
      rw [BX7_layBeginnings_80, z0, hc1.2.2.1 0 (by decide)]
      refine ⟨in0_50, pk_le (a 0) k (fun c => by omega) (fun c => ?_)⟩
      by_cases z : stP a tx n v u = 0
      · rw [z]
        refine ⟨fun _ => ?_, fun w => absurd rfl w⟩
        rw [nI_1]
        refine hK σ1 hf e124 (hnext σ1 ?_)
        -- no member goes on
        have : ∀ d, k + d ≤ a 0 → flI σ1 (RM a tx n u v (k + d)) := by
          intro d
          induction d with
          | zero => intro _; exact h1
          | succ d ihd =>
            intro hd
            exact hskip σ1 (k + d) (ihd (by omega)) (by unfold nxP; rw [if_neg (fun w => w.2 z)])
        have h2 := this (a 0 - k) (by omega)
        rw [show k + (a 0 - k) = a 0 by omega] at h2
        exact h2
      · have hs2 := (stP_ge z).2 (by omega)
        rw [show oI (stP a tx n v u) = nI (stP a tx n v u - 1) from by unfold oI; rw [if_neg z]]
        refine ⟨fun w => absurd w.symm (fun w => (nI_m9 (by omega)).mp w), fun _ => m_may ha hc1.2.2.1 (by omega) c ?_⟩
        have h119 : ∀ e, e = nxP a tx n v u k → BX7_layBeginnings_119 (BX7_layBeginnings_80 K48 post (r + 1)) post (nI u) (nI v) (nI (stP a tx n v u - 1)) (nI k) (eI e) σ1 := by
          intro e he
          unfold BX7_layBeginnings_119
          have ih2 := ih (k + 1)
          rw [show oI (stP a tx n v u) = nI (stP a tx n v u - 1) from by unfold oI; rw [if_neg z]] at ih2
          by_cases y : e = 0
          · rw [y]
            refine ⟨fun _ => ?_, fun w => absurd rfl w⟩
            rw [nI_1]
            exact ih2 σ1 (by omega) hf e124 (hskip σ1 k h1 (by rw [← he]; exact y))
          · have hgt := nx_gt ha c he.symm y
            have hlt := (nx_lt ha hvl c (by rw [← he]; exact y)).1
            rw [show eI e = nI e from by unfold eI; rw [if_neg y]]
            refine ⟨fun w => absurd w.symm (fun w => (nI_m9 (by omega)).mp w), fun _ => m_with (by omega) ?_⟩
            rw [mI, nI_add]
            refine ⟨pk_in (4096 * e + (v + 4 ^ k)) 249856 (by omega), ?_⟩
            intro σ2 e2
            rw [nI_clamp (by omega), nar1] at e2
            rw [nI_1]
            refine ih2 σ2 (by omega) (by rw [e2]; exact hf.i _ _ (by decide)) (by rw [e2, upd_row (by decide)]; exact e124) ?_
            have hst := hr.step c he.symm y
            intro q t hq ht
            rw [e2, setI_1]
            by_cases w : 4096 * q + t = 4096 * e + (v + 4 ^ k)
            · obtain ⟨rfl, rfl⟩ := ix_inj ht (by omega) w
              rw [if_pos ⟨rfl, rfl⟩]
              exact ⟨fun _ => rfl, fun hn => absurd (Or.inr ⟨k, v, u, c, hr, Or.inr (Or.inr ⟨rfl, rfl, by omega⟩), he.symm, y, rfl⟩) hn⟩
            · rw [if_neg (fun x => w x.2)]
              have hiff : RM a tx n u v (k + 1) t q ↔ RM a tx n u v k t q := by
                constructor
                · rintro (x | ⟨m, t', p', g0, g1, g2, g3, g4, g5⟩)
                  · exact Or.inl x
                  · refine Or.inr ⟨m, t', p', g0, g1, ?_, g3, g4, g5⟩
                    rcases g2 with g2 | g2 | ⟨rfl, rfl, g2⟩
                    · exact Or.inl g2
                    · exact Or.inr (Or.inl g2)
                    · by_cases x : m = k
                      · subst x
                        exfalso
                        apply w
                        rw [g5, ← g3, ← he]
                      · exact Or.inr (Or.inr ⟨rfl, rfl, by omega⟩)
                · rintro (x | ⟨m, t', p', g0, g1, g2, g3⟩)
                  · exact Or.inl x
                  · exact Or.inr ⟨m, t', p', g0, g1, by omega, g3⟩
              rw [hiff]
              exact h1 q t hq ht
        refine bI_0 _ (fun e => ?_) (fun e => m_endOf hc1 c (by omega) ?_)
        · have := h119 0 (by unfold nxP; rw [if_neg (fun w => by rw [e] at w; cases w.1)])
          exact this
        · exact h119 _ (by unfold nxP; rw [if_pos ⟨e, z⟩])
  exact ⟨_, key (a 0) 0 σ (by omega) frR.rf rfl hfl⟩
theorem m_layBeginnings {σ : Sg} {a tx : Nat → Nat} {n : Nat} (hc : ctxM σ a tx n) {post : Sg → Prop} (h : ∀ σ', frR 122 124 σ σ' → flI σ' (Rc a tx n) → (∀ k, k < 249856 → σ'.1 124 k = 0) → post σ') : wpX7_layBeginnings σ post := by
  have ha := hc.1
  have h6 := ha.1
  have h4 := pow4_le h6
  have hn := hc.2.1.1
  -- the states of one place
  have l48 : ∀ (K38 : Int32 → Sg → Prop) u, u < n → (∀ σ', frR 122 124 σ σ' → (∀ k, k < 249856 → σ'.1 124 k = 0) → flI σ' (RM a tx n (u + 1) 0 0) → K38 (nI (u + 1)) σ') → ∀ r v σ1, v + r = 4096 → frR 122 124 σ σ1 → (∀ k, k < 249856 → σ1.1 124 k = 0) → flI σ1 (RM a tx n u v 0) → BX7_layBeginnings_48 K38 post (r + 1) (nI u) (nI v) σ1 := by
    intro K38 u hu hK r
    induction r with
    | zero =>
      intro v σ1 hv hf hz h1
      rw [BX7_layBeginnings_48]
      refine pk_le 4096 v (fun _ => ?_) (fun c => by omega)
      rw [nI_1]
      refine hK σ1 hf hz (h1.iff (fun t q => ?_))
      constructor
      · rintro (x | ⟨m, t', p', g0, g1, g2, g3⟩)
        · exact Or.inl x
        · exact Or.inr ⟨m, t', p', g0, g1, by omega, g3⟩
      · rintro (x | ⟨m, t', p', g0, g1, g2, g3⟩)
        · exact Or.inl x
        · refine Or.inr ⟨m, t', p', g0, g1, ?_, g3⟩
          have := g1.lt ha
          omega
    | succ r ih =>
      intro v σ1 hv hf hz h1
      rw [BX7_layBeginnings_48]
      refine pk_le 4096 v (fun c => by omega) (fun c => ?_)
      rw [mI, nI_add]
      refine ⟨pk_in (4096 * u + v) 249856 (by omega), ?_⟩
      rw [nI_clamp (by omega)]
      by_cases y : Rc a tx n v u
      · have e1 := (h1 u v (by omega) c).1 (RM.of ha y (Nat.le_refl u))
        rw [e1]
        refine ⟨fun w => absurd w (by decide), fun _ => ?_⟩
        have hc1 := hc.fr hf (by decide)
        refine m_startOf hc1 (by omega) (by omega) ?_
        refine m_lay80 hc1 hu c y (fun σ2 f2 e2 h2 => ?_) h1
        exact ih (v + 1) σ2 (by omega) (hf.tr f2) (fun k hk => by rw [e2]; exact hz k hk) h2
      · have e1 := (h1 u v (by omega) c).2 (fun w => y w.rc)
        rw [e1]
        refine ⟨fun _ => ?_, fun w => absurd rfl w⟩
        rw [nI_1]
        refine ih (v + 1) σ1 (by omega) hf hz (h1.iff (fun t q => ?_))
        constructor
        · rintro (x | ⟨m, t', p', g0, g1, g2, g3⟩)
          · exact Or.inl x
          · exact Or.inr ⟨m, t', p', g0, g1, by omega, g3⟩
        · rintro (x | ⟨m, t', p', g0, g1, g2, g3⟩)
          · exact Or.inl x
          · refine Or.inr ⟨m, t', p', g0, g1, ?_, g3⟩
            rcases g2 with g2 | ⟨rfl, g2⟩ | g2
            · exact Or.inl g2
            · rcases Nat.lt_or_ge t' v with x | x
              · exact Or.inr (Or.inl ⟨rfl, x⟩)
              · have : t' = v := by omega
                subst this
                exact absurd g1 y
            · omega
  have l38 : ∀ r u σ1, u + r = n → frR 122 124 σ σ1 → (∀ k, k < 249856 → σ1.1 124 k = 0) → flI σ1 (RM a tx n u 0 0) → BX7_layBeginnings_38 post (r + 1) (nI u) σ1 := by
    intro r
    induction r with
    | zero =>
      intro u σ1 hu hf hz h1
      have hc1 := hc.fr hf (by decide)
      rw [BX7_layBeginnings_38, hc1.2.2.2.1]
      refine pk_le n u (fun _ => ?_) (fun c => by omega)
      refine h σ1 hf (h1.iff (fun t q => ⟨fun w => w.rc, fun w => RM.of ha w ?_⟩)) hz
      have := (w.J ha).2.2.2.2.2.2.2.1
      omega
    | succ r ih =>
      intro u σ1 hu hf hz h1
      have hc1 := hc.fr hf (by decide)
      rw [BX7_layBeginnings_38, hc1.2.2.2.1]
      refine pk_le n u (fun c => by omega) (fun c => ⟨_, l48 (BX7_layBeginnings_38 post (r + 1)) u c (fun σ2 f2 z2 h2 => ih (u + 1) σ2 (by omega) f2 z2 h2) 4096 0 σ1 (by omega) hf hz h1⟩)
  have l2 : ∀ r k σ1, k + r = 249856 → frR 122 124 σ σ1 → (∀ j, j < k → σ1.1 123 j = (if j = 0 then 1 else 0) ∧ σ1.1 124 j = 0) → BX7_layBeginnings_2 post (r + 1) (nI k) σ1 := by
    intro r
    induction r with
    | zero =>
      intro k σ1 hk hf h1
      rw [BX7_layBeginnings_2]
      refine pk_le 249856 k (fun _ => ?_) (fun c => by omega)
      refine ⟨_, l38 n 0 σ1 (by omega) hf (fun j hj => (h1 j (by omega)).2) (fun q t hq ht => ⟨fun w => ?_, fun w => ?_⟩)⟩
      · rcases w with ⟨rfl, rfl⟩ | ⟨m, t', p', g0, g1, g2, g3⟩
        · rw [(h1 _ (by omega)).1]; rfl
        · omega
      · rw [(h1 _ (by omega)).1, if_neg]
        intro x
        exact w (Or.inl ⟨by omega, by omega⟩)
    | succ r ih =>
      intro k σ1 hk hf h1
      rw [BX7_layBeginnings_2]
      refine pk_le 249856 k (fun c => by omega) (fun c => ?_)
      have hgo : ∀ x : Int32, x = (if k = 0 then 1 else 0) → ∀ σ2, σ2 = setI σ1 123 (nI k).toNatClampNeg x → (vp_in (nI k) 249856 ∧ ∀ σ3, σ3 = setI σ2 124 (nI k).toNatClampNeg 0 → BX7_layBeginnings_2 post (r + 1) (nI k + 1) σ3) := by
        intro x hx σ2 e2
        refine ⟨pk_in k 249856 c, ?_⟩
        intro σ3 e3
        rw [nI_clamp (by omega)] at e2 e3
        rw [nI_1]
        refine ih (k + 1) σ3 (by omega) (by rw [e3, e2]; exact (hf.i _ _ (by decide)).i _ _ (by decide)) (fun j hj => ⟨?_, ?_⟩)
        · rw [e3, upd_row (by decide), e2, setI_1]
          by_cases y : j = k
          · rw [if_pos ⟨rfl, y⟩, hx, y]
          · rw [if_neg (fun w => y w.2)]; exact (h1 j (by omega)).1
        · rw [e3, setI_1]
          by_cases y : j = k
          · rw [if_pos ⟨rfl, y⟩]
          · rw [if_neg (fun w => y w.2), e2, upd_row (by decide)]; exact (h1 j (by omega)).2
      by_cases z : k = 0
      · refine ⟨fun w => absurd (by rw [z]; rfl) w, fun _ => ⟨pk_in k 249856 c, ?_⟩⟩
        rw [nar1]
        exact hgo 1 (by rw [if_pos z])
      · refine ⟨fun _ => ⟨pk_in k 249856 c, ?_⟩, fun w => absurd w (nI_ne0 (by omega) (by omega))⟩
        rw [nar0]
        exact hgo 0 (by rw [if_neg z])
  exact ⟨_, l2 249856 0 σ (by omega) frR.rf (fun j hj => by omega)⟩
def capN (x : Nat) : Nat := if 1000000 < x then 1000000 else x
theorem capN_le (x : Nat) : capN x ≤ 1000000 := by unfold capN; split <;> omega
theorem capN_add (x y : Nat) : capN (capN x + capN y) = capN (x + y) := by
  unfold capN
  split <;> split <;> (try split) <;> (try split) <;> omega
/-- the rows of ways that are laid -/
def wyI (σ : Sg) (a tx : Nat → Nat) (n : Nat) (P : Nat → Nat → Prop) : Prop := ∀ q t, P t q → Rc a tx n t q → σ.1 124 (4096 * q + t) = nI (capN (wy a tx n t q))
theorem m_waysFrom {σ : Sg} {a tx : Nat → Nat} {n u v : Nat} (hc : ctxM σ a tx n) (hr : Rc a tx n v u) (hW : wyI σ a tx n (fun _ q => u < q)) {post : Int32 → Sg → Prop} (h : post (nI (capN (wy a tx n v u))) σ) : wpX7_waysFrom (nI u) (nI v) σ post := by
  have ha := hc.1
  have h6 := ha.1
  have h4 := pow4_le h6
  have hn := hc.2.1.1
  have hvl := hr.lt ha
  have hun := (hr.J ha).2.2.2.2.2.2.2.1
  have heq := wy_eq (tx := tx) (n := n) (p := u) ha hvl
  unfold wpX7_waysFrom
  rw [hc.2.2.2.1]
  by_cases z : u = n
  · subst z
    refine ⟨fun w => absurd rfl w, fun _ => m_isWhole ha hc.2.2.1 (by omega) ?_⟩
    have hs0 : smN (fun m => if nxP a tx u v u m = 0 then 0 else wy a tx u (v + 4 ^ m) (nxP a tx u v u m)) (a 0) = 0 := by
      refine smN_zero (a 0) (fun m hm => ?_)
      by_cases y : nxP a tx u v u m = 0
      · rw [if_pos y]
      · have := nx_gt ha hm rfl y; omega
    rw [heq, hs0] at h
    refine bI_0 _ (fun e => ?_) (fun e => ?_)
    · rw [if_neg (fun w => by rw [e] at w; cases w.2)] at h; exact h
    · rw [if_pos ⟨rfl, e⟩] at h; exact h
  · rw [if_neg (fun w => z w.1), Nat.zero_add] at heq
    refine ⟨fun _ => m_startOf hc (by omega) hun ?_, fun w => absurd ((nI_eq (by omega) (by omega)).mp w) z⟩
    have key : ∀ r k, k + r = a 0 → BX7_waysFrom_35 (nI u) (nI v) post (r + 1) (oI (stP a tx n v u)) (nI (capN (smN (fun m => if nxP a tx n v u m = 0 then 0 else wy a tx n (v + 4 ^ m) (nxP a tx n v u m)) k))) (nI k) σ := by
      intro r
      induction r with
      | zero =>
        intro k hk
        rw [BX7_waysFrom_35, z0, hc.2.2.1 0 (by decide)]
        refine ⟨in0_50, pk_le (a 0) k (fun _ => ?_) (fun c => by omega)⟩
        rw [show k = a 0 by omega, ← heq]; exact h
      | succ r ih =>
        intro k hk
        rw [BX7_waysFrom_35, z0, hc.2.2.1 0 (by decide)]
        refine ⟨in0_50, pk_le (a 0) k (fun c => by omega) (fun c => ?_)⟩
        by_cases y : stP a tx n v u = 0
        · rw [y]
          have hs0 : ∀ b, smN (fun m => if nxP a tx n v u m = 0 then 0 else wy a tx n (v + 4 ^ m) (nxP a tx n v u m)) b = 0 := fun b => smN_zero b (fun m _ => by rw [if_pos]; unfold nxP; rw [if_neg (fun w => w.2 y)])
          rw [heq, hs0] at h
          rw [hs0]
          exact ⟨fun _ => h, fun w => absurd rfl w⟩
        · have hs2 := (stP_ge y).2 hun
          have ih2 := ih (k + 1) (by omega)
          rw [show oI (stP a tx n v u) = nI (stP a tx n v u - 1) from by unfold oI; rw [if_neg y]] at ih2 ⊢
          refine ⟨fun w => absurd w.symm (fun w => (nI_m9 (by omega)).mp w), fun _ => m_may ha hc.2.2.1 (by omega) c ?_⟩
          rw [show smN (fun m => if nxP a tx n v u m = 0 then 0 else wy a tx n (v + 4 ^ m) (nxP a tx n v u m)) (k + 1) = smN (fun m => if nxP a tx n v u m = 0 then 0 else wy a tx n (v + 4 ^ m) (nxP a tx n v u m)) k + (if nxP a tx n v u k = 0 then 0 else wy a tx n (v + 4 ^ k) (nxP a tx n v u k)) from rfl, ← capN_add] at ih2
          generalize smN (fun m => if nxP a tx n v u m = 0 then 0 else wy a tx n (v + 4 ^ m) (nxP a tx n v u m)) k = S at ih2 ⊢
          have h107 : ∀ w, w = (if nxP a tx n v u k = 0 then 0 else wy a tx n (v + 4 ^ k) (nxP a tx n v u k)) → BX7_waysFrom_107 (nI u) (nI v) (BX7_waysFrom_35 (nI u) (nI v) post (r + 1)) post (nI (stP a tx n v u - 1)) (nI k) (nI (capN S)) (nI (capN w)) σ := by
            intro w hw
            rw [← hw] at ih2
            have c1 := capN_le S
            have c2 := capN_le w
            unfold BX7_waysFrom_107
            rw [nI_add, nI_1]
            refine pk_le (capN S + capN w) 1000000 (fun c3 => ?_) (fun c3 => ?_)
            · rw [show capN (capN S + capN w) = capN S + capN w from if_neg (by omega)] at ih2
              exact ih2
            · rw [show capN (capN S + capN w) = 1000000 from if_pos (by omega)] at ih2
              exact ih2
          have h74 : ∀ e, e = nxP a tx n v u k → BX7_waysFrom_74 (nI u) (nI v) (BX7_waysFrom_35 (nI u) (nI v) post (r + 1)) post (nI (stP a tx n v u - 1)) (nI (capN S)) (nI k) (eI e) σ := by
            intro e he
            unfold BX7_waysFrom_74
            by_cases x : e = 0
            · rw [x]
              refine ⟨fun w => absurd rfl w, fun _ => ?_⟩
              exact h107 0 (by rw [← he, if_pos x])
            · have hgt := nx_gt ha c he.symm x
              have hlt := (nx_lt ha hvl c (by rw [← he]; exact x)).1
              rw [show eI e = nI e from by unfold eI; rw [if_neg x]]
              refine ⟨fun _ => m_with (by omega) ?_, fun w => absurd w.symm (fun w => (nI_m9 (by omega)).mp w)⟩
              rw [mI, nI_add]
              refine ⟨pk_in (4096 * e + (v + 4 ^ k)) 249856 (by omega), ?_⟩
              rw [nI_clamp (by omega), hW e (v + 4 ^ k) hgt.1 (hr.step c he.symm x)]
              exact h107 _ (by rw [← he, if_neg x])
          refine bI_0 _ (fun e => ?_) (fun e => m_endOf hc c (by omega) ?_)
          · exact h74 0 (by unfold nxP; rw [if_neg (fun w => by rw [e] at w; cases w.1)])
          · exact h74 _ (by unfold nxP; rw [if_pos ⟨e, y⟩])
    exact ⟨_, key (a 0) 0 (by omega)⟩
def tabM (σ : Sg) (a tx : Nat → Nat) (n : Nat) : Prop := flI σ (Rc a tx n) ∧ wyI σ a tx n (fun _ _ => True)
theorem m_layWays {σ : Sg} {a tx : Nat → Nat} {n : Nat} (hc : ctxM σ a tx n) (hk : ¬ σ.1 117 10 = 0 → tabM σ a tx n) {post : Sg → Prop} (h : ∀ σ', frR 117 124 σ σ' → ctxM σ' a tx n → (∀ j, j ≠ 10 → σ'.1 117 j = σ.1 117 j) → (∀ k, 117 < k → k < 122 → σ'.1 k = σ.1 k) → ¬ σ'.1 117 10 = 0 → tabM σ' a tx n → post σ') : wpX7_layWays σ post := by
  have ha := hc.1
  have h6 := ha.1
  have h4 := pow4_le h6
  have hn := hc.2.1.1
  unfold wpX7_layWays
  refine ⟨fun _ => ?_, fun z => h σ frR.rf hc (fun _ _ => rfl) (fun _ _ _ => rfl) z (hk z)⟩
  intro σ1 e1
  have hc1 : ctxM σ1 a tx n := by
    obtain ⟨h1, h2, h3, h4, h5⟩ := hc
    refine ⟨h1, h2, ?_, ?_, ?_⟩
    · unfold repW; rw [e1, upd_row (by decide)]; exact h3
    · rw [e1, setI_1, if_neg (by decide)]; exact h4
    · rw [e1, upd_row (by decide)]; exact h5
  refine m_layBeginnings hc1 (fun σ2 f2 h2 hz2 => ?_)
  have hc2 := hc1.fr f2 (by decide)
  rw [hc2.2.2.2.1]
  have l28 : ∀ (K22 : Int32 → Sg → Prop) u, u ≤ n → (∀ σ', frR 124 124 σ2 σ' → wyI σ' a tx n (fun _ q => u ≤ q) → K22 (nI u + (-1)) σ') → ∀ r v σ3, v + r = 4096 → frR 124 124 σ2 σ3 → wyI σ3 a tx n (fun t q => u < q ∨ (q = u ∧ t < v)) → BX7_layWays_28 K22 post (r + 1) (nI u) (nI v) σ3 := by
    intro K22 u hu hK r
    induction r with
    | zero =>
      intro v σ3 hv hf h1
      rw [BX7_layWays_28]
      refine pk_le 4096 v (fun _ => ?_) (fun c => by omega)
      refine hK σ3 hf (fun q t hq hrc => h1 q t ?_ hrc)
      have := hrc.lt ha
      omega
    | succ r ih =>
      intro v σ3 hv hf h1
      rw [BX7_layWays_28]
      refine pk_le 4096 v (fun c => by omega) (fun c => ?_)
      rw [mI, nI_add]
      refine ⟨pk_in (4096 * u + v) 249856 (by omega), ?_⟩
      have h23 := h2.row (σ' := σ3) (hf 123 (by omega)).1
      rw [nI_clamp (by omega)]
      by_cases y : Rc a tx n v u
      · rw [(h23 u v (by omega) c).1 y]
        refine ⟨fun w => absurd w (by decide), fun _ => ?_⟩
        refine m_waysFrom (hc2.fr hf (by decide)) y (fun q t hq hrc => h1 q t (Or.inl hq) hrc) ⟨pk_in (4096 * u + v) 249856 (by omega), ?_⟩
        intro σ4 e4
        rw [nI_1]
        refine ih (v + 1) σ4 (by omega) (by rw [e4]; exact hf.i _ _ (by decide)) (fun q t hq hrc => ?_)
        have htl := hrc.lt ha
        rw [e4, setI_1]
        by_cases w : 4096 * q + t = 4096 * u + v
        · obtain ⟨rfl, rfl⟩ := ix_inj (by omega) c w
          rw [if_pos ⟨rfl, rfl⟩]
        · rw [if_neg (fun x => w x.2)]
          refine h1 q t ?_ hrc
          rcases hq with hq | ⟨rfl, hq⟩
          · exact Or.inl hq
          · right; refine ⟨rfl, ?_⟩
            omega
      · rw [(h23 u v (by omega) c).2 y]
        refine ⟨fun _ => ?_, fun w => absurd rfl w⟩
        rw [nI_1]
        refine ih (v + 1) σ3 (by omega) hf (fun q t hq hrc => h1 q t ?_ hrc)
        rcases hq with hq | ⟨rfl, hq⟩
        · exact Or.inl hq
        · right; refine ⟨rfl, ?_⟩
          rcases Nat.lt_or_ge t v with x | x
          · exact x
          · rw [show t = v by omega] at hrc
            exact absurd hrc y
  have l22 : ∀ k σ3, k ≤ n + 1 → frR 124 124 σ2 σ3 → wyI σ3 a tx n (fun _ q => k ≤ q) → BX7_layWays_22 post (k + 1) (if k = 0 then -1 else nI (k - 1)) σ3 := by
    intro k
    induction k with
    | zero =>
      intro σ3 _ hf h1
      rw [BX7_layWays_22, if_pos rfl]
      refine ⟨fun _ => ?_, fun w => absurd (by decide) w⟩
      have f2' : frR 117 124 σ1 σ2 := f2.wk (by decide) (by decide)
      refine h σ3 ?_ (hc2.fr hf (by decide)) (fun j hj => ?_) (fun k hk1 hk2 => ?_) ?_ ⟨?_, ?_⟩
      · refine frR.tr ?_ (f2'.tr (hf.wk (by decide) (by decide)))
        rw [e1]; exact frR.rf.i _ _ (by decide)
      · rw [(hf 117 (by omega)).1, (f2 117 (by omega)).1, e1, setI_1, if_neg (fun w => hj w.2)]
      · rw [(hf k (by omega)).1, (f2 k (by omega)).1, e1, upd_row (by omega)]
      · rw [(hf 117 (by omega)).1, (f2 117 (by omega)).1, e1, setI_1, if_pos ⟨rfl, rfl⟩]; decide
      · exact h2.row (hf 123 (by omega)).1
      · exact fun q t _ hrc => h1 q t (Nat.zero_le _) hrc
    | succ u ih =>
      intro σ3 hk hf h1
      rw [if_neg (by omega), Nat.add_sub_cancel, BX7_layWays_22]
      refine ⟨fun w => absurd w (nI_pos (by omega)), fun _ => ⟨_, l28 (BX7_layWays_22 post (u + 1)) u (by omega) (fun σ4 f4 h4' => ?_) 4096 0 σ3 (by omega) hf (fun q t hq hrc => h1 q t (by omega) hrc)⟩⟩
      have e3 : nI u + (-1) = if u = 0 then -1 else nI (u - 1) := by
        cases u with
        | zero => rfl
        | succ t => rw [if_neg (by omega), Nat.add_sub_cancel]; exact pk_m1 t
      rw [e3]
      exact ih σ4 (by omega) f4 h4'
  have h3 := l22 (n + 1) σ2 (Nat.le_refl _) frR.rf (fun q t hq hrc => by
    have := (hrc.J ha).2.2.2.2.2.2.2.1
    omega)
  rw [if_neg (by omega), Nat.add_sub_cancel] at h3
  exact ⟨_, h3⟩
