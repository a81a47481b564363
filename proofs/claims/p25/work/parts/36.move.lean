/-! move and remove: the members in another order -/
/-- which member comes to place x when m goes to t -/
def mvF (m t x : Nat) : Nat := if x = t then m else if m ≤ x ∧ x < t then x + 1 else if t < x ∧ x ≤ m then x - 1 else x
def rnS (s : Nat) (fr : Nat → Nat) (c : Nat) : Nat := sN (fun j => s.testBit (fr j)) c
theorem mv_lt {c m t x : Nat} (hm : m < c) (ht : t < c) (hx : x < c) : mvF m t x < c := by
  unfold mvF
  split
  · exact hm
  · split
    · omega
    · split <;> omega
theorem mv_out {c m t x : Nat} (hm : m < c) (ht : t < c) (hx : c ≤ x) : mvF m t x = x := by
  unfold mvF
  rw [if_neg (by omega), if_neg (by omega), if_neg (by omega)]
theorem mv_inj : ∀ m, m < 6 → ∀ t, t < 6 → ∀ i, i < 6 → ∀ j, j < 6 → mvF m t i = mvF m t j → i = j := by decide +kernel
theorem wbm_c : ∀ c, c < 7 → ∀ m, m < c → ∀ t, t < c → ∀ s, s < 2 ^ c → ((((nI s &&& (((1 : Int32) <<< (nI m &&& 31)) - (1 : Int32))) ||| ((nI s >>> ((nI m + (1 : Int32)) &&& 31)) <<< (nI m &&& 31))) &&& (((1 : Int32) <<< (nI t &&& 31)) - (1 : Int32))) ||| (nI (if s.testBit m then 1 else 0) <<< (nI t &&& 31))) ||| ((((nI s &&& (((1 : Int32) <<< (nI m &&& 31)) - (1 : Int32))) ||| ((nI s >>> ((nI m + (1 : Int32)) &&& 31)) <<< (nI m &&& 31))) >>> (nI t &&& 31)) <<< ((nI t + (1 : Int32)) &&& 31)) = nI (rnS s (mvF m t) c) := by decide +kernel
theorem v_moved {c m t s : Nat} (hc : c < 7) (hm : m < c) (ht : t < c) (hs : s < 2 ^ c) {σ : Sg} {post : Int32 → Sg → Prop} (h : post (nI (rnS s (mvF m t) c)) σ) : wpX6_withBitMoved (nI s) (nI m) (nI t) σ post := by
  have h64 := pow_le6 (c := c) (by omega)
  unfold wpX6_withBitMoved wpX6_bitsBelow
  refine v_bitOf (by omega) (by omega) ?_
  try dsimp only
  rw [wbm_c c hc m hm t ht s hs]
  exact h
theorem rn_below (s : Nat) (fr : Nat → Nat) (c : Nat) : rnS s fr (c + 1) % 2 ^ c = rnS s fr c := by
  have e : rnS s fr (c + 1) = rnS s fr c + (if s.testBit (fr c) then 2 ^ c else 0) := rfl
  have hl : rnS s fr c < 2 ^ c := sN_lt _ c
  rw [e]
  by_cases z : s.testBit (fr c) = true
  · rw [if_pos z, Nat.add_mod_right, Nat.mod_eq_of_lt hl]
  · rw [if_neg z, Nat.add_zero, Nat.mod_eq_of_lt hl]
/-- the row of the declarations in another order -/
def arS (a : Nat → Nat) (fr : Nat → Nat) (c : Nat) (b : Nat → Nat) (m : Nat) : Nat → Nat := putA (putA (putA (putA (putA (putA (putA (putA b (2 + 3 * m + 0) (a (2 + 3 * fr m + 0))) (2 + 3 * m + 1) (a (2 + 3 * fr m + 1))) (2 + 3 * m + 2) (a (2 + 3 * fr m + 2))) (20 + m) (a (20 + fr m))) (26 + m) (a (26 + fr m))) (32 + m) (a (32 + fr m))) (38 + m) (a (38 + fr m))) (44 + m) (rnS (a (44 + fr m)) fr c)
def arP (a : Nat → Nat) (fr : Nat → Nat) (c : Nat) : Nat → Nat → Nat
  | 0 => a
  | m + 1 => arS a fr c (arP a fr c m) m
def arA (a : Nat → Nat) (fr : Nat → Nat) (c : Nat) : Nat → Nat := putA (arP a fr c c) 0 c
theorem arS_eq (a fr : Nat → Nat) (c : Nat) (b : Nat → Nat) (m k : Nat) : arS a fr c b m k = if k = 44 + m then rnS (a (44 + fr m)) fr c else if k = 38 + m then a (38 + fr m) else if k = 32 + m then a (32 + fr m) else if k = 26 + m then a (26 + fr m) else if k = 20 + m then a (20 + fr m) else if k = 2 + 3 * m + 2 then a (2 + 3 * fr m + 2) else if k = 2 + 3 * m + 1 then a (2 + 3 * fr m + 1) else if k = 2 + 3 * m + 0 then a (2 + 3 * fr m + 0) else b k := rfl
theorem arS_n {a fr : Nat → Nat} {c : Nat} {b : Nat → Nat} {m k : Nat} (h1 : k ≠ 44 + m) (h2 : k ≠ 38 + m) (h3 : k ≠ 32 + m) (h4 : k ≠ 26 + m) (h5 : k ≠ 20 + m) (h6 : k < 2 + 3 * m ∨ 4 + 3 * m < k) : arS a fr c b m k = b k := by
  rw [arS_eq, if_neg h1, if_neg h2, if_neg h3, if_neg h4, if_neg h5, if_neg (by omega), if_neg (by omega), if_neg (by omega)]
/-- what stands at the places of member x -/
def arG (a fr : Nat → Nat) (c : Nat) (b : Nat → Nat) (x : Nat) : Prop := b (2 + 3 * x) = a (2 + 3 * fr x) ∧ b (3 + 3 * x) = a (3 + 3 * fr x) ∧ b (4 + 3 * x) = a (4 + 3 * fr x) ∧ b (20 + x) = a (20 + fr x) ∧ b (26 + x) = a (26 + fr x) ∧ b (32 + x) = a (32 + fr x) ∧ b (38 + x) = a (38 + fr x) ∧ b (44 + x) = rnS (a (44 + fr x)) fr c
theorem arP_at (a fr : Nat → Nat) (c : Nat) : ∀ m, m ≤ 6 → (∀ x, x < m → arG a fr c (arP a fr c m) x) ∧ arP a fr c m 1 = a 1
  | 0, _ => ⟨fun x hx => absurd hx (Nat.not_lt_zero x), rfl⟩
  | m + 1, hm => by
    obtain ⟨h1, h2⟩ := arP_at a fr c m (by omega)
    refine ⟨fun x hx => ?_, ?_⟩
    · show arG a fr c (arS a fr c (arP a fr c m) m) x
      by_cases z : x = m
      · subst z
        refine ⟨?_, ?_, ?_, ?_, ?_, ?_, ?_, ?_⟩
        · rw [arS_eq, if_neg (by omega), if_neg (by omega), if_neg (by omega), if_neg (by omega), if_neg (by omega), if_neg (by omega), if_neg (by omega), if_pos (by omega)]; rfl
        · rw [arS_eq, if_neg (by omega), if_neg (by omega), if_neg (by omega), if_neg (by omega), if_neg (by omega), if_neg (by omega), if_pos (by omega), show 2 + 3 * fr x + 1 = 3 + 3 * fr x by omega]
        · rw [arS_eq, if_neg (by omega), if_neg (by omega), if_neg (by omega), if_neg (by omega), if_neg (by omega), if_pos (by omega), show 2 + 3 * fr x + 2 = 4 + 3 * fr x by omega]
        · rw [arS_eq, if_neg (by omega), if_neg (by omega), if_neg (by omega), if_neg (by omega), if_pos rfl]
        · rw [arS_eq, if_neg (by omega), if_neg (by omega), if_neg (by omega), if_pos rfl]
        · rw [arS_eq, if_neg (by omega), if_neg (by omega), if_pos rfl]
        · rw [arS_eq, if_neg (by omega), if_pos rfl]
        · rw [arS_eq, if_pos rfl]
      · have hg := h1 x (by omega)
        unfold arG at hg ⊢
        rw [arS_n (k := 2 + 3 * x) (by omega) (by omega) (by omega) (by omega) (by omega) (by omega), arS_n (k := 3 + 3 * x) (by omega) (by omega) (by omega) (by omega) (by omega) (by omega), arS_n (k := 4 + 3 * x) (by omega) (by omega) (by omega) (by omega) (by omega) (by omega), arS_n (k := 20 + x) (by omega) (by omega) (by omega) (by omega) (by omega) (by omega), arS_n (k := 26 + x) (by omega) (by omega) (by omega) (by omega) (by omega) (by omega), arS_n (k := 32 + x) (by omega) (by omega) (by omega) (by omega) (by omega) (by omega), arS_n (k := 38 + x) (by omega) (by omega) (by omega) (by omega) (by omega) (by omega), arS_n (k := 44 + x) (by omega) (by omega) (by omega) (by omega) (by omega) (by omega)]
        exact hg
    · show arS a fr c (arP a fr c m) m 1 = a 1
      rw [arS_n (by omega) (by omega) (by omega) (by omega) (by omega) (by omega)]; exact h2
theorem arP_le {a fr : Nat → Nat} {c : Nat} (ha : wfA a) (hc : c ≤ 6) : ∀ m k, arP a fr c m k ≤ 999
  | 0, k => ha.2.2.1 k
  | m + 1, k => by
    have ih := arP_le (fr := fr) ha hc m k
    have hl : ∀ s, rnS s fr c < 2 ^ c := fun s => sN_lt _ c
    have h64 := pow_le6 hc
    have h1 := hl (a (44 + fr m))
    have g1 := ha.2.2.1 (38 + fr m); have g2 := ha.2.2.1 (32 + fr m); have g3 := ha.2.2.1 (26 + fr m); have g4 := ha.2.2.1 (20 + fr m)
    have g5 := ha.2.2.1 (2 + 3 * fr m + 2); have g6 := ha.2.2.1 (2 + 3 * fr m + 1); have g7 := ha.2.2.1 (2 + 3 * fr m + 0)
    show arS a fr c (arP a fr c m) m k ≤ 999
    rw [arS_eq]
    repeat' split
    all_goals omega
theorem arA_g {a fr : Nat → Nat} {c : Nat} (hc : c ≤ 6) {x : Nat} (hx : x < c) : arG a fr c (arA a fr c) x := by
  have hg := (arP_at a fr c c hc).1 x hx
  unfold arG at hg ⊢
  unfold arA
  rw [putA_n _ (k := 2 + 3 * x) (by omega), putA_n _ (k := 3 + 3 * x) (by omega), putA_n _ (k := 4 + 3 * x) (by omega), putA_n _ (k := 20 + x) (by omega), putA_n _ (k := 26 + x) (by omega), putA_n _ (k := 32 + x) (by omega), putA_n _ (k := 38 + x) (by omega), putA_n _ (k := 44 + x) (by omega)]
  exact hg
theorem arA_0 (a fr : Nat → Nat) (c : Nat) : arA a fr c 0 = c := putA_p _ 0 c
theorem arA_1 {a fr : Nat → Nat} {c : Nat} (hc : c ≤ 6) : arA a fr c 1 = a 1 := by
  unfold arA
  rw [putA_n _ (by decide)]; exact (arP_at a fr c c hc).2
theorem arA_wf {a fr : Nat → Nat} {c : Nat} (ha : wfA a) (hc : c ≤ 6) (hfr : ∀ x, x < c → fr x < a 0) : wfA (arA a fr c) := by
  refine ⟨by rw [arA_0]; exact hc, by rw [arA_1 hc]; exact ha.2.1, fun k => ?_, fun x hx => ?_⟩
  · unfold arA putA
    have := arP_le (fr := fr) ha hc c k
    split <;> omega
  · rw [arA_0] at hx ⊢
    obtain ⟨g1, g2, g3, g4, g5, g6, g7, g8⟩ := arA_g (a := a) (fr := fr) hc hx
    obtain ⟨w1, w2, w3, w4, w5, w6, w7⟩ := ha.2.2.2 (fr x) (hfr x hx)
    rw [g1, g2, g3, g4, g5, g6, g8]
    exact ⟨w1, w2, w3, w4, w5, w6, sN_lt _ c⟩
/-! the reference -/
/-! the class: reseat and take out -/
def mvd (σ σ' : Sg) (a : Nat → Nat) (m t c : Nat) : Prop := (∀ j, j < 6 → σ'.2.2 6 j = σ.2.2 6 (mvF m t j)) ∧ (∀ k, k ≠ 6 → σ'.2.2 k = σ.2.2 k) ∧ (∀ k, (k < 5 ∨ (5 < k ∧ k < 8) ∨ 13 < k) → σ'.1 k = σ.1 k) ∧ σ'.1 5 2 = nI c ∧ σ'.1 5 3 = σ.1 5 3 ∧ (∀ x f, x < 6 → f < 5 → σ'.1 (σ.2.2 6 x) f = σ.1 (σ.2.2 6 x) f) ∧ ∀ x, x < c → σ'.1 (σ.2.2 6 (mvF m t x)) 5 = nI (rnS (a (44 + mvF m t x)) (mvF m t) c)
theorem v_reseat {σ : Sg} {a : Nat → Nat} {m t : Nat} (ha : wfA a) (hD : repD σ 5 a) (hM : MR σ 5) (hm : m < a 0) (ht : t < a 0) {post : Sg → Prop} (h : ∀ σ', mvd σ σ' a m t (a 0) → post σ') : wpX1_reseat 5 (nI m) (nI t) σ post := by
  have h6 := ha.1
  have hq : ∀ x, x < 6 → 8 ≤ σ.2.2 6 x ∧ σ.2.2 6 x ≤ 13 := fun x hx => hM.1 x hx
  have hinj : ∀ i j, i < 6 → j < 6 → σ.2.2 6 i = σ.2.2 6 j → i = j := hM.2
  have hB : ∀ x, x < a 0 → σ.1 (σ.2.2 6 x) 5 = nI (a (44 + x)) := fun x hx => (hD.2.2 x hx).2.2.2.2.2
  have l96 : ∀ r k σ1, k + r = a 0 → (∀ j, j < 6 → σ1.2.2 6 j = σ.2.2 6 (mvF m t j)) → (∀ k, k ≠ 6 → σ1.2.2 k = σ.2.2 k) → (∀ k, (k < 8 ∨ 13 < k) → σ1.1 k = σ.1 k) → (∀ x f, x < 6 → f < 5 → σ1.1 (σ.2.2 6 x) f = σ.1 (σ.2.2 6 x) f) → (∀ x, x < k → σ1.1 (σ.2.2 6 (mvF m t x)) 5 = nI (rnS (a (44 + mvF m t x)) (mvF m t) (a 0))) → (∀ x, k ≤ x → x < a 0 → σ1.1 (σ.2.2 6 (mvF m t x)) 5 = nI (a (44 + mvF m t x))) → BX1_reseat_96 5 (nI m) (nI t) post (r + 1) (nI k) σ1 := by
    intro r
    induction r with
    | zero =>
      intro k σ1 hk hr ho hi hf h5 h7
      rw [BX1_reseat_96, hi 5 (by omega), hD.1]
      refine pk_le (a 0) k (fun _ => ?_) (fun c => by omega)
      refine h σ1 ⟨hr, ho, fun k hk => hi k (by omega), by rw [hi 5 (by omega)]; exact hD.1, by rw [hi 5 (by omega)], hf, fun x hx => h5 x (by omega)⟩
    | succ r ih =>
      intro k σ1 hk hr ho hi hf h5 h7
      rw [BX1_reseat_96, hi 5 (by omega), hD.1]
      have hk6 : k < 6 := by omega
      have hmv := mv_lt hm ht (show k < a 0 by omega)
      refine pk_le (a 0) k (fun c => by omega) (fun c => v_at1 k51 hk6 (fun _ => v_at1 k51 hk6 (fun _ => ?_)))
      rw [show σ1.2.2 (5 + 1) k = σ.2.2 6 (mvF m t k) from hr k hk6, h7 k (Nat.le_refl k) c]
      have hlt := (ha.2.2.2 (mvF m t k) hmv).2.2.2.2.2.2
      refine v_moved (by omega) hm ht hlt (fun σ2 e2 => ?_)
      have hqk := hq (mvF m t k) (by omega)
      rw [nI_1]
      refine ih (k + 1) σ2 (by omega) (by rw [e2]; exact hr) (by rw [e2]; exact ho) (fun y hy => by rw [e2, upd_row (by omega)]; exact hi y hy) (fun x f hx hf2 => ?_) (fun x hx => ?_) (fun x hx1 hx2 => ?_)
      · rw [e2, setI_1, if_neg (fun w => by omega)]; exact hf x f hx hf2
      · rw [e2, setI_1]
        by_cases z : x = k
        · rw [z, if_pos ⟨rfl, rfl⟩]
        · rw [if_neg (fun w => z (mv_inj m (by omega) t (by omega) x (by omega) k hk6 (hinj _ _ (by have := mv_lt hm ht (show x < a 0 by omega); omega) (by omega) w.1)))]
          exact h5 x (by omega)
      · have hx3 := mv_lt hm ht hx2
        rw [e2, setI_1, if_neg (fun w => by
          have := mv_inj m (by omega) t (by omega) x (by omega) k hk6 (hinj _ _ (by omega) (by omega) w.1)
          omega)]
        exact h7 x (by omega) hx2
  have hfin0 : s_fin 5 0 = 6 := (fin1 k51).1
  have l58 : ∀ r i σ1, i = t + r ∨ (r = 0 ∧ i ≤ t) → (m < t → i = m) → (t ≤ m → t ≤ i) → i ≤ m → σ1.1 = σ.1 → (∀ k, k ≠ 6 → σ1.2.2 k = σ.2.2 k) → (∀ j, j < 6 → σ1.2.2 6 j = σ.2.2 6 (if m ≤ j ∧ j < t then j + 1 else if i < j ∧ j ≤ m then j - 1 else j)) → BX1_reseat_58 5 (nI m) (nI t) post (r + 1) (σ.2.2 6 m) (nI i) σ1 := by
    intro r
    induction r with
    | zero =>
      intro i σ1 hi hmt htm him e1 ho hr
      rw [BX1_reseat_58, hfin0]
      refine pk_le i t (fun _ => ⟨pk_in t 6 (by omega), fun σ2 e2 => ?_⟩) (fun c => by omega)
      rw [nI_clamp (by omega)] at e2
      have e21 : σ2.1 = σ.1 := by rw [e2]; exact e1
      refine ⟨_, l96 (a 0) 0 σ2 (by omega) (fun j hj => ?_) (fun k hk => ?_) (fun k _ => by rw [e21]) (fun x f _ _ => by rw [e21]) (fun x hx => absurd hx (Nat.not_lt_zero x)) (fun x _ hx => by rw [e21]; exact hB _ (mv_lt hm ht hx))⟩
      · rw [e2, setR_3]
        unfold mvF
        by_cases z : j = t
        · rw [if_pos ⟨rfl, z⟩, if_pos z]
        · rw [if_neg (fun w => z w.2), if_neg z, hr j hj]
          congr 1
          by_cases z1 : m ≤ j ∧ j < t
          · rw [if_pos z1, if_pos z1]
          · rw [if_neg z1, if_neg z1]
            by_cases z2 : i < j ∧ j ≤ m
            · rw [if_pos z2, if_pos (by omega)]
            · rw [if_neg z2, if_neg (by omega)]
      · rw [← ho k hk]
        rw [e2]
        funext x; rw [setR_3, if_neg (fun w => hk w.1)]
    | succ r ih =>
      intro i σ1 hi hmt htm him e1 ho hr
      rw [BX1_reseat_58, hfin0]
      have hit : t < i := by omega
      refine pk_le i t (fun c => by omega) (fun c => ?_)
      rw [show nI i - (1 : Int32) = nI (i - 1) from pk_sub (b := 1) (by omega)]
      refine ⟨pk_in (i - 1) 6 (by omega), fun q eq => ⟨pk_in i 6 (by omega), fun σ2 e2 => ?_⟩⟩
      rw [nI_clamp (by omega), hr (i - 1) (by omega), if_neg (by omega), if_neg (by omega)] at eq
      rw [nI_clamp (by omega), eq] at e2
      rw [show nI i + (-1) = nI (i - 1) from by
        have := pk_m1 (i - 1)
        rw [Nat.sub_add_cancel (by omega)] at this
        exact this]
      refine ih (i - 1) σ2 (by omega) (by omega) (by omega) (by omega) (by rw [e2]; exact e1) (fun k hk => ?_) (fun j hj => ?_)
      · rw [← ho k hk, e2]
        funext x; rw [setR_3, if_neg (fun w => hk w.1)]
      · rw [e2, setR_3]
        by_cases z : j = i
        · rw [if_pos ⟨rfl, z⟩, if_neg (by omega), if_pos (by omega), z]
        · rw [if_neg (fun w => z w.2), hr j hj]
          congr 1
          by_cases z1 : m ≤ j ∧ j < t
          · rw [if_pos z1, if_pos z1]
          · rw [if_neg z1, if_neg z1]
            by_cases z2 : i < j ∧ j ≤ m
            · rw [if_pos z2, if_pos (by omega)]
            · rw [if_neg z2, if_neg (by omega)]
  have l27 : ∀ r i σ1, (i + r = t ∨ (r = 0 ∧ t ≤ i)) → (m < t → m ≤ i ∧ i ≤ t) → (t ≤ m → i = m) → σ1.1 = σ.1 → (∀ k, k ≠ 6 → σ1.2.2 k = σ.2.2 k) → (∀ j, j < 6 → σ1.2.2 6 j = σ.2.2 6 (if m ≤ j ∧ j < i ∧ m < t then j + 1 else j)) → BX1_reseat_27 5 (nI m) (nI t) post (r + 1) (σ.2.2 6 m) (nI i) σ1 := by
    intro r
    induction r with
    | zero =>
      intro i σ1 hi hmt htm e1 ho hr
      rw [BX1_reseat_27]
      refine pk_le t i (fun _ => ?_) (fun c => by omega)
      rcases Nat.lt_or_ge m t with w | w
      · refine ⟨_, l58 0 m σ1 (Or.inr ⟨rfl, by omega⟩) (fun _ => rfl) (by omega) (Nat.le_refl m) e1 ho (fun j hj => ?_)⟩
        rw [hr j hj]
        congr 1
        by_cases z1 : m ≤ j ∧ j < t
        · rw [if_pos z1, if_pos (by omega)]
        · rw [if_neg z1, if_neg (by omega), if_neg (by omega)]
      · refine ⟨_, l58 (m - t) m σ1 (Or.inl (by omega)) (by omega) (fun _ => w) (Nat.le_refl m) e1 ho (fun j hj => ?_)⟩
        rw [hr j hj, if_neg (by omega), if_neg (by omega), if_neg (by omega)]
    | succ r ih =>
      intro i σ1 hi hmt htm e1 ho hr
      rw [BX1_reseat_27, hfin0]
      have hit : i < t := by omega
      refine pk_le t i (fun c => by omega) (fun c => ?_)
      rw [nI_1]
      refine ⟨pk_in (i + 1) 6 (by omega), fun q eq => ⟨pk_in i 6 (by omega), fun σ2 e2 => ?_⟩⟩
      rw [nI_clamp (by omega), hr (i + 1) (by omega), if_neg (by omega)] at eq
      rw [nI_clamp (by omega), eq] at e2
      refine ih (i + 1) σ2 (by omega) (by omega) (by omega) (by rw [e2]; exact e1) (fun k hk => ?_) (fun j hj => ?_)
      · rw [← ho k hk, e2]
        funext x; rw [setR_3, if_neg (fun w => hk w.1)]
      · rw [e2, setR_3]
        by_cases z : j = i
        · rw [if_pos ⟨rfl, z⟩, if_pos (by omega), z]
        · rw [if_neg (fun w => z w.2), hr j hj]
          congr 1
          by_cases z1 : m ≤ j ∧ j < i ∧ m < t
          · rw [if_pos z1, if_pos (by omega)]
          · rw [if_neg z1, if_neg (by omega)]
  unfold wpX1_reseat
  refine v_has ha hD.1 (nI m) (fun _ _ _ => ⟨fun w => absurd w (by decide), fun _ => v_has ha hD.1 (nI t) (fun _ _ _ => ⟨fun _ => ⟨pk_in m 6 (by omega), fun q eq => ?_⟩, fun w => absurd w (by decide)⟩) (fun hno => absurd rfl (hno t ht))⟩) (fun hno => absurd rfl (hno m hm))
  rw [nI_clamp (by omega), hfin0] at eq
  rw [eq]
  exact ⟨_, l27 (t - m) m σ (by omega) (by omega) (fun _ => rfl) rfl (fun _ _ => rfl) (fun j _ => by rw [if_neg (by omega)])⟩
theorem v_takeOut {σ : Sg} {a : Nat → Nat} {m : Nat} (ha : wfA a) (hD : repD σ 5 a) (hM : MR σ 5) (hm : m < a 0) {post : Sg → Prop} (h : ∀ σ', mvd σ σ' a m (a 0 - 1) (a 0 - 1) → post σ') : wpX1_takeOut 5 (nI m) σ post := by
  have h6 := ha.1
  have hq : ∀ x, x < 6 → 8 ≤ σ.2.2 6 x ∧ σ.2.2 6 x ≤ 13 := fun x hx => hM.1 x hx
  have hinj : ∀ i j, i < 6 → j < 6 → σ.2.2 6 i = σ.2.2 6 j → i = j := hM.2
  unfold wpX1_takeOut
  refine v_has ha hD.1 (nI m) (fun _ _ _ => ⟨fun _ => ?_, fun w => absurd w (by decide)⟩) (fun hno => absurd rfl (hno m hm))
  rw [hD.1, show nI (a 0) - (1 : Int32) = nI (a 0 - 1) from pk_sub (b := 1) (by omega)]
  refine v_reseat ha hD hM hm (by omega) (fun σ1 v1 σ2 e2 => ?_)
  obtain ⟨hr, ho, hi, h2, h3, hf, h5⟩ := v1
  generalize hT : a 0 - 1 = t at *
  have hta : a 0 = t + 1 := by omega
  rw [h2, show nI (a 0) - (1 : Int32) = nI t from by rw [hta, show nI (t + 1) - (1 : Int32) = nI (t + 1 - 1) from pk_sub (b := 1) (by omega), Nat.add_sub_cancel]] at e2
  have e52 : σ2.1 5 2 = nI t := by rw [e2, setI_1, if_pos ⟨rfl, rfl⟩]
  have key : ∀ r k σ3, k + r = t → σ3.2 = σ2.2 → (∀ k, (k < 8 ∨ 13 < k) → σ3.1 k = σ2.1 k) → (∀ x f, x < 6 → f < 5 → σ3.1 (σ.2.2 6 x) f = σ.1 (σ.2.2 6 x) f) → (∀ x, x < k → σ3.1 (σ.2.2 6 (mvF m t x)) 5 = nI (rnS (a (44 + mvF m t x)) (mvF m t) t)) → (∀ x, k ≤ x → x < t → σ3.1 (σ.2.2 6 (mvF m t x)) 5 = nI (rnS (a (44 + mvF m t x)) (mvF m t) (a 0))) → BX1_takeOut_32 5 (nI m) post (r + 1) (nI k) σ3 := by
    intro r
    induction r with
    | zero =>
      intro k σ3 hk r3 i3 f3 g3 g4
      rw [BX1_takeOut_32, i3 5 (by omega), e52]
      refine pk_le t k (fun _ => ?_) (fun c => by omega)
      refine h σ3 ⟨fun j hj => by rw [r3, e2]; exact hr j hj, fun k hk => by rw [r3, e2]; exact ho k hk, fun k hk => by rw [i3 k (by omega), e2, upd_row (by omega)]; exact hi k hk, by rw [i3 5 (by omega)]; exact e52, by rw [i3 5 (by omega), e2, setI_1, if_neg (by decide)]; exact h3, f3, fun x hx => g3 x (by omega)⟩
    | succ r ih =>
      intro k σ3 hk r3 i3 f3 g3 g4
      rw [BX1_takeOut_32, i3 5 (by omega), e52]
      have hk6 : k < 6 := by omega
      have hmv := mv_lt hm (show t < a 0 by omega) (show k < a 0 by omega)
      have hrow : σ3.2.2 (5 + 1) k = σ.2.2 6 (mvF m t k) := by rw [r3, e2]; exact hr k hk6
      refine pk_le t k (fun c => by omega) (fun c => v_at1 k51 hk6 (fun _ => v_at1 k51 hk6 (fun _ => ?_)))
      unfold wpX6_bitsBelow
      intro σ4 e4
      have hlt : rnS (a (44 + mvF m t k)) (mvF m t) (a 0) < 2 ^ a 0 := sN_lt _ _
      have h64 := pow_le6 h6
      rw [hrow, i3 5 (by omega), e52, g4 k (Nat.le_refl k) c, c_below (by omega) (by omega)] at e4
      rw [show rnS (a (44 + mvF m t k)) (mvF m t) (a 0) % 2 ^ t = rnS (a (44 + mvF m t k)) (mvF m t) t from by rw [hta]; exact rn_below _ _ t] at e4
      have hqk := hq (mvF m t k) (by omega)
      rw [nI_1]
      refine ih (k + 1) σ4 (by omega) (by rw [e4]; exact r3) (fun y hy => by rw [e4, upd_row (by omega)]; exact i3 y hy) (fun x f hx hf2 => ?_) (fun x hx => ?_) (fun x hx1 hx2 => ?_)
      · rw [e4, setI_1, if_neg (fun w => by omega)]; exact f3 x f hx hf2
      · rw [e4, setI_1]
        by_cases z : x = k
        · rw [z, if_pos ⟨rfl, rfl⟩]
        · rw [if_neg (fun w => z (mv_inj m (by omega) t (by omega) x (by omega) k hk6 (hinj _ _ (by have := mv_lt hm (show t < a 0 by omega) (show x < a 0 by omega); omega) (by omega) w.1)))]
          exact g3 x (by omega)
      · have hx3 := mv_lt hm (show t < a 0 by omega) (show x < a 0 by omega)
        rw [e4, setI_1, if_neg (fun w => by
          have := mv_inj m (by omega) t (by omega) x (by omega) k hk6 (hinj _ _ (by omega) (by omega) w.1)
          omega)]
        exact g4 x (by omega) hx2
  refine ⟨_, key t 0 σ2 (by omega) rfl (fun _ _ => rfl) (fun x f hx hf2 => ?_) (fun x hx => absurd hx (Nat.not_lt_zero x)) (fun x _ hx => ?_)⟩
  · have hqx := hq x hx
    rw [e2, upd_row (by omega)]; exact hf x f hx hf2
  · have hx3 := mv_lt hm (show t < a 0 by omega) (show x < a 0 by omega)
    have hqx := hq (mvF m t x) (by omega)
    rw [e2, upd_row (by omega)]; exact h5 x (by omega)
theorem stC.mvd {σ σ1 σ2 : Sg} {hn' : Nat} {pa' : Nat → Nat → Nat} {a : Nat → Nat} {m t c : Nat} (h : stC σ σ1 hn' pa' a) (hm : m < a 0) (ht : t < a 0) (hc : c ≤ a 0) (v : mvd σ1 σ2 a m t c) : stC σ σ2 hn' pa' (arA a (mvF m t) c) := by
  obtain ⟨c1, c2, c3, c4, c5, c6, c7⟩ := h
  obtain ⟨hr, ho, hi, h2, h3, hf, h5⟩ := v
  have h6 := c7.1
  have hc6 : c ≤ 6 := by omega
  have hq : ∀ x, x < 6 → 8 ≤ σ1.2.2 6 x ∧ σ1.2.2 6 x ≤ 13 := fun x hx => c6.1 x hx
  have hinj : ∀ i j, i < 6 → j < 6 → σ1.2.2 6 i = σ1.2.2 6 j → i = j := c6.2
  have hmv6 : ∀ x, x < 6 → mvF m t x < 6 := fun x hx => mv_lt (by omega) (by omega) hx
  have hwf := arA_wf (fr := mvF m t) c7 hc6 (fun x hx => mv_lt hm ht (by omega))
  refine ⟨fun k hk => ⟨by rw [hi k (by omega)]; exact (c1 k hk).1, by rw [ho k (by omega)]; exact (c1 k hk).2⟩, c2.fr (fun k _ _ => ⟨hi k (by omega), ho k (by omega)⟩), by rw [hi 90 (by omega)]; exact c3, by rw [hi 97 (by omega)]; exact c4, ⟨by rw [arA_0]; exact h2, by rw [arA_1 hc6, h3]; exact c5.2.1, fun x hx => ?_⟩, ⟨fun x hx => ?_, fun i j hi1 hj1 w => ?_⟩, hwf⟩
  · rw [arA_0] at hx
    have hx3 := mv_lt hm ht (show x < a 0 by omega)
    obtain ⟨b0, b1, b2, b3, b4, b5⟩ := c5.2.2 (mvF m t x) hx3
    obtain ⟨g1, g2, g3, g4, g5, g6, g7, g8⟩ := arA_g (a := a) (fr := mvF m t) hc6 hx
    have e : σ2.2.2 (5 + 1) x = σ1.2.2 6 (mvF m t x) := hr x (by omega)
    rw [e]
    unfold repMb wdN
    rw [g1, g2, g3, g4, g5, g6, g7, g8, hf _ 0 (by omega) (by decide), hf _ 1 (by omega) (by decide), hf _ 2 (by omega) (by decide), hf _ 3 (by omega) (by decide), hf _ 4 (by omega) (by decide), h5 x hx]
    exact ⟨b0, b1, b2, b3, b4, rfl⟩
  · have e : σ2.2.2 (5 + 1) x = σ1.2.2 6 (mvF m t x) := hr x hx
    rw [e]; exact hq _ (hmv6 x hx)
  · have e1 : σ2.2.2 (5 + 1) i = σ1.2.2 6 (mvF m t i) := hr i hi1
    have e2 : σ2.2.2 (5 + 1) j = σ1.2.2 6 (mvF m t j) := hr j hj1
    rw [e1, e2] at w
    exact mv_inj m (by omega) t (by omega) i hi1 j hj1 (hinj _ _ (hmv6 i hi1) (hmv6 j hj1) w)
theorem d_move (P : Pm) (x y : Int32) : ∃ r P', Dt (wpX6_move x y) P r P' := by
  obtain ⟨⟨a, tx, n⟩, ⟨hn, pa⟩, ke, im⟩ := P
  by_cases hh : ∃ m t : Nat, m < a 0 ∧ t < a 0 ∧ x = nI m ∧ y = nI t
  · obtain ⟨m, t, hm, ht, rfl, rfl⟩ := hh
    refine ⟨nI t, ((arA a (mvF m t) (a 0), tx, n), (hnN hn, paN hn pa a), ke, im), fun σ h post hp => ?_⟩
    have h : Cx σ a tx n hn pa ke im := h
    have ha := h.1.1
    have hD := h.1.2.2.1
    unfold wpX6_move
    refine v_has ha hD.1 (nI m) (fun _ _ _ => ⟨fun w => absurd w (by decide), fun _ => v_has ha hD.1 (nI t) (fun _ _ _ => ⟨fun _ => ?_, fun w => absurd w (by decide)⟩) (fun hno => absurd rfl (hno t ht))⟩) (fun hno => absurd rfl (hno m hm))
    refine q_begin h (fun σ1 f1 c1 => v_reseat ha c1.2.2.2.2.1 c1.2.2.2.2.2.1 hm ht (fun σ2 v2 => ?_))
    exact hp σ2 (h.fin (c1.mvd hm ht (Nat.le_refl _) v2))
  · refine ⟨-1, ((a, tx, n), (hn, pa), ke, im), fun σ h post hp => ?_⟩
    have h2 : Cs σ ((a, tx, n), (hn, pa), ke, im) := h
    have h : Cx σ a tx n hn pa ke im := h
    have ha := h.1.1
    have hD := h.1.2.2.1
    unfold wpX6_move
    exact v_has ha hD.1 x (fun m hm ex => ⟨fun _ => hp σ h2, fun _ => v_has ha hD.1 y (fun t ht ey => absurd ⟨m, t, hm, ht, ex, ey⟩ hh) (fun _ => ⟨fun w => absurd rfl w, fun _ => hp σ h2⟩)⟩) (fun _ => ⟨fun _ => hp σ h2, fun w => absurd rfl w⟩)
theorem d_remove (P : Pm) (x : Int32) : ∃ r P', Dt (wpX6_remove x) P r P' := by
  obtain ⟨⟨a, tx, n⟩, ⟨hn, pa⟩, ke, im⟩ := P
  by_cases hh : ∃ m : Nat, m < a 0 ∧ x = nI m
  · obtain ⟨m, hm, rfl⟩ := hh
    refine ⟨nI (a 0 - 1), ((arA a (mvF m (a 0 - 1)) (a 0 - 1), tx, n), (hnN hn, paN hn pa a), ke, im), fun σ h post hp => ?_⟩
    have h : Cx σ a tx n hn pa ke im := h
    have ha := h.1.1
    have hD := h.1.2.2.1
    unfold wpX6_remove
    refine v_has ha hD.1 (nI m) (fun _ _ _ => ⟨fun _ => ?_, fun w => absurd w (by decide)⟩) (fun hno => absurd rfl (hno m hm))
    refine q_begin h (fun σ1 f1 c1 => v_takeOut ha c1.2.2.2.2.1 c1.2.2.2.2.2.1 hm (fun σ2 v2 => ?_))
    have hst := c1.mvd hm (show a 0 - 1 < a 0 by omega) (show a 0 - 1 ≤ a 0 by omega) v2
    rw [v2.2.2.2.1]
    exact hp σ2 (h.fin hst)
  · refine ⟨-1, ((a, tx, n), (hn, pa), ke, im), fun σ h post hp => ?_⟩
    have h2 : Cs σ ((a, tx, n), (hn, pa), ke, im) := h
    have h : Cx σ a tx n hn pa ke im := h
    unfold wpX6_remove
    exact v_has h.1.1 h.1.2.2.1.1 x (fun m hm ex => absurd ⟨m, hm, ex⟩ hh) (fun _ => ⟨fun w => absurd rfl w, fun _ => hp σ h2⟩)
