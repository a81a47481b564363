/-! move and remove: the members in another order -/
/-- which member comes to place x when m goes to t -/
def mvF (m t x : Nat) : Nat := if x = t then m else if m ≤ x ∧ x < t then x + 1 else if t < x ∧ x ≤ m then x - 1 else x
def rnS (s : Nat) (fr : Nat → Nat) (c : Nat) : Nat := sN (fun j => s.testBit (fr j)) c
theorem mv_lt {c m t x : Nat} (hm : m < c) (ht : t < c) (hx : x < c) : mvF m t x < c := by
  unfold mvF
  split
  · exact hm
  · split
    · omega
    · split <;> omega
theorem mv_out {c m t x : Nat} (hm : m < c) (ht : t < c) (hx : c ≤ x) : mvF m t x = x := by
  unfold mvF
  rw [if_neg (by omega), if_neg (by omega), if_neg (by omega)]
theorem mv_inj : ∀ m, m < 6 → ∀ t, t < 6 → ∀ i, i < 6 → ∀ j, j < 6 → mvF m t i = mvF m t j → i = j := by decide +kernel
theorem wbm_c : ∀ c, c < 7 → ∀ m, m < c → ∀ t, t < c → ∀ s, s < 2 ^ c → ((((nI s &&& (((1 : Int32) <<< (nI m &&& 31)) - (1 : Int32))) ||| ((nI s >>> ((nI m + (1 : Int32)) &&& 31)) <<< (nI m &&& 31))) &&& (((1 : Int32) <<< (nI t &&& 31)) - (1 : Int32))) ||| (nI (if s.testBit m then 1 else 0) <<< (nI t &&& 31))) ||| ((((nI s &&& (((1 : Int32) <<< (nI m &&& 31)) - (1 : Int32))) ||| ((nI s >>> ((nI m + (1 : Int32)) &&& 31)) <<< (nI m &&& 31))) >>> (nI t &&& 31)) <<< ((nI t + (1 : Int32)) &&& 31)) = nI (rnS s (mvF m t) c) := by decide +kernel
theorem v_moved {c m t s : Nat} (hc : c < 7) (hm : m < c) (ht : t < c) (hs : s < 2 ^ c) {σ : Sg} {post : Int32 → Sg → Prop} (h : post (nI (rnS s (mvF m t) c)) σ) : wpX6_withBitMoved (nI s) (nI m) (nI t) σ post := by
  have h64 := pow_le6 (c := c) (by omega)
  unfold wpX6_withBitMoved wpX6_bitsBelow
  refine v_bitOf (by omega) (by omega) ?_
  try dsimp only
  rw [wbm_c c hc m hm t ht s hs]
  exact h
theorem rn_below (s : Nat) (fr : Nat → Nat) (c : Nat) : rnS s fr (c + 1) % 2 ^ c = rnS s fr c := by
  have e : rnS s fr (c + 1) = rnS s fr c + (if s.testBit (fr c) then 2 ^ c else 0) := rfl
  have hl : rnS s fr c < 2 ^ c := sN_lt _ c
  rw [e]
  by_cases z : s.testBit (fr c) = true
  · rw [if_pos z, Nat.add_mod_right, Nat.mod_eq_of_lt hl]
  · rw [if_neg z, Nat.add_zero, Nat.mod_eq_of_lt hl]
/-- the row of the declarations in another order -/
def arS (a : Nat → Nat) (fr : Nat → Nat) (c : Nat) (b : Nat → Nat) (m : Nat) : Nat → Nat := putA (putA (putA (putA (putA (putA (putA (putA b (2 + 3 * m + 0) (a (2 + 3 * fr m + 0))) (2 + 3 * m + 1) (a (2 + 3 * fr m + 1))) (2 + 3 * m + 2) (a (2 + 3 * fr m + 2))) (20 + m) (a (20 + fr m))) (26 + m) (a (26 + fr m))) (32 + m) (a (32 + fr m))) (38 + m) (a (38 + fr m))) (44 + m) (rnS (a (44 + fr m)) fr c)
def arP (a : Nat → Nat) (fr : Nat → Nat) (c : Nat) : Nat → Nat → Nat
  | 0 => a
  | m + 1 => arS a fr c (arP a fr c m) m
def arA (a : Nat → Nat) (fr : Nat → Nat) (c : Nat) : Nat → Nat := putA (arP a fr c c) 0 c
theorem arS_eq (a fr : Nat → Nat) (c : Nat) (b : Nat → Nat) (m k : Nat) : arS a fr c b m k = if k = 44 + m then rnS (a (44 + fr m)) fr c else if k = 38 + m then a (38 + fr m) else if k = 32 + m then a (32 + fr m) else if k = 26 + m then a (26 + fr m) else if k = 20 + m then a (20 + fr m) else if k = 2 + 3 * m + 2 then a (2 + 3 * fr m + 2) else if k = 2 + 3 * m + 1 then a (2 + 3 * fr m + 1) else if k = 2 + 3 * m + 0 then a (2 + 3 * fr m + 0) else b k := rfl
theorem arS_n {a fr : Nat → Nat} {c : Nat} {b : Nat → Nat} {m k : Nat} (h1 : k ≠ 44 + m) (h2 : k ≠ 38 + m) (h3 : k ≠ 32 + m) (h4 : k ≠ 26 + m) (h5 : k ≠ 20 + m) (h6 : k < 2 + 3 * m ∨ 4 + 3 * m < k) : arS a fr c b m k = b k := by
  rw [arS_eq, if_neg h1, if_neg h2, if_neg h3, if_neg h4, if_neg h5, if_neg (by omega), if_neg (by omega), if_neg (by omega)]
/-- what stands at the places of member x -/
def arG (a fr : Nat → Nat) (c : Nat) (b : Nat → Nat) (x : Nat) : Prop := b (2 + 3 * x) = a (2 + 3 * fr x) ∧ b (3 + 3 * x) = a (3 + 3 * fr x) ∧ b (4 + 3 * x) = a (4 + 3 * fr x) ∧ b (20 + x) = a (20 + fr x) ∧ b (26 + x) = a (26 + fr x) ∧ b (32 + x) = a (32 + fr x) ∧ b (38 + x) = a (38 + fr x) ∧ b (44 + x) = rnS (a (44 + fr x)) fr c
theorem arP_at (a fr : Nat → Nat) (c : Nat) : ∀ m, m ≤ 6 → (∀ x, x < m → arG a fr c (arP a fr c m) x) ∧ arP a fr c m 1 = a 1
  | 0, _ => ⟨fun x hx => absurd hx (Nat.not_lt_zero x), rfl⟩
  | m + 1, hm => by
    obtain ⟨h1, h2⟩ := arP_at a fr c m (by omega)
    refine ⟨fun x hx => ?_, ?_⟩
    · show arG a fr c (arS a fr c (arP a fr c m) m) x
      by_cases z : x = m
      · subst z
        refine ⟨?_, ?_, ?_, ?_, ?_, ?_, ?_, ?_⟩
        · rw [arS_eq, if_neg (by omega), if_neg (by omega), if_neg (by omega), if_neg (by omega), if_neg (by omega), if_neg (by omega), if_neg (by omega), if_pos (by omega)]; rfl
        · rw [arS_eq, if_neg (by omega), if_neg (by omega), if_neg (by omega), if_neg (by omega), if_neg (by omega), if_neg (by omega), if_pos (by omega), show 2 + 3 * fr x + 1 = 3 + 3 * fr x by omega]
        · rw [arS_eq, if_neg (by omega), if_neg (by omega), if_neg (by omega), if_neg (by omega), if_neg (by omega), if_pos (by omega), show 2 + 3 * fr x + 2 = 4 + 3 * fr x by omega]
        · rw [arS_eq, if_neg (by omega), if_neg (by omega), if_neg (by omega), if_neg (by omega), if_pos rfl]
        · rw [arS_eq, if_neg (by omega), if_neg (by omega), if_neg (by omega), if_pos rfl]
        · rw [arS_eq, if_neg (by omega), if_neg (by omega), if_pos rfl]
        · rw [arS_eq, if_neg (by omega), if_pos rfl]
        · rw [arS_eq, if_pos rfl]
      · have hg := h1 x (by omega)
        unfold arG at hg ⊢
        rw [arS_n (k := 2 + 3 * x) (by omega) (by omega) (by omega) (by omega) (by omega) (by omega), arS_n (k := 3 + 3 * x) (by omega) (by omega) (by omega) (by omega) (by omega) (by omega), arS_n (k := 4 + 3 * x) (by omega) (by omega) (by omega) (by omega) (by omega) (by omega), arS_n (k := 20 + x) (by omega) (by omega) (by omega) (by omega) (by omega) (by omega), arS_n (k := 26 + x) (by omega) (by omega) (by omega) (by omega) (by omega) (by omega), arS_n (k := 32 + x) (by omega) (by omega) (by omega) (by omega) (by omega) (by omega), arS_n (k := 38 + x) (by omega) (by omega) (by omega) (by omega) (by omega) (by omega), arS_n (k := 44 + x) (by omega) (by omega) (by omega) (by omega) (by omega) (by omega)]
        exact hg
    · show arS a fr c (arP a fr c m) m 1 = a 1
      rw [arS_n (by omega) (by omega) (by omega) (by omega) (by omega) (by omega)]; exact h2
theorem arP_le {a fr : Nat → Nat} {c : Nat} (ha : wfA a) (hc : c ≤ 6) : ∀ m k, arP a fr c m k ≤ 999
  | 0, k => ha.2.2.1 k
  | m + 1, k => by
    have ih := arP_le (fr := fr) ha hc m k
    have hl : ∀ s, rnS s fr c < 2 ^ c := fun s => sN_lt _ c
    have h64 := pow_le6 hc
    have h1 := hl (a (44 + fr m))
    have g1 := ha.2.2.1 (38 + fr m); have g2 := ha.2.2.1 (32 + fr m); have g3 := ha.2.2.1 (26 + fr m); have g4 := ha.2.2.1 (20 + fr m)
    have g5 := ha.2.2.1 (2 + 3 * fr m + 2); have g6 := ha.2.2.1 (2 + 3 * fr m + 1); have g7 := ha.2.2.1 (2 + 3 * fr m + 0)
    show arS a fr c (arP a fr c m) m k ≤ 999
    rw [arS_eq]
    repeat' split
    all_goals omega
theorem arA_g {a fr : Nat → Nat} {c : Nat} (hc : c ≤ 6) {x : Nat} (hx : x < c) : arG a fr c (arA a fr c) x := by
  have hg := (arP_at a fr c c hc).1 x hx
  unfold arG at hg ⊢
  unfold arA
  rw [putA_n _ (k := 2 + 3 * x) (by omega), putA_n _ (k := 3 + 3 * x) (by omega), putA_n _ (k := 4 + 3 * x) (by omega), putA_n _ (k := 20 + x) (by omega), putA_n _ (k := 26 + x) (by omega), putA_n _ (k := 32 + x) (by omega), putA_n _ (k := 38 + x) (by omega), putA_n _ (k := 44 + x) (by omega)]
  exact hg
theorem arA_0 (a fr : Nat → Nat) (c : Nat) : arA a fr c 0 = c := putA_p _ 0 c
theorem arA_1 {a fr : Nat → Nat} {c : Nat} (hc : c ≤ 6) : arA a fr c 1 = a 1 := by
  unfold arA
  rw [putA_n _ (by decide)]; exact (arP_at a fr c c hc).2
theorem arA_wf {a fr : Nat → Nat} {c : Nat} (ha : wfA a) (hc : c ≤ 6) (hfr : ∀ x, x < c → fr x < a 0) : wfA (arA a fr c) := by
  refine ⟨by rw [arA_0]; exact hc, by rw [arA_1 hc]; exact ha.2.1, fun k => ?_, fun x hx => ?_⟩
  · unfold arA putA
    have := arP_le (fr := fr) ha hc c k
    split <;> omega
  · rw [arA_0] at hx ⊢
    obtain ⟨g1, g2, g3, g4, g5, g6, g7, g8⟩ := arA_g (a := a) (fr := fr) hc hx
    obtain ⟨w1, w2, w3, w4, w5, w6, w7⟩ := ha.2.2.2 (fr x) (hfr x hx)
    rw [g1, g2, g3, g4, g5, g6, g8]
    exact ⟨w1, w2, w3, w4, w5, w6, sN_lt _ c⟩
/-! the reference -/
theorem stM.f22 {σ2 σ3 σ4 : Sg} {hn' : Nat} {pa' : Nat → Nat → Nat} {a : Nat → Nat} (h : stM σ2 σ3 hn' pa' a) {j : Nat} {v : Int32} (e : σ4 = setI σ3 122 j v) : stM σ2 σ4 hn' pa' a := by
  obtain ⟨m1, m2, m3, m4, m5, m6⟩ := h
  have r : σ4.2 = σ3.2 := by rw [e]; rfl
  have i : ∀ k, k ≠ 122 → σ4.1 k = σ3.1 k := fun k hk => by rw [e]; exact upd_row hk
  exact ⟨fun k hk => ⟨by rw [i k (by omega)]; exact (m1 k hk).1, by rw [r]; exact (m1 k hk).2⟩, fun k hk => by rw [i k (by omega)]; exact m2 k hk, fun j h1 h2 => by rw [i 117 (by decide)]; exact m3 j h1 h2, ⟨by rw [i 117 (by decide)]; exact m4.1, fun j hj k hk => by rw [i 119 (by decide)]; exact m4.2 j hj k hk⟩, by rw [i 117 (by decide)]; exact m5, fun k hk => by rw [i 118 (by decide)]; exact m6 k hk⟩
theorem m_old {σ : Sg} {a : Nat → Nat} {hn' p : Nat} {pa' : Nat → Nat → Nat} (hH : RHm σ hn' pa') (h1 : 1 ≤ hn') (h8 : hn' ≤ 8) (hpa : pa' (hn' - 1) = a) (hp : p < 50) {post : Int32 → Sg → Prop} (h : post (nI (a p)) σ) : wpX7_old (nI p) σ post := by
  unfold wpX7_old
  rw [hH.1, show nI hn' - (1 : Int32) = nI (hn' - 1) from pk_sub (b := 1) h1, show (50 : Int32) * nI (hn' - 1) = nI (50 * (hn' - 1)) from pk_mul 50 _, nI_add]
  refine ⟨pk_in (50 * (hn' - 1) + p) 400 (by omega), ?_⟩
  rw [nI_clamp (by omega), hH.2 (hn' - 1) (by omega) p hp, hpa]
  exact h
theorem m_renamed {σ : Sg} {fr : Nat → Nat} {s c : Nat} (hs : s < 2 ^ 31) (hc : c ≤ 6) (hf : ∀ j, j < c → σ.1 122 j = nI (fr j) ∧ fr j < 6) {post : Int32 → Sg → Prop} (h : post (nI (rnS s fr c)) σ) : wpX7_renamed (nI s) (nI c) σ post := by
  have key : ∀ r k, k + r = c → BX7_renamed_5 (nI s) (nI c) post (r + 1) (nI (rnS s fr k)) (nI k) σ := by
    intro r
    induction r with
    | zero =>
      intro k hk
      rw [BX7_renamed_5]
      refine pk_le c k (fun _ => ?_) (fun c => by omega)
      rw [show k = c by omega]; exact h
    | succ r ih =>
      intro k hk
      rw [BX7_renamed_5]
      refine pk_le c k (fun c => by omega) (fun c => ⟨pk_in k 6 (by omega), ?_⟩)
      rw [nI_clamp (by omega), (hf k c).1]
      have h2 := ih (k + 1) (by omega)
      rw [show rnS s fr (k + 1) = rnS s fr k + (if s.testBit (fr k) then 2 ^ k else 0) from rfl] at h2
      refine m_has hs (by have := (hf k c).2; omega) (bI_0 _ (fun e => ?_) (fun e => ?_))
      · rw [if_neg (by rw [e]; decide), Nat.add_zero] at h2
        rw [nI_1, show nI (rnS s fr k) ||| (0 : Int32) = nI (rnS s fr k) from by rw [show (0 : Int32) = nI 0 from rfl, c_or, Nat.or_zero]]
        exact h2
      · rw [if_pos e] at h2
        rw [nI_1, show nI (rnS s fr k) ||| ((1 : Int32) <<< (nI k &&& 31)) = nI (rnS s fr k + 2 ^ k) from sN_set (by omega)]
        exact h2
  exact ⟨_, key c 0 (by omega)⟩
theorem m_arrange {σ2 σ3 : Sg} {a fr : Nat → Nat} {hn' c : Nat} {pa' : Nat → Nat → Nat} (ha : wfA a) (hm : stM σ2 σ3 hn' pa' a) (h1 : 1 ≤ hn') (h8 : hn' ≤ 8) (hpa : pa' (hn' - 1) = a) (hc : c ≤ 6) (hf : ∀ j, j < c → σ3.1 122 j = nI (fr j) ∧ fr j < 6) {post : Sg → Prop} (h : ∀ σ4, stM σ2 σ4 hn' pa' (arA a fr c) → post σ4) : wpX7_arrange (nI c) σ3 post := by
  have key : ∀ r m σ4, m + r = c → stM σ2 σ4 hn' pa' (arP a fr c m) → σ4.1 122 = σ3.1 122 → BX7_arrange_2 (nI c) post (r + 1) (nI m) σ4 := by
    intro r
    induction r with
    | zero =>
      intro m σ4 hk m4 e4
      rw [BX7_arrange_2]
      refine pk_le c m (fun _ => ⟨in0_50, fun σ5 e5 => ?_⟩) (fun c => by omega)
      rw [show m = c by omega] at m4
      rw [z0] at e5
      exact h σ5 (m4.put e5)
    | succ r ih =>
      intro m σ4 hk m4 e4
      rw [BX7_arrange_2]
      refine pk_le c m (fun c => by omega) (fun cm => ⟨pk_in m 6 (by omega), ?_⟩)
      obtain ⟨hf1, hf2⟩ := hf m cm
      rw [nI_clamp (by omega), e4, hf1]
      have i20 : (20 : Int32) + nI (fr m) = nI (20 + fr m) := nI_add 20 _
      have i26 : (26 : Int32) + nI (fr m) = nI (26 + fr m) := nI_add 26 _
      have i32 : (32 : Int32) + nI (fr m) = nI (32 + fr m) := nI_add 32 _
      have i38 : (38 : Int32) + nI (fr m) = nI (38 + fr m) := nI_add 38 _
      have i44 : (44 : Int32) + nI (fr m) = nI (44 + fr m) := nI_add 44 _
      have j20 : (20 : Int32) + nI m = nI (20 + m) := nI_add 20 _
      have j26 : (26 : Int32) + nI m = nI (26 + m) := nI_add 26 _
      have j32 : (32 : Int32) + nI m = nI (32 + m) := nI_add 32 _
      have j38 : (38 : Int32) + nI m = nI (38 + m) := nI_add 38 _
      have j44 : (44 : Int32) + nI m = nI (44 + m) := nI_add 44 _
      have hend : ∀ σ5, stM σ2 σ5 hn' pa' (putA (putA (putA (arP a fr c m) (2 + 3 * m + 0) (a (2 + 3 * fr m + 0))) (2 + 3 * m + 1) (a (2 + 3 * fr m + 1))) (2 + 3 * m + 2) (a (2 + 3 * fr m + 2))) → σ5.1 122 = σ3.1 122 → BX7_arrange_17 (nI c) (BX7_arrange_2 (nI c) post (r + 1)) post 1 (nI m) (nI (fr m)) (nI 3) σ5 := by
        intro σ5 m5 e5
        rw [BX7_arrange_17]
        refine pk_le 3 3 (fun _ => ?_) (fun c => by omega)
        rw [i20, j20]
        refine m_old m5.2.2.2.1 h1 h8 hpa (by omega) ⟨pk_in (20 + m) 50 (by omega), fun σ6 e6 => ?_⟩
        rw [nI_clamp (by omega)] at e6
        have m6 := m5.put e6
        have r6 : σ6.1 122 = σ3.1 122 := by rw [e6, upd_row (by decide)]; exact e5
        rw [i26, j26]
        refine m_old m6.2.2.2.1 h1 h8 hpa (by omega) ⟨pk_in (26 + m) 50 (by omega), fun σ7 e7 => ?_⟩
        rw [nI_clamp (by omega)] at e7
        have m7 := m6.put e7
        have r7 : σ7.1 122 = σ3.1 122 := by rw [e7, upd_row (by decide)]; exact r6
        rw [i32, j32]
        refine m_old m7.2.2.2.1 h1 h8 hpa (by omega) ⟨pk_in (32 + m) 50 (by omega), fun σ8 e8 => ?_⟩
        rw [nI_clamp (by omega)] at e8
        have m8 := m7.put e8
        have r8 : σ8.1 122 = σ3.1 122 := by rw [e8, upd_row (by decide)]; exact r7
        rw [i38, j38]
        refine m_old m8.2.2.2.1 h1 h8 hpa (by omega) ⟨pk_in (38 + m) 50 (by omega), fun σ9 e9 => ?_⟩
        rw [nI_clamp (by omega)] at e9
        have m9 := m8.put e9
        have r9 : σ9.1 122 = σ3.1 122 := by rw [e9, upd_row (by decide)]; exact r8
        rw [i44, j44]
        have hal := a_lt ha (44 + fr m)
        refine m_old m9.2.2.2.1 h1 h8 hpa (by omega) (m_renamed (fr := fr) (by omega) hc (fun j hj => by rw [r9]; exact hf j hj) ⟨pk_in (44 + m) 50 (by omega), fun σ10 e10 => ?_⟩)
        rw [nI_clamp (by omega)] at e10
        rw [nI_1]
        exact ih (m + 1) σ10 (by omega) (m9.put e10) (by rw [e10, upd_row (by decide)]; exact r9)
      have hw : ∀ j, j < 3 → ((2 : Int32) + ((3 : Int32) * nI (fr m))) + nI j = nI (2 + 3 * fr m + j) ∧ ((2 : Int32) + ((3 : Int32) * nI m)) + nI j = nI (2 + 3 * m + j) := by
        intro j _
        rw [show (3 : Int32) * nI (fr m) = nI (3 * fr m) from pk_mul 3 _, show (2 : Int32) + nI (3 * fr m) = nI (2 + 3 * fr m) from nI_add 2 _, nI_add, show (3 : Int32) * nI m = nI (3 * m) from pk_mul 3 _, show (2 : Int32) + nI (3 * m) = nI (2 + 3 * m) from nI_add 2 _, nI_add]
        exact ⟨rfl, rfl⟩
      have step : ∀ f j σ5 b, j < 3 → stM σ2 σ5 hn' pa' b → σ5.1 122 = σ3.1 122 → (∀ σ6, stM σ2 σ6 hn' pa' (putA b (2 + 3 * m + j) (a (2 + 3 * fr m + j))) → σ6.1 122 = σ3.1 122 → BX7_arrange_17 (nI c) (BX7_arrange_2 (nI c) post (r + 1)) post f (nI m) (nI (fr m)) (nI (j + 1)) σ6) → BX7_arrange_17 (nI c) (BX7_arrange_2 (nI c) post (r + 1)) post (f + 1) (nI m) (nI (fr m)) (nI j) σ5 := by
        intro f j σ5 b hj m5 e5 hK
        rw [BX7_arrange_17]
        refine pk_le 3 j (fun c => by omega) (fun _ => ?_)
        rw [(hw j hj).1, (hw j hj).2]
        refine m_old m5.2.2.2.1 h1 h8 hpa (by omega) ⟨pk_in (2 + 3 * m + j) 50 (by omega), fun σ6 e6 => ?_⟩
        rw [nI_clamp (by omega)] at e6
        rw [nI_1]
        exact hK σ6 (m5.put e6) (by rw [e6, upd_row (by decide)]; exact e5)
      exact ⟨4, step 3 0 σ4 _ (by decide) m4 e4 (fun σ5 m5 e5 => step 2 1 σ5 _ (by decide) m5 e5 (fun σ6 m6 e6 => step 1 2 σ6 _ (by decide) m6 e6 (fun σ7 m7 e7 => hend σ7 m7 e7)))⟩
  exact ⟨_, key c 0 σ3 (by omega) hm rfl⟩
