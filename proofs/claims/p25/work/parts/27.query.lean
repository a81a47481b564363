/-! the class's answers about the text -/
theorem v_exists {σ : Sg} {a tx : Nat → Nat} {n : Nat} (hc : ctxN σ a tx n) (hT : tabC σ a tx n) {post : Int32 → Sg → Prop} (h : post (bI (decide (0 < wT a tx n 0))) σ) : wpX5_exists σ post := by
  have ha := hc.1
  have h4 := pow4_le ha.1
  have hp4 : 0 < 4 ^ a 0 := Nat.pow_pos (by decide)
  unfold wpX5_exists
  refine v_waysFrom (t := 0) (by decide) ?_
  rw [hT.2.2.1 0 hp4, lg_cmp_le]
  have hwl := wT_le (tx := tx) (n := n) ha 0
  by_cases z : 0 < wT a tx n 0
  · rw [decide_eq_true z] at h
    refine ⟨fun w => ?_, fun _ => h⟩
    have := (pk_lLE (a := wT a tx n 0) (b := 0) (by omega) (by decide)).mp w
    omega
  · rw [decide_eq_false z] at h
    refine ⟨fun _ => h, fun w => ?_⟩
    exact absurd ((pk_lLE (a := wT a tx n 0) (b := 0) (by omega) (by decide)).mpr (by omega)) w
/-- how far the text goes on behind a beginning -/
def mxN (f : Nat → Nat) : Nat → Nat
  | 0 => 0
  | c + 1 => if mxN f c < f c then f c else mxN f c
def fB (a tx : Nat → Nat) (n t p : Nat) : Nat := if stP a tx n t p = 0 then p else (if p < mxN (fun m => if mayB a t m = true then stP a tx n t p - 1 + mch a tx n m (stP a tx n t p - 1) else 0) (a 0) then mxN (fun m => if mayB a t m = true then stP a tx n t p - 1 + mch a tx n m (stP a tx n t p - 1) else 0) (a 0) else p)
def farI (a tx : Nat → Nat) (n M : Nat) : Prop := (∀ t p, Rc a tx n t p → fB a tx n t p ≤ M) ∧ (M = 0 ∨ ∃ t p, Rc a tx n t p ∧ fB a tx n t p = M)
theorem farI.uniq {a tx : Nat → Nat} {n M N : Nat} (h1 : farI a tx n M) (h2 : farI a tx n N) : M = N := by
  rcases h1.2 with rfl | ⟨t, p, hr, rfl⟩
  · rcases h2.2 with rfl | ⟨t, p, hr, rfl⟩
    · rfl
    · have := h1.1 t p hr; omega
  · have g1 := h2.1 t p hr
    rcases h2.2 with rfl | ⟨t2, p2, hr2, rfl⟩
    · omega
    · have := h1.1 t2 p2 hr2; omega
theorem mxN_le {f : Nat → Nat} {B : Nat} : ∀ c, (∀ m, m < c → f m ≤ B) → mxN f c ≤ B
  | 0, _ => Nat.zero_le _
  | c + 1, h => by
    have h1 := mxN_le c (fun m hm => h m (by omega))
    have h2 := h c (by omega)
    unfold mxN; split <;> omega
theorem mxN_ge {f : Nat → Nat} : ∀ c m, m < c → f m ≤ mxN f c
  | 0, m, h => absurd h (by omega)
  | c + 1, m, h => by
    unfold mxN
    rcases Nat.lt_or_ge m c with q | q
    · have := mxN_ge (f := f) c m q
      split <;> omega
    · rw [show m = c by omega]
      split <;> omega
theorem mxN_at {f : Nat → Nat} : ∀ c, mxN f c = 0 ∨ ∃ m, m < c ∧ f m = mxN f c
  | 0 => Or.inl rfl
  | c + 1 => by
    unfold mxN
    split
    · exact Or.inr ⟨c, by omega, rfl⟩
    · rcases mxN_at (f := f) c with h | ⟨m, h1, h2⟩
      · exact Or.inl h
      · exact Or.inr ⟨m, by omega, h2⟩
theorem stP_ge {a tx : Nat → Nat} {n t p : Nat} (h : stP a tx n t p ≠ 0) : p + 1 ≤ stP a tx n t p ∧ (p ≤ n → stP a tx n t p ≤ n + 1) := by
  unfold stP at h ⊢
  split
  · exact ⟨Nat.le_refl _, fun _ => by omega⟩
  · rename_i q
    rw [if_neg q] at h
    split
    · exact ⟨by omega, fun _ => by omega⟩
    · rename_i q2; rw [if_neg q2] at h; exact absurd rfl h
theorem smaxI {x y : Nat} (hx : x < 2 ^ 31) (hy : y < 2 ^ 31) : (if nI x < nI y then nI y else nI x) = nI (if x < y then y else x) := by
  by_cases c : x < y
  · rw [if_pos c, if_pos (nI_lt c hy)]
  · rw [if_neg c, if_neg (nI_nlt (by omega) hx)]
theorem fB_le {a tx : Nat → Nat} {n t p : Nat} (ha : wfA a) (hp : p ≤ n) : fB a tx n t p ≤ n + 3 := by
  unfold fB
  split
  · omega
  · rename_i q
    have hs := stP_ge q
    have := mxN_le (f := fun m => if mayB a t m = true then stP a tx n t p - 1 + mch a tx n m (stP a tx n t p - 1) else 0) (B := n + 3) (a 0) (fun m hm => by
      have h1 := mch_le a tx n m (stP a tx n t p - 1)
      have h2 := wl_le a m
      try dsimp only
      split <;> omega)
    split <;> omega
theorem v_farthestBehind {σ : Sg} {a tx : Nat → Nat} {n t p : Nat} (hc : ctxN σ a tx n) (ht : t < 4 ^ a 0) (hp : Rc a tx n t p) (he : σ.1 91 t = nI p) {post : Int32 → Sg → Prop} (h : post (nI (fB a tx n t p)) σ) : wpX5_farthestBehind (nI t) σ post := by
  have ha := hc.1
  have h6 := ha.1
  have h4 := pow4_le h6
  have hn := hc.2.1.1
  have hpn := (hp.J ha).2.2.2.2.2.2.2.1
  unfold wpX5_farthestBehind
  refine v_followers k51 ha (by omega) hc.2.2.1 ?_
  refine v_startBehind hc (by omega) hpn he ?_
  have h64 := sN_lt (mayB a t) (a 0)
  have hp6 := pow_le6 h6
  have hend : (post (nI p) σ) → wpX5_endOf (nI t) σ (fun r15 σ14 => post r15 σ14) := fun h => v_rEndOf (by omega) (by rw [he]; exact h)
  unfold fB at h
  by_cases z : sN (mayB a t) (a 0) = 0
  · rw [z]
    refine ⟨fun _ => hend ?_, fun w => absurd rfl w⟩
    have hno : ∀ m, m < a 0 → mayB a t m = false := by
      intro m hm
      have := sN_bit (mayB a t) (a 0) m
      rw [z, Nat.zero_testBit, decide_eq_true hm, Bool.true_and] at this
      exact this.symm
    have h0 : mxN (fun m => if mayB a t m = true then stP a tx n t p - 1 + mch a tx n m (stP a tx n t p - 1) else 0) (a 0) = 0 := by
      have := mxN_le (f := fun m => if mayB a t m = true then stP a tx n t p - 1 + mch a tx n m (stP a tx n t p - 1) else 0) (B := 0) (a 0) (fun m hm => by simp [hno m hm])
      omega
    rw [h0] at h
    split at h
    · exact h
    · rw [if_neg (by omega)] at h; exact h
  · refine ⟨fun w => absurd w (nI_ne0 (by omega) (by omega)), fun _ => ?_⟩
    by_cases q : stP a tx n t p = 0
    · rw [if_pos q] at h
      rw [q]
      exact ⟨fun w => absurd w (by decide), fun _ => hend h⟩
    · rw [if_neg q] at h
      have hs := stP_ge q
      have hs2 := hs.2 hpn
      rw [show oI (stP a tx n t p) = nI (stP a tx n t p - 1) from by unfold oI; rw [if_neg q]]
      generalize hS : stP a tx n t p - 1 = s at *
      refine ⟨fun _ => ?_, fun w => absurd (nI_pos' (by omega)) w⟩
      have key : ∀ r k acc, k + r = a 0 → acc = (if s < mxN (fun m => if mayB a t m = true then s + mch a tx n m s else 0) k then mxN (fun m => if mayB a t m = true then s + mch a tx n m s else 0) k else s) → BX5_farthestBehind_39 (nI t) post (r + 1) (nI (sN (mayB a t) (a 0))) (nI s) (nI acc) (nI k) σ := by
        intro r
        induction r with
        | zero =>
          intro k acc hk hacc
          rw [BX5_farthestBehind_39, hc.2.2.1.1]
          refine pk_le (a 0) k (fun _ => ?_) (fun c => by omega)
          have hk0 : k = a 0 := by omega
          subst hk0
          -- some member may follow, so the start itself doesn't count
          have hmem : ∃ m, m < a 0 ∧ mayB a t m = true := by
            refine Classical.byContradiction (fun hn => z ?_)
            apply Nat.eq_of_testBit_eq
            intro i
            rw [sN_bit, Nat.zero_testBit]
            by_cases hi : i < a 0
            · rw [decide_eq_true hi, Bool.true_and]
              rw [Bool.eq_false_iff]
              exact fun hb => hn ⟨i, hi, hb⟩
            · rw [decide_eq_false hi, Bool.false_and]
          obtain ⟨m, hm, hb⟩ := hmem
          have g := mxN_ge (f := fun m => if mayB a t m = true then s + mch a tx n m s else 0) (a 0) m hm
          try dsimp only at g
          rw [if_pos hb] at g
          have e : acc = (if p < mxN (fun m => if mayB a t m = true then s + mch a tx n m s else 0) (a 0) then mxN (fun m => if mayB a t m = true then s + mch a tx n m s else 0) (a 0) else p) := by
            rw [hacc]
            split <;> split <;> omega
          rw [e]; exact h
        | succ r ih =>
          intro k acc hk hacc
          rw [BX5_farthestBehind_39, hc.2.2.1.1]
          refine pk_le (a 0) k (fun c => by omega) (fun c => ?_)
          refine v_bitOf (by omega) (by omega) ?_
          have hb : (sN (mayB a t) (a 0)).testBit k = mayB a t k := by rw [sN_bit, decide_eq_true c, Bool.true_and]
          rw [hb]
          have hmx : mxN (fun m => if mayB a t m = true then s + mch a tx n m s else 0) (k + 1) = (if mxN (fun m => if mayB a t m = true then s + mch a tx n m s else 0) k < (if mayB a t k = true then s + mch a tx n k s else 0) then (if mayB a t k = true then s + mch a tx n k s else 0) else mxN (fun m => if mayB a t m = true then s + mch a tx n m s else 0) k) := rfl
          by_cases y : mayB a t k = true
          · rw [if_pos y] at hmx ⊢
            refine ⟨fun w => absurd rfl w, fun _ => v_at1 k51 (by omega) (fun _ => ?_)⟩
            refine v_lettersMatched f10 ha hc.2.1 c hc.2.2.2.1 (hc.2.2.1.2.2 k c).1 (by omega) ?_
            have m1 := mch_le a tx n k s
            have m2 := wl_le a k
            have m3 := mxN_le (f := fun m => if mayB a t m = true then s + mch a tx n m s else 0) (B := s + 3) k (fun m hm => by
              have h1 := mch_le a tx n m s
              have h2 := wl_le a m
              try dsimp only
              split <;> omega)
            have haccl : acc ≤ s + 3 := by rw [hacc]; split <;> omega
            rw [nI_add, smaxI (by omega) (by omega), nI_1]
            refine ih (k + 1) _ (by omega) ?_
            rw [hmx, hacc]
            split <;> (try split) <;> (try split) <;> (try split) <;> omega
          · rw [if_neg y] at hmx ⊢
            refine ⟨fun _ => ?_, fun w => absurd w (by decide)⟩
            rw [nI_1]
            refine ih (k + 1) acc (by omega) ?_
            rw [hmx, if_neg (Nat.not_lt_zero _)]
            exact hacc
      exact ⟨_, key (a 0) 0 s (by omega) (by show s = if s < 0 then 0 else s; rw [if_neg (by omega)])⟩
theorem v_farthest {σ : Sg} {a tx : Nat → Nat} {n : Nat} (hc : ctxN σ a tx n) (hE : ∀ s, s < 4 ^ a 0 → σ.1 91 s = oI (eT a tx n s)) {post : Int32 → Sg → Prop} (h : ∀ M, farI a tx n M → M < 2 ^ 31 → post (nI M) σ) : wpX5_farthest σ post := by
  have ha := hc.1
  have h6 := ha.1
  have h4 := pow4_le h6
  have hn := hc.2.1.1
  have hb : ∀ t, eT a tx n t ≠ 0 → fB a tx n t (eT a tx n t - 1) ≤ n + 3 := fun t ht => fB_le ha (by have := eT_le ha ht; omega)
  have key : ∀ r t, t + r = 4 ^ a 0 → BX5_farthest_5 post (r + 1) (nI (mxN (fun t => if eT a tx n t = 0 then 0 else fB a tx n t (eT a tx n t - 1)) t)) (nI t) σ := by
    intro r
    induction r with
    | zero =>
      intro t ht
      rw [BX5_farthest_5]
      refine v_tallies ha hc.2.2.1.1 (pk_le (4 ^ a 0) t (fun _ => ?_) (fun c => by omega))
      have ht0 : t = 4 ^ a 0 := by omega
      subst ht0
      have hM := mxN_le (f := fun t => if eT a tx n t = 0 then 0 else fB a tx n t (eT a tx n t - 1)) (B := n + 3) (4 ^ a 0) (fun m hm => by
        try dsimp only
        by_cases z : eT a tx n m = 0
        · rw [if_pos z]; omega
        · rw [if_neg z]; exact hb m z)
      refine h _ ⟨fun t p hr => ?_, ?_⟩ (by omega)
      · have g := mxN_ge (f := fun t => if eT a tx n t = 0 then 0 else fB a tx n t (eT a tx n t - 1)) (4 ^ a 0) t (hr.lt ha)
        try dsimp only at g
        rw [eT_of ha hr, if_neg (by omega), Nat.add_sub_cancel] at g
        exact g
      · rcases mxN_at (f := fun t => if eT a tx n t = 0 then 0 else fB a tx n t (eT a tx n t - 1)) (4 ^ a 0) with q | ⟨t, g1, g2⟩
        · exact Or.inl q
        · by_cases z : eT a tx n t = 0
          · left; rw [← g2]; try dsimp only
            rw [if_pos z]
          · right
            refine ⟨t, eT a tx n t - 1, eT_rc z, ?_⟩
            rw [← g2]; try dsimp only
            rw [if_neg z]
    | succ r ih =>
      intro t ht
      rw [BX5_farthest_5]
      refine v_tallies ha hc.2.2.1.1 (pk_le (4 ^ a 0) t (fun c => by omega) (fun c => v_rEndOf (by omega) ?_))
      rw [hE t c]
      have h2 := ih (t + 1) (by omega)
      have hmx : mxN (fun t => if eT a tx n t = 0 then 0 else fB a tx n t (eT a tx n t - 1)) (t + 1) = (if mxN (fun t => if eT a tx n t = 0 then 0 else fB a tx n t (eT a tx n t - 1)) t < (if eT a tx n t = 0 then 0 else fB a tx n t (eT a tx n t - 1)) then (if eT a tx n t = 0 then 0 else fB a tx n t (eT a tx n t - 1)) else mxN (fun t => if eT a tx n t = 0 then 0 else fB a tx n t (eT a tx n t - 1)) t) := rfl
      rw [hmx] at h2
      by_cases z : eT a tx n t = 0
      · rw [z, show oI 0 = (-9 : Int32) from rfl]
        refine ⟨fun _ => ?_, fun w => absurd (by decide) w⟩
        rw [if_pos z, if_neg (Nat.not_lt_zero _)] at h2
        rw [nI_1]; exact h2
      · have hel := eT_le ha z
        rw [show oI (eT a tx n t) = nI (eT a tx n t - 1) from by unfold oI; rw [if_neg z]]
        refine ⟨fun w => absurd w (nI_pos (by omega)), fun _ => ?_⟩
        refine v_farthestBehind hc c (eT_rc z) (by rw [hE t c]; unfold oI; rw [if_neg z]) ?_
        have hM := mxN_le (f := fun t => if eT a tx n t = 0 then 0 else fB a tx n t (eT a tx n t - 1)) (B := n + 3) t (fun m hm => by
          try dsimp only
          by_cases z : eT a tx n m = 0
          · rw [if_pos z]; omega
          · rw [if_neg z]; exact hb m z)
        have hbt := hb t z
        rw [if_neg z] at h2
        rw [smaxI (by omega) (by omega), nI_1]
        exact h2
  exact ⟨_, key (4 ^ a 0) 0 (by omega)⟩
/-- which members can go on behind the whole text -/
def goS (a tx : Nat → Nat) (n S : Nat) : Prop := S < 64 ∧ ∀ m, S.testBit m = true ↔ (m < a 0 ∧ ∃ t, Rc a tx n t n ∧ mayB a t m = true)
theorem goS.uniq {a tx : Nat → Nat} {n S T : Nat} (h1 : goS a tx n S) (h2 : goS a tx n T) : S = T := by
  apply Nat.eq_of_testBit_eq
  intro i
  rw [Bool.eq_iff_iff, h1.2 i, h2.2 i]
theorem v_goingOn {σ : Sg} {a tx : Nat → Nat} {n : Nat} (hc : ctxN σ a tx n) (hE : ∀ s, s < 4 ^ a 0 → σ.1 91 s = oI (eT a tx n s)) {post : Int32 → Sg → Prop} (h1 : ∀ S, (∃ t, Rc a tx n t n) → goS a tx n S → post (nI S) σ) (h0 : (¬ ∃ t, Rc a tx n t n) → post (-9) σ) : wpX5_membersGoingOn σ post := by
  have ha := hc.1
  have h6 := ha.1
  have h4 := pow4_le h6
  have hp6 := pow_le6 h6
  have hn := hc.2.1.1
  have key : ∀ r t S (b : Bool), t + r = 4 ^ a 0 → S < 64 → (b = true ↔ ∃ s, s < t ∧ Rc a tx n s n) → (∀ m, S.testBit m = true ↔ (m < a 0 ∧ ∃ s, s < t ∧ Rc a tx n s n ∧ mayB a s m = true)) → BX5_membersGoingOn_8 post (r + 1) (bI b) (nI S) (nI t) σ := by
    intro r
    induction r with
    | zero =>
      intro t S b ht hS hb hbit
      rw [BX5_membersGoingOn_8]
      refine v_tallies ha hc.2.2.1.1 (pk_le (4 ^ a 0) t (fun _ => ?_) (fun c => by omega))
      refine bI_0 b (fun e => h0 ?_) (fun e => h1 S ?_ ⟨hS, fun m => ?_⟩)
      · rintro ⟨s, hs⟩
        have := hb.mpr ⟨s, by have := hs.lt ha; omega, hs⟩
        rw [e] at this; cases this
      · obtain ⟨s, _, hs⟩ := hb.mp e
        exact ⟨s, hs⟩
      · rw [hbit m]
        constructor
        · rintro ⟨g1, s, _, g2, g3⟩; exact ⟨g1, s, g2, g3⟩
        · rintro ⟨g1, s, g2, g3⟩; exact ⟨g1, s, by have := g2.lt ha; omega, g2, g3⟩
    | succ r ih =>
      intro t S b ht hS hb hbit
      rw [BX5_membersGoingOn_8]
      refine v_tallies ha hc.2.2.1.1 (pk_le (4 ^ a 0) t (fun c => by omega) (fun c => v_rEndOf (by omega) ?_))
      rw [hE t c, hc.2.2.2.1.1]
      have hne : eT a tx n t ≠ n + 1 → BX5_membersGoingOn_8 post (r + 1) (bI b) (nI S) (nI t + 1) σ := by
        intro q
        rw [nI_1]
        have hno : ¬ Rc a tx n t n := fun hr => q (eT_of ha hr)
        refine ih (t + 1) S b (by omega) hS ?_ ?_
        · rw [hb]
          constructor
          · rintro ⟨s, g1, g2⟩; exact ⟨s, by omega, g2⟩
          · rintro ⟨s, g1, g2⟩
            rcases Nat.lt_or_ge s t with y | y
            · exact ⟨s, y, g2⟩
            · rw [show s = t by omega] at g2; exact absurd g2 hno
        · intro m
          rw [hbit m]
          constructor
          · rintro ⟨g0, s, g1, g2⟩; exact ⟨g0, s, by omega, g2⟩
          · rintro ⟨g0, s, g1, g2⟩
            rcases Nat.lt_or_ge s t with y | y
            · exact ⟨g0, s, y, g2⟩
            · rw [show s = t by omega] at g2; exact absurd g2.1 hno
      by_cases z : eT a tx n t = 0
      · rw [z, show oI 0 = (-9 : Int32) from rfl]
        exact ⟨fun _ => hne (by omega), fun w => absurd w (fun w => (nI_m9 (by omega)).mp w)⟩
      · have hel := eT_le ha z
        rw [show oI (eT a tx n t) = nI (eT a tx n t - 1) from by unfold oI; rw [if_neg z]]
        by_cases q : eT a tx n t = n + 1
        · refine ⟨fun w => absurd (by rw [q]; rfl) w, fun _ => v_followers k51 ha (by omega) hc.2.2.1 ?_⟩
          have hr : Rc a tx n t n := by
            have := eT_rc z
            rw [q, Nat.add_sub_cancel] at this
            exact this
          rw [c_or, nI_1]
          have hf := sN_lt (mayB a t) (a 0)
          refine ih (t + 1) _ true (by omega) (Nat.or_lt_two_pow (n := 6) hS (by omega)) ⟨fun _ => ⟨t, by omega, hr⟩, fun _ => rfl⟩ (fun m => ?_)
          rw [Nat.testBit_or, Bool.or_eq_true, hbit m, sN_bit, Bool.and_eq_true, decide_eq_true_eq]
          constructor
          · rintro (⟨g0, s, g1, g2⟩ | ⟨g0, g1⟩)
            · exact ⟨g0, s, by omega, g2⟩
            · exact ⟨g0, t, by omega, hr, g1⟩
          · rintro ⟨g0, s, g1, g2, g3⟩
            rcases Nat.lt_or_ge s t with y | y
            · exact Or.inl ⟨g0, s, y, g2, g3⟩
            · rw [show s = t by omega] at g3; exact Or.inr ⟨g0, g3⟩
        · refine ⟨fun _ => hne q, fun w => ?_⟩
          have := (nI_eq (by omega) (by omega)).mp w
          omega
  exact ⟨_, key (4 ^ a 0) 0 0 false (by omega) (by decide) ⟨fun w => Bool.noConfusion w, fun ⟨s, g, _⟩ => absurd g (Nat.not_lt_zero s)⟩ (fun m => ⟨fun w => (by rw [Nat.zero_testBit] at w; exact Bool.noConfusion w), fun ⟨_, s, g, _⟩ => absurd g (Nat.not_lt_zero s)⟩)⟩
theorem rdN_le (a tx : Nat → Nat) (n : Nat) : rdN a tx n ≤ 18 := by
  have := mt_le (fun i => decide (fm a tx n (tq a tx n i) ≠ 0)) 18 0
  unfold rdN; omega
/-- a row of the first reading, or NONE -/
theorem v_memberAt {σ : Sg} {a tx : Nat → Nat} {n : Nat} (hT : tabC σ a tx n) {k : Nat} (hk : k < 2 ^ 31) {post : Int32 → Sg → Prop} (h1 : k < rdN a tx n → post (nI (fm a tx n (tq a tx n k) - 1)) σ) (h0 : rdN a tx n ≤ k → post (-9) σ) : wpX5_memberAt (nI k) σ post := by
  have hr := rdN_le a tx n
  unfold wpX5_memberAt
  rw [hT.2.2.2.1]
  refine ⟨fun c => absurd c (nI_pos hk), fun _ => pk_le (rdN a tx n) k (fun c => h0 c) (fun c => pk_le 18 k (fun c2 => by omega) (fun c2 => ⟨pk_in k 18 c2, ?_⟩))⟩
  rw [nI_clamp hk, (hT.2.2.2.2 k c).1]
  exact h1 c
theorem v_startAt {σ : Sg} {a tx : Nat → Nat} {n : Nat} (hT : tabC σ a tx n) {k : Nat} (hk : k < 2 ^ 31) {post : Int32 → Sg → Prop} (h1 : k < rdN a tx n → post (σ.1 95 k) σ) (h0 : rdN a tx n ≤ k → post (-9) σ) : wpX5_startAt (nI k) σ post := by
  have hr := rdN_le a tx n
  unfold wpX5_startAt
  rw [hT.2.2.2.1]
  refine ⟨fun c => absurd c (nI_pos hk), fun _ => pk_le (rdN a tx n) k (fun c => h0 c) (fun c => pk_le 18 k (fun c2 => by omega) (fun c2 => ⟨pk_in k 18 c2, ?_⟩))⟩
  rw [nI_clamp hk]
  exact h1 c
theorem v_numberAt {σ : Sg} {a tx : Nat → Nat} {n : Nat} (hT : tabC σ a tx n) {k : Nat} (hk : k < 2 ^ 31) {post : Int32 → Sg → Prop} (h1 : k < rdN a tx n → post (σ.1 96 k) σ) (h0 : rdN a tx n ≤ k → post (-9) σ) : wpX5_numberAt (nI k) σ post := by
  have hr := rdN_le a tx n
  unfold wpX5_numberAt
  rw [hT.2.2.2.1]
  refine ⟨fun c => absurd c (nI_pos hk), fun _ => pk_le (rdN a tx n) k (fun c => h0 c) (fun c => pk_le 18 k (fun c2 => by omega) (fun c2 => ⟨pk_in k 18 c2, ?_⟩))⟩
  rw [nI_clamp hk]
  exact h1 c
