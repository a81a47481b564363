/-! orders of all lengths add up -/
theorem smN_add (f g : Nat → Nat) : ∀ c, smN (fun k => f k + g k) c = smN f c + smN g c
  | 0 => rfl
  | c + 1 => by
    show smN (fun k => f k + g k) c + (f c + g c) = (smN f c + f c) + (smN g c + g c)
    rw [smN_add f g c]; omega
theorem smN_swap (F : Nat → Nat → Nat) (M : Nat) : ∀ T, smN (fun t => smN (fun m => F t m) M) T = smN (fun m => smN (fun t => F t m) T) M
  | 0 => (smN_0 M).symm
  | T + 1 => by
    show smN (fun t => smN (fun m => F t m) M) T + smN (fun m => F T m) M = smN (fun m => smN (fun t => F t m) T + F T m) M
    rw [smN_swap F M T, smN_add]
theorem smN_one {x y : Nat} : ∀ T, smN (fun t => if t = x then y else 0) T = if x < T then y else 0
  | 0 => by rw [if_neg (Nat.not_lt_zero _)]; rfl
  | T + 1 => by
    show smN (fun t => if t = x then y else 0) T + (if T = x then y else 0) = _
    rw [smN_one T]
    by_cases h : T = x
    · rw [if_neg (by omega), if_pos h, if_pos (by omega), Nat.zero_add]
    · by_cases h2 : x < T
      · rw [if_pos h2, if_neg h, if_pos (by omega)]; rfl
      · rw [if_neg h2, if_neg h, if_neg (by omega)]
theorem oc_sum {a : Nat → Nat} (ha : wfA a) : ∀ f t, 4096 - t ≤ f → t < 4 ^ a 0 → smN (fun L => oc a (L + 1) t) 19 = oc a 0 t := by
  have h4 := pow4_le ha.1
  intro f
  induction f with
  | zero => intro t h1 ht; omega
  | succ f ih =>
    intro t h1 ht
    have hocc := occ_le ha t
    rw [smN_congr 19 (fun L _ => oc_eq (L := L + 1) ha ht), smN_add, oc_eq (L := 0) ha ht]
    congr 1
    · by_cases e : enB a t = true
      · rw [if_pos ⟨Or.inl rfl, e⟩, smN_congr (g := fun L => if L = occ a t then 1 else 0) 19 (fun L _ => ?_), smN_one, if_pos (by omega)]
        by_cases q : L = occ a t
        · rw [if_pos q, if_pos ⟨Or.inr (by omega), e⟩]
        · rw [if_neg q, if_neg (fun w => by have := w.1; omega)]
      · rw [if_neg (fun w => e w.2)]
        exact smN_zero 19 (fun L _ => if_neg (fun w => e w.2))
    · unfold cb
      rw [smN_swap]
      refine smN_congr (a 0) (fun m hm => ?_)
      by_cases hz : mayB a t m = true
      · rw [if_pos hz, smN_congr (g := fun L => oc a (L + 1) (t + 4 ^ m)) 19 (fun L _ => if_pos hz)]
        have hl := tal_lt ht hm (may_lt ha hm hz)
        have hp : 0 < 4 ^ m := Nat.pow_pos (by decide)
        exact ih _ (by omega) hl
      · rw [if_neg hz]
        exact smN_zero 19 (fun L _ => if_neg hz)
theorem smN_up2 (f : Nat → Nat) {c d : Nat} (h : c ≤ d) : smN f c ≤ smN f d := smN_up f h
theorem srch_le (f : Nat → Bool) (r : Nat) : srch f r 0 ≤ r := by
  rcases srch_spec f r 0 with ⟨h, _⟩ | ⟨_, h, _, _⟩
  · rw [h]; exact Nat.zero_le _
  · omega
theorem oM_le (a : Nat → Nat) : ∀ f t left k, oM a f t left k ≤ a 0
  | 0, _, _, _ => Nat.zero_le _
  | f + 1, t, left, k => by
    unfold oM
    generalize (if enB a t = true then 1 else 0) = own
    have hs := srch_le (fun m => decide (left - own < cb a 0 t (m + 1))) (a 0)
    generalize srch (fun m => decide (left - own < cb a 0 t (m + 1))) (a 0) 0 = S at hs ⊢
    by_cases c1 : enB a t = true ∧ left = 0
    · rw [if_pos c1]; exact Nat.zero_le _
    · rw [if_neg c1]
      by_cases c2 : S = 0
      · rw [if_pos c2]; exact Nat.zero_le _
      · rw [if_neg c2]
        by_cases c3 : k = 0
        · rw [if_pos c3]; exact hs
        · rw [if_neg c3]; exact oM_le a f _ _ _
theorem oI_ge {x : Nat} (h : x ≤ 6) : ¬ oI x < (-9 : Int32) := (by decide +kernel : ∀ x, x < 7 → ¬ oI x < (-9 : Int32)) x (by omega)
theorem ordI_ge {a : Nat → Nat} (ha : wfA a) (N k : Nat) : ¬ ordI a N k < (-9 : Int32) := by
  unfold ordI
  split
  · decide
  · exact oI_ge (Nat.le_trans (oM_le a 18 0 N k) ha.1)
section
variable {σ : Sg} {a tx : Nat → Nat} {n hn : Nat} {pa : Nat → Nat → Nat} {ke : Nat → Bool} {im : Nat → Nat → Nat}
theorem o_72 (h : Cx σ a tx n hn pa ke im) {post : Int32 → Sg → Prop} (hp : ∀ σ1, Cx σ1 a tx n hn pa ke im → post 1 σ1) : BL_areOrders_72 post σ := by
  unfold BL_areOrders_72
  exact a_orders19 h (fun σ1 h1 => ⟨fun w => absurd ((lg_cmp_eq _ _).mpr rfl) w, fun _ => hp σ1 h1⟩)
theorem o_areOrders (h : Cx σ a tx n hn pa ke im) {post : Int32 → Sg → Prop} (hp : ∀ σ1, Cx σ1 a tx n hn pa ke im → post 1 σ1) : wpL_areOrders σ post := by
  have ha := h.1.1
  have hol := oc_le ha 0 0
  have hsum := oc_sum ha 4096 0 (by omega) (p4_pos _)
  have key : ∀ r k σ, k + r = 19 → Cx σ a tx n hn pa ke im → BL_areOrders_4 post (r + 1) (lN (smN (fun L => oc a (L + 1) 0) k)) (nI k) σ := by
    intro r
    induction r with
    | zero =>
      intro k σ hk h
      have hk19 : k = 19 := by omega
      subst hk19
      rw [BL_areOrders_4, hsum]
      refine ⟨fun _ => ?_, fun w => absurd (by decide) w⟩
      refine a_orders (L := 0) h (by decide) (fun σ1 h1 => ⟨fun w => absurd ((lg_cmp_eq _ _).mpr rfl) w, fun _ => ?_⟩)
      refine a_order (N := oc a 0 0) (k := 0) h1 (by omega) (by decide) (fun σ2 h2 => ?_)
      have e : ordI a (oc a 0 0) 0 = -9 := if_pos (Nat.le_refl _)
      rw [e]
      refine ⟨fun w => absurd rfl w, fun _ => ?_⟩
      unfold BL_areOrders_50
      refine ⟨fun w => absurd w (by decide), fun _ => ⟨fun _ => o_72 h2 hp, fun _ => ?_⟩⟩
      exact a_order (N := 0) (k := 0) h2 (by decide) (by decide) (fun σ3 h3 => ⟨fun w => absurd w (ordI_ge ha 0 0), fun _ => o_72 h3 hp⟩)
    | succ r ih =>
      intro k σ hk h
      rw [BL_areOrders_4]
      refine pk_le 19 k (fun w => by omega) (fun _ => ?_)
      have e : nI k = kl (k + 1) := by unfold kl; rw [if_neg (by omega), Nat.add_sub_cancel]
      have e2 : nI k + (1 : Int32) = nI (k + 1) := nI_1 k
      rw [e2, e]
      refine a_orders (L := k + 1) h (by omega) (fun σ1 h1 => ?_)
      rw [lN_add]
      exact ih (k + 1) σ1 (by omega) h1
  unfold wpL_areOrders
  exact ⟨_, key 19 0 σ rfl h⟩
end
