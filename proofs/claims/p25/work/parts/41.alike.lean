/-! what can follow; two readers alike -/
theorem goS_sh : ∀ S, S < 64 → nI S >>> ((6 : Int32) &&& 31) = 0 := by decide +kernel
section
variable {a tx : Nat → Nat} {n hn : Nat} {pa : Nat → Nat → Nat} {ke : Nat → Bool} {im : Nat → Nat → Nat}
/-- a reading is a beginning that is the whole text -/
theorem w_rc (ha : wfA a) (hw : 0 < wT a tx n 0) : ∃ t, Rc a tx n t n := by
  have h1 := (tq_end ha hw).1
  have h2 := eT_rc (show eT a tx n (tq a tx n (rdN a tx n)) ≠ 0 by omega)
  rw [h1, Nat.add_sub_cancel] at h2
  exact ⟨_, h2⟩
theorem far_eq (ha : wfA a) {M : Nat} (h : farI a tx n M) (hr : ∃ t, Rc a tx n t n) : M = n := by
  obtain ⟨t, hr⟩ := hr
  have h1 := h.1 t n hr
  have h2 := far_le ha h
  have h3 : n ≤ fB a tx n t n := by
    unfold fB
    by_cases c : stP a tx n t n = 0
    · rw [if_pos c]; exact Nat.le_refl _
    · rw [if_neg c]; split <;> omega
  omega
theorem o_21 {σ : Sg} (h : Cx σ a tx n hn pa ke im) {post : Int32 → Sg → Prop} (hp : ∀ σ1, Cx σ1 a tx n hn pa ke im → post 1 σ1) {x1 : Int32} (hx : x1 = -9 → wT a tx n 0 = 0) : BL_isFollowed_21 post x1 σ := by
  unfold BL_isFollowed_21
  refine ⟨fun _ => hp σ h, fun w => a_readings h (fun σ1 h1 => ?_)⟩
  rw [hx w]
  exact ⟨fun w => absurd rfl w, fun _ => hp σ1 h1⟩
theorem o_isFollowed {σ : Sg} (h : Cx σ a tx n hn pa ke im) {post : Int32 → Sg → Prop} (hp : ∀ σ1, Cx σ1 a tx n hn pa ke im → post 1 σ1) : wpL_isFollowed σ post := by
  have ha := h.1.1
  have hn60 := h.1.2.1.1
  have hcl := capN_le (wT a tx n 0)
  unfold wpL_isFollowed
  refine a_next h (fun hg σ1 h1 => ?_)
  by_cases hex : ∃ t, Rc a tx n t n
  · have hgo := hg.resolve_left (fun w => w hex)
    have hlt := hgo.1
    have ev : nextV a tx n = nI (goV a tx n) := if_pos hex
    rw [ev]
    have hne : ¬ nI (goV a tx n) = (-9 : Int32) := fun w => (nI_m9 (by omega)).mp w.symm
    refine ⟨fun w => absurd w hne, fun _ => a_told h1 4 (fun σ2 h2 => ?_)⟩
    rw [told_4]
    refine pk_le n 50 (fun _ => a_told h2 4 (fun σ3 h3 => a_readings h3 (fun σ4 h4 => ?_))) (fun _ => o_21 h2 hp (fun w => absurd w hne))
    rw [told_4]
    by_cases hw : 0 < wT a tx n 0
    · have hc0 : 0 < capN (wT a tx n 0) := Nat.pos_of_ne_zero (fun w => by have := capN_0.mp w; omega)
      exact ⟨fun _ => hp σ4 h4, fun w => absurd (nI_lt (a := 0) hc0 (by omega)) w⟩
    · have hw0 : wT a tx n 0 = 0 := by omega
      have e0 : nI (capN (wT a tx n 0)) = 0 := by rw [hw0]; rfl
      rw [e0]
      refine ⟨fun w => absurd w (by decide), fun _ => a_fault h4 (fun hf σ5 h5 => ?_)⟩
      have ef : faultV a tx n = nI (farV a tx n) := if_neg hw
      rw [ef, far_eq ha (hf.resolve_left hw) hex]
      refine ⟨fun w => absurd rfl w, fun _ => ⟨fun w => absurd (goS_sh _ hlt) w, fun _ => hp σ5 h5⟩⟩
  · have ev : nextV a tx n = -9 := if_neg hex
    rw [ev]
    refine ⟨fun _ => o_21 h1 hp (fun _ => ?_), fun w => absurd rfl w⟩
    refine Classical.byContradiction (fun c => hex (w_rc ha (Nat.pos_of_ne_zero c)))
end
theorem b1_nar : narrow .boolean (.int (1 : Int32)) = .int 1 := rfl
section
variable {a tx : Nat → Nat} {n hn : Nat} {pa : Nat → Nat → Nat} {ke : Nat → Bool} {im : Nat → Nat → Nat}
theorem k_104 {K : Int32 → Int32 → Sg2 → Prop} {post : Int32 → Sg2 → Prop} {m : Nat} (hm : m < a 0) (hK : ∀ σ τ, Cx σ a tx n hn pa ke im → Cx τ a tx n hn pa ke im → K 1 (nI (m + 1)) (σ, τ)) : ∀ r w σ τ, w + r = 10 → Cx σ a tx n hn pa ke im → Cx τ a tx n hn pa ke im → BL_areAlike_104 K post (r + 1) 1 (nI m) (nI w) (σ, τ) := by
  intro r
  induction r with
  | zero =>
    intro w σ τ hw h g
    rw [BL_areAlike_104]
    have e : nI m + (1 : Int32) = nI (m + 1) := nI_1 m
    rw [e]
    exact pk_le 10 w (fun _ => hK σ τ h g) (fun c => by omega)
  | succ r ih =>
    intro w σ τ hw h g
    rw [BL_areAlike_104]
    have e : nI w + (1 : Int32) = nI (w + 1) := nI_1 w
    rw [e]
    refine pk_le 10 w (fun c => by omega) (fun _ => ⟨fun c => absurd c (by decide), fun _ => a_member h hm (by omega) (fun σ1 h1 => a_member g hm (by omega) (fun τ1 g1 => ⟨fun c => absurd rfl c, fun _ => ih (w + 1) σ1 τ1 (by omega) h1 g1⟩))⟩)
theorem k_92 {post : Int32 → Sg2 → Prop} (hp : ∀ σ τ, Cx σ a tx n hn pa ke im → Cx τ a tx n hn pa ke im → post 1 (σ, τ)) : ∀ r m σ τ, m + r = a 0 → Cx σ a tx n hn pa ke im → Cx τ a tx n hn pa ke im → BL_areAlike_92 post (r + 1) 1 (nI m) (σ, τ) := by
  intro r
  induction r with
  | zero =>
    intro m σ τ hm h g
    have h6 := h.1.1.1
    rw [BL_areAlike_92]
    refine a_told h 0 (fun σ1 h1 => ?_)
    rw [told_0]
    exact pk_le (a 0) m (fun _ => ⟨b1_nar, hp σ1 τ h1 g⟩) (fun c => by omega)
  | succ r ih =>
    intro m σ τ hm h g
    have h6 := h.1.1.1
    rw [BL_areAlike_92]
    refine a_told h 0 (fun σ1 h1 => ?_)
    rw [told_0]
    exact pk_le (a 0) m (fun c => by omega) (fun _ => ⟨11, k_104 (by omega) (fun σ2 τ2 h2 g2 => ih (m + 1) σ2 τ2 (by omega) h2 g2) 10 0 σ1 τ rfl h1 g⟩)
theorem k_55 {post : Int32 → Sg2 → Prop} (hp : ∀ σ τ, Cx σ a tx n hn pa ke im → Cx τ a tx n hn pa ke im → post 1 (σ, τ)) : ∀ r w σ τ, w + r = 8 → Cx σ a tx n hn pa ke im → Cx τ a tx n hn pa ke im → BL_areAlike_55 post (r + 1) 1 (nI w) (σ, τ) := by
  intro r
  induction r with
  | zero =>
    intro w σ τ hw h g
    rw [BL_areAlike_55]
    exact pk_le 8 w (fun _ => ⟨a 0 + 1, k_92 hp (a 0) 0 σ τ (by omega) h g⟩) (fun c => by omega)
  | succ r ih =>
    intro w σ τ hw h g
    rw [BL_areAlike_55]
    have e : nI w + (1 : Int32) = nI (w + 1) := nI_1 w
    rw [e]
    refine pk_le 8 w (fun c => by omega) (fun _ => ⟨fun c => absurd c (by decide), fun _ => a_told h (nI w) (fun σ1 h1 => a_told g (nI w) (fun τ1 g1 => ⟨fun c => absurd rfl c, fun _ => ih (w + 1) σ1 τ1 (by omega) h1 g1⟩))⟩)
theorem o_areAlike {σ τ : Sg} (h : Cx σ a tx n hn pa ke im) (g : Cx τ a tx n hn pa ke im) {post : Int32 → Sg2 → Prop} (hp : ∀ σ τ, Cx σ a tx n hn pa ke im → Cx τ a tx n hn pa ke im → post 1 (σ, τ)) : wpL_areAlike (σ, τ) post := by
  unfold wpL_areAlike
  refine a_readings h (fun σ1 h1 => a_readings g (fun τ1 g1 => ⟨fun c => absurd rfl c, fun _ => ?_⟩))
  refine a_fault h1 (fun _ σ2 h2 => a_fault g1 (fun _ τ2 g2 => ⟨fun c => absurd rfl c, fun _ => ?_⟩))
  refine a_next h2 (fun _ σ3 h3 => a_next g2 (fun _ τ3 g3 => ⟨fun c => absurd rfl c, fun _ => ?_⟩))
  refine a_orders (L := 0) h3 (by decide) (fun σ4 h4 => a_orders (L := 0) g3 (by decide) (fun τ4 g4 => ⟨fun c => absurd ((lg_cmp_eq _ _).mpr rfl) c, fun _ => ?_⟩))
  exact ⟨9, k_55 hp 8 0 σ4 τ4 rfl h4 g4⟩
end
/-! the law -/
theorem o_areOrdersS {P : Pm} {σ : Sg} (h : Cs σ P) {post : Int32 → Sg → Prop} (hp : ∀ σ1, Cs σ1 P → post 1 σ1) : wpL_areOrders σ post := o_areOrders h hp
theorem o_isReadS {P : Pm} {σ : Sg} (h : Cs σ P) {post : Int32 → Sg → Prop} (hp : ∀ σ1, Cs σ1 P → post 1 σ1) : wpL_isRead σ post := o_isRead h hp
theorem o_isFollowedS {P : Pm} {σ : Sg} (h : Cs σ P) {post : Int32 → Sg → Prop} (hp : ∀ σ1, Cs σ1 P → post 1 σ1) : wpL_isFollowed σ post := o_isFollowed h hp
theorem law_pure {L : Nat} (hL : L ≤ 260) (xs : Nat → Int32) : ∃ nf, BL_law_18 L xs (fun r _ => r = 1) nf 0 (s_0, s_0) := by
  have key : ∀ r i P σ τ, i + r = 16 → Cs σ P → Cs τ P → BL_law_18 L xs (fun r _ => r = 1) (r + 1) (nI i) (σ, τ) := by
    intro r
    induction r with
    | zero =>
      intro i P σ τ hi h g
      rw [BL_law_18]
      exact pk_le 16 i (fun _ => o_areAlike (σ := σ) (τ := τ) h g (fun _ _ _ _ => ⟨b1_nar, rfl⟩)) (fun c => by omega)
    | succ r ih =>
      intro i P σ τ hi h g
      rw [BL_law_18]
      have e2 : (2 : Int32) * nI i = nI (2 * i) := pk_mul 2 i
      have e3 : nI (2 * i) + (1 : Int32) = nI (2 * i + 1) := nI_1 _
      have e4 : nI i + (1 : Int32) = nI (i + 1) := nI_1 i
      rw [e2, e3, e4]
      have hin : ∀ j, j < 100 → nI j < nI L → vp_in (nI j) L := fun j hj w => pk_in j L ((nI_ltI (by omega) (by omega)).mp w)
      obtain ⟨r1, P1, h1⟩ := d_change P (cellV L xs (nI (2 * i))) (cellV L xs (nI (2 * i + 1)))
      obtain ⟨r2, P2, h2⟩ := d_text P1 (cellV L xs (nI (2 * i + 1)) ^^^ (cellV L xs (nI (2 * i)) >>> ((3 : Int32) &&& 31))) (cellV L xs (nI (2 * i)))
      refine pk_le 16 i (fun c => by omega) (fun _ => ⟨hin (2 * i) (by omega), hin (2 * i + 1) (by omega), ?_⟩)
      refine h1 σ h _ (fun σ1 c1 => h1 τ g _ (fun τ1 b1 => ⟨fun w => absurd rfl w, fun _ => ?_⟩))
      refine o_areOrdersS c1 (fun σ2 c2 => ⟨fun _ => ?_, fun w => absurd w (by decide)⟩)
      refine h2 σ2 c2 _ (fun σ3 c3 => h2 τ1 b1 _ (fun τ2 b2 => ⟨fun w => absurd rfl w, fun _ => ?_⟩))
      refine o_isReadS c3 (fun σ4 c4 => ⟨fun w => absurd w (by decide), fun _ => ?_⟩)
      exact o_isFollowedS c4 (fun σ5 c5 => ⟨fun _ => ih (i + 1) P2 σ5 τ2 (by omega) c5 b2, fun w => absurd w (by decide)⟩)
  obtain ⟨P, hP⟩ := C_0
  exact ⟨17, key 16 0 P s_0 s_0 rfl hP hP⟩
