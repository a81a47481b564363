/-! the law's walk through a reading -/
theorem mb_lo {a : Nat → Nat} {m w : Nat} (hw : w < 4) : mbI a m w = nI (a (20 + 6 * w + m)) := if_pos hw
theorem mb_4 {a : Nat → Nat} {m : Nat} : mbI a m 4 = nI (wl a m) := by unfold mbI; rw [if_neg (by decide), if_pos rfl]
theorem mb_8 {a : Nat → Nat} {m : Nat} : mbI a m 8 = nI (a (44 + m)) := by unfold mbI; rw [if_neg (by decide), if_neg (by decide), if_neg (by decide), if_pos rfl]
section
variable {a tx : Nat → Nat} {n hn : Nat} {pa : Nat → Nat → Nat} {ke : Nat → Bool} {im : Nat → Nat → Nat}
theorem oc_1 (hw : 0 < wT a tx n 0) {k : Nat} (hk : k < rdN a tx n) : occV a tx n k 1 = nI (staK a tx n k) := by unfold occV; rw [if_pos hw, if_pos hk, if_neg (by decide), if_pos rfl]
theorem oc_0 (hw : 0 < wT a tx n 0) {k : Nat} (hk : k < rdN a tx n) : occV a tx n k 0 = nI (memK a tx n k) := by unfold occV; rw [if_pos hw, if_pos hk, if_pos rfl]
theorem oc_2 (hw : 0 < wT a tx n 0) {k : Nat} (hk : k < rdN a tx n) : occV a tx n k 2 = nI (vlK a tx n k) := by unfold occV; rw [if_pos hw, if_pos hk, if_neg (by decide), if_neg (by decide)]
theorem oc_no (hw : 0 < wT a tx n 0) {k w : Nat} (hk : rdN a tx n ≤ k) : occV a tx n k w = -9 := by unfold occV; rw [if_pos hw, if_neg (by omega)]
theorem r_276 {σ : Sg} (h : Cx σ a tx n hn pa ke im) {k : Nat} (hk : k < rdN a tx n) {K : Int64 → Int32 → Int32 → Int32 → Sg → Prop} {post : Int32 → Sg → Prop} {x2 : Int64} (hp : ∀ σ1, Cx σ1 a tx n hn pa ke im → K x2 (nI (peK a tx n (k + 1))) (nI (k + 1)) (nI (c16 (tq a tx n (k + 1)))) σ1) : BL_isRead_276 K post x2 (nI k) (nI (c16 (tq a tx n (k + 1)))) (nI (memK a tx n k)) (nI (staK a tx n k)) (nI (peK a tx n (k + 1))) σ := by
  have ha := h.1.1
  have hm := memK_lt hk
  have hlen := enP_len (n := n) ha hm (tq_step (tx := tx) (n := n) ha hk).2.2.1
  have hpe := pe_next (tx := tx) (n := n) ha hk
  have hle := pe_le (tx := tx) (n := n) ha (show k + 1 ≤ rdN a tx n from hk)
  have hn := h.1.2.1.1
  have ed : ∀ d, peK a tx n (k + 1) = staK a tx n k + wl a (memK a tx n k) + d → (nI (peK a tx n (k + 1)) - nI (staK a tx n k)) - nI (wl a (memK a tx n k)) = nI d := by
    intro d hd
    rw [show nI (peK a tx n (k + 1)) - nI (staK a tx n k) = nI (peK a tx n (k + 1) - staK a tx n k) from pk_sub (by omega), show nI (peK a tx n (k + 1) - staK a tx n k) - nI (wl a (memK a tx n k)) = nI (peK a tx n (k + 1) - staK a tx n k - wl a (memK a tx n k)) from pk_sub (by omega)]
    congr 1; omega
  unfold BL_isRead_276
  refine a_member (w := 4) h hm (by decide) (fun σ1 h1 => a_member (w := 0) h1 hm (by decide) (fun σ2 h2 => ?_))
  have hgo := hp σ2 h2
  have e1 : nI k + (1 : Int32) = nI (k + 1) := nI_1 k
  rw [mb_4, mb_lo (show 0 < 4 by decide), show 20 + 6 * 0 + memK a tx n k = 20 + memK a tx n k by omega, e1]
  rcases hlen with ⟨k0, e⟩ | ⟨k2, e⟩ | ⟨k1, d, d1, d3, e⟩
  · rw [k0, ed 0 (by omega)]
    exact ⟨fun w => absurd rfl w, fun _ => ⟨fun _ => hgo, fun w => absurd rfl w⟩⟩
  · rw [k2, ed 1 (by omega)]
    exact ⟨fun _ => ⟨fun w => absurd rfl w, fun _ => ⟨fun _ => hgo, fun w => absurd rfl w⟩⟩, fun w => absurd w (by decide)⟩
  · rw [k1, ed d (by omega)]
    exact ⟨fun _ => ⟨fun _ => pk_lt d 1 (fun w => by omega) (fun _ => pk_le d 3 (fun _ => hgo) (fun w => by omega)), fun w => absurd w (by decide)⟩, fun w => absurd w (by decide)⟩
theorem r_177 (hw : 0 < wT a tx n 0) {k : Nat} (hk : k < rdN a tx n) {K : Int64 → Int32 → Int32 → Int32 → Sg → Prop} {post : Int32 → Sg → Prop} {x2 : Int64} (hp : ∀ σ1, Cx σ1 a tx n hn pa ke im → K x2 (nI (peK a tx n (k + 1))) (nI (k + 1)) (nI (c16 (tq a tx n (k + 1)))) σ1) : ∀ r b σ, b + r = a 0 → Cx σ a tx n hn pa ke im → BL_isRead_177 K post (r + 1) x2 (nI k) (nI (c16 (tq a tx n k))) (nI (memK a tx n k)) (nI (staK a tx n k)) (nI b) σ := by
  have h18 := rdN_le a tx n
  intro r
  induction r with
  | zero =>
    intro b σ hb h
    have ha := h.1.1
    have h6 := ha.1
    have hm := memK_lt hk
    have hn := h.1.2.1.1
    have hle := pe_le (tx := tx) (n := n) ha (show k + 1 ≤ rdN a tx n from hk)
    rw [BL_isRead_177]
    refine a_told h 0 (fun σ1 h1 => ?_)
    rw [told_0]
    refine pk_le (a 0) b (fun _ => ?_) (fun w => by omega)
    have e1 : nI k + (1 : Int32) = nI (k + 1) := nI_1 k
    have hx : nI (c16 (tq a tx n k)) + ((1 : Int32) <<< (((4 : Int32) * nI (memK a tx n k)) &&& 31)) = nI (c16 (tq a tx n (k + 1))) := c16_add (by omega) (tq_cin ha hk)
    rw [e1, hx]
    refine a_occurrence (w := 1) h1 (by omega) (by decide) (fun σ2 h2 => ?_)
    by_cases c : k + 1 < rdN a tx n
    · have es := sta_eq (tx := tx) (n := n) ha c
      rw [oc_1 hw c]
      have hsl : staK a tx n (k + 1) ≤ n + 1 := by
        rw [es]; split <;> omega
      refine ⟨fun _ => a_told h2 1 (fun σ3 h3 => ?_), fun w => absurd (nI_pos' (n := staK a tx n (k + 1)) (by omega)) w⟩
      rw [told_1]
      have hl1 := a_lt ha 1
      refine pk_le (a 1) 0 (fun c1 => ?_) (fun c1 => ?_)
      · rw [if_neg (by omega), Nat.add_zero] at es
        rw [show nI (staK a tx n (k + 1)) - (0 : Int32) = nI (peK a tx n (k + 1)) from by rw [es]; exact pk_sub (b := 0) (Nat.zero_le _)]
        exact r_276 h3 hk hp
      · rw [if_pos ⟨by omega, c1⟩] at es
        rw [show nI (staK a tx n (k + 1)) - (1 : Int32) = nI (peK a tx n (k + 1)) from by rw [es]; exact nI_pred _]
        exact r_276 h3 hk hp
    · rw [oc_no hw (by omega)]
      refine ⟨fun w => absurd w (by decide), fun _ => a_told h2 4 (fun σ3 h3 => ?_)⟩
      rw [told_4]
      have e : peK a tx n (k + 1) = n := by rw [show k + 1 = rdN a tx n by omega]; exact pe_end ha hw
      have hg := r_276 (post := post) h3 hk hp
      rw [e] at hg
      exact hg
  | succ r ih =>
    intro b σ hb h
    have ha := h.1.1
    have h6 := ha.1
    have hm := memK_lt hk
    rw [BL_isRead_177]
    refine a_told h 0 (fun σ1 h1 => ?_)
    rw [told_0]
    refine pk_le (a 0) b (fun w => by omega) (fun _ => a_member (w := 8) h1 hm (by decide) (fun σ2 h2 => ?_))
    have hl := a_lt ha (44 + memK a tx n k)
    have e2 : nI b + (1 : Int32) = nI (b + 1) := nI_1 b
    rw [mb_8, c_bit (by omega) (by omega), e2]
    by_cases c : (a (44 + memK a tx n k)).testBit b = true
    · rw [if_pos c, c16_get _ (by omega), may_rule (tq_step (tx := tx) (n := n) ha hk).1 (by omega) c]
      exact ⟨fun w => absurd rfl w, fun _ => ⟨fun _ => ih (b + 1) σ2 (by omega) h2, fun w => absurd (by decide) w⟩⟩
    · rw [if_neg c]
      exact ⟨fun _ => ih (b + 1) σ2 (by omega) h2, fun w => absurd w (by decide)⟩
theorem r_119 (hw : 0 < wT a tx n 0) {k : Nat} (hk : k < rdN a tx n) {K : Int64 → Int32 → Int32 → Int32 → Sg → Prop} {post : Int32 → Sg → Prop} (hp : ∀ σ1, Cx σ1 a tx n hn pa ke im → K (lN (rkN a tx n (rdN a tx n))) (nI (peK a tx n (k + 1))) (nI (k + 1)) (nI (c16 (tq a tx n (k + 1)))) σ1) {y0 y1 : Int32} (hy : y0 + y1 = nI (staK a tx n k)) {σ : Sg} (h : Cx σ a tx n hn pa ke im) : BL_isRead_119 K post (lN (rkN a tx n (rdN a tx n))) (nI k) (nI (c16 (tq a tx n k))) (nI (memK a tx n k)) y0 y1 σ := by
  have ha := h.1.1
  have h6 := ha.1
  have h18 := rdN_le a tx n
  have hm := memK_lt hk
  have hrk := rk_lt ha hw
  have hol := oc_le ha 0 0
  have hcl := cin_lt (tq a tx n k) (memK a tx n k)
  unfold BL_isRead_119
  refine a_occurrence (w := 1) h (by omega) (by decide) (fun σ1 h1 => ?_)
  rw [oc_1 hw hk, hy]
  refine ⟨fun w => absurd rfl w, fun _ => a_order h1 (by omega) (by omega) (fun σ2 h2 => ?_)⟩
  rw [ord_rank ha hw (Nat.le_of_lt hk), if_pos hk, c16_get _ (by omega)]
  refine ⟨fun w => absurd rfl w, fun _ => a_value h2 hw hm (by omega) (fun σ3 h3 => a_occurrence (w := 2) h3 (by omega) (by decide) (fun σ4 h4 => ?_))⟩
  have hv := vF_at (tx := tx) (n := n) ha hk (rdN a tx n) 0 (by omega) (Nat.zero_le k)
  rw [show cin (tq a tx n 0) (memK a tx n k) = 0 from cin_0 _] at hv
  rw [hv, oc_2 hw hk]
  exact ⟨fun _ => ⟨a 0 + 1, r_177 hw hk hp (a 0) 0 σ4 (by omega) h4⟩, fun w => absurd rfl w⟩
theorem fault_w (hw : 0 < wT a tx n 0) : faultV a tx n = -9 := if_pos hw
theorem r_356 (hw : 0 < wT a tx n 0) {post : Int32 → Sg → Prop} (hp : ∀ σ1, Cx σ1 a tx n hn pa ke im → post 1 σ1) : ∀ r m σ, m + r = a 0 → Cx σ a tx n hn pa ke im → BL_isRead_356 post (r + 1) (lN (rkN a tx n (rdN a tx n))) (nI n) (nI (rdN a tx n)) (nI (c16 (tq a tx n (rdN a tx n)))) (nI m) σ := by
  have h18 := rdN_le a tx n
  intro r
  induction r with
  | zero =>
    intro m σ hm h
    have ha := h.1.1
    have h6 := ha.1
    have hn := h.1.2.1.1
    have hrk := rk_lt ha hw
    have hol := oc_le ha 0 0
    rw [BL_isRead_356]
    refine a_told h 0 (fun σ1 h1 => ?_)
    rw [told_0]
    refine pk_le (a 0) m (fun _ => a_fault h1 (fun _ σ2 h2 => ?_)) (fun w => by omega)
    rw [fault_w hw]
    refine ⟨fun w => absurd rfl w, fun _ => a_told h2 4 (fun σ3 h3 => ?_)⟩
    rw [told_4]
    refine ⟨fun w => absurd rfl w, fun _ => ⟨fun w => ?_, fun _ => a_orders (L := 0) h3 (by decide) (fun σ4 h4 => ⟨fun w => ?_, fun _ => a_order h4 (by omega) (by omega) (fun σ5 h5 => ?_)⟩)⟩⟩
    · rw [lg_cmp_lt] at w
      exact absurd ((pk_lLT (b := 0) (by omega) (by decide)).mp w) (Nat.not_lt_zero _)
    · rw [lg_cmp_ge] at w
      have := (pk_lLE (by omega) (by omega)).mp w
      omega
    · rw [ord_rank ha hw (Nat.le_refl _), if_neg (Nat.lt_irrefl _)]
      refine ⟨fun w => absurd rfl w, fun _ => ?_⟩
      have h0 := rd_0 ha hw
      have hfin : ∀ y : Int32, y = (if n = 0 then 1 else 0) → BL_isRead_495 post y σ5 := by
        intro y hy
        unfold BL_isRead_495
        refine a_told h5 4 (fun σ6 h6 => ?_)
        rw [told_4, hy]
        by_cases c : n = 0
        · rw [if_pos c, c]
          exact ⟨fun w => absurd rfl w, fun _ => ⟨fun w => absurd rfl w, fun _ => hp σ6 h6⟩⟩
        · rw [if_neg c]
          exact ⟨fun _ => ⟨fun w => absurd rfl w, fun _ => hp σ6 h6⟩, fun w => absurd ((nI_eq (b := 0) (by omega) (by decide)).mp w) c⟩
      refine ⟨fun w => hfin 0 (by rw [if_neg (fun z => w (by rw [h0.mpr z]; rfl))]), fun w => hfin 1 ?_⟩
      have := (nI_eq (b := 0) (by omega) (by decide)).mp w
      rw [if_pos (h0.mp this)]
  | succ r ih =>
    intro m σ hm h
    have ha := h.1.1
    have h6 := ha.1
    have hma : m < a 0 := by omega
    have hcl := cin_lt (tq a tx n (rdN a tx n)) m
    have hl1 := a_lt ha (26 + m)
    have hl2 := a_lt ha (32 + m)
    have hmost := cin_most (tx := tx) (n := n) ha hma _ (Nat.le_refl _)
    have hen := (tq_end ha hw).2
    unfold enB at hen
    rw [List.all_eq_true] at hen
    have hleast := of_decide_eq_true (hen m (List.mem_range.mpr hma))
    have hv := vF_end (tx := tx) (n := n) ha m (rdN a tx n) 0 (by omega)
    rw [show cin (tq a tx n 0) m = 0 from cin_0 _] at hv
    rw [BL_isRead_356]
    refine a_told h 0 (fun σ1 h1 => ?_)
    have e2 : nI m + (1 : Int32) = nI (m + 1) := nI_1 m
    rw [told_0, c16_get _ (by omega), e2]
    refine pk_le (a 0) m (fun w => by omega) (fun _ => a_member (w := 1) h1 hma (by decide) (fun σ2 h2 => ?_))
    rw [mb_lo (show 1 < 4 by decide), show 20 + 6 * 1 + m = 26 + m by omega]
    refine pk_lt (cin (tq a tx n (rdN a tx n)) m) (a (26 + m)) (fun w => by omega) (fun _ => a_member (w := 2) h2 hma (by decide) (fun σ3 h3 => ?_))
    rw [mb_lo (show 2 < 4 by decide), show 20 + 6 * 2 + m = 32 + m by omega]
    refine pk_lt (a (32 + m)) (cin (tq a tx n (rdN a tx n)) m) (fun w => by omega) (fun _ => a_value h3 hw hma (by omega) (fun σ4 h4 => ?_))
    rw [hv]
    by_cases c : cin (tq a tx n (rdN a tx n)) m = 0
    · rw [if_pos c, c]
      refine ⟨fun w => absurd rfl w, fun _ => a_member (w := 3) h4 hma (by decide) (fun σ5 h5 => ?_)⟩
      rw [mb_lo (show 3 < 4 by decide), show 20 + 6 * 3 + m = 38 + m by omega]
      exact ⟨fun _ => ih (m + 1) σ5 (by omega) h5, fun w => absurd rfl w⟩
    · rw [if_neg c]
      exact ⟨fun _ => ⟨fun _ => ih (m + 1) σ4 (by omega) h4, fun w => absurd rfl w⟩, fun w => absurd ((nI_eq (b := 0) (by omega) (by decide)).mp w) c⟩
theorem r_80 (hw : 0 < wT a tx n 0) {post : Int32 → Sg → Prop} (hp : ∀ σ1, Cx σ1 a tx n hn pa ke im → post 1 σ1) : ∀ r k σ, k + r = rdN a tx n → Cx σ a tx n hn pa ke im → BL_isRead_80 post (r + 1) (lN (rkN a tx n (rdN a tx n))) (nI (peK a tx n k)) (nI k) (nI (c16 (tq a tx n k))) σ := by
  have h18 := rdN_le a tx n
  intro r
  induction r with
  | zero =>
    intro k σ hk h
    have ha := h.1.1
    rw [BL_isRead_80]
    refine a_occurrence (w := 0) h (by omega) (by decide) (fun σ1 h1 => ?_)
    rw [oc_no hw (by omega), show k = rdN a tx n by omega, pe_end ha hw]
    exact ⟨fun _ => ⟨a 0 + 1, r_356 hw hp (a 0) 0 σ1 (by omega) h1⟩, fun w => absurd (by decide) w⟩
  | succ r ih =>
    intro k σ hk h
    have hkr : k < rdN a tx n := by omega
    have ha := h.1.1
    have h6 := ha.1
    have hm := memK_lt hkr
    have es := sta_eq (tx := tx) (n := n) ha hkr
    have hnx : ∀ σ1, Cx σ1 a tx n hn pa ke im → BL_isRead_80 post (r + 1) (lN (rkN a tx n (rdN a tx n))) (nI (peK a tx n (k + 1))) (nI (k + 1)) (nI (c16 (tq a tx n (k + 1)))) σ1 := fun σ1 h1 => ih (k + 1) σ1 (by omega) h1
    rw [BL_isRead_80]
    refine a_occurrence (w := 0) h (by omega) (by decide) (fun σ1 h1 => ?_)
    rw [oc_0 hw hkr]
    refine ⟨fun w => absurd w (nI_pos (by omega)), fun _ => a_occurrence (w := 0) h1 (by omega) (by decide) (fun σ2 h2 => ?_)⟩
    rw [oc_0 hw hkr]
    have hl1 := a_lt ha 1
    refine pk_le k 0 (fun c => ?_) (fun c => a_told h2 1 (fun σ3 h3 => ?_))
    · refine r_119 hw hkr hnx ?_ h2
      rw [if_neg (by omega)] at es
      rw [es]; exact nI_add _ 0
    · rw [told_1]
      refine pk_le (a 1) 0 (fun c1 => ?_) (fun c1 => ?_)
      · refine r_119 hw hkr hnx ?_ h3
        rw [if_neg (by omega)] at es
        rw [es]; exact nI_add _ 0
      · refine r_119 hw hkr hnx ?_ h3
        rw [if_pos ⟨c, c1⟩] at es
        rw [es]; exact nI_add _ 1
/-- what goes well of a text lies in the text -/
theorem far_le (ha : wfA a) {M : Nat} (h : farI a tx n M) : M ≤ n := by
  rcases h.2 with z | ⟨t, p, hr, e⟩
  · omega
  · have hp : p ≤ n := (hr.J ha).2.2.2.2.2.2.2.1
    rw [← e]
    unfold fB
    by_cases c : stP a tx n t p = 0
    · rw [if_pos c]; exact hp
    · rw [if_neg c]
      have hs := (stP_ge c).2 hp
      have hm : mxN (fun m => if mayB a t m = true then stP a tx n t p - 1 + mch a tx n m (stP a tx n t p - 1) else 0) (a 0) ≤ n := by
        refine mxN_le (a 0) (fun m _ => ?_)
        by_cases c2 : mayB a t m = true
        · rw [if_pos c2]
          have := mch_in a tx n m (stP a tx n t p - 1)
          omega
        · rw [if_neg c2]; exact Nat.zero_le _
      split
      · exact hm
      · exact hp
theorem o_isRead {σ : Sg} (h : Cx σ a tx n hn pa ke im) {post : Int32 → Sg → Prop} (hp : ∀ σ1, Cx σ1 a tx n hn pa ke im → post 1 σ1) : wpL_isRead σ post := by
  have ha := h.1.1
  have hn60 := h.1.2.1.1
  have hcl := capN_le (wT a tx n 0)
  unfold wpL_isRead
  refine a_readings h (fun σ1 h1 => ?_)
  by_cases hw : 0 < wT a tx n 0
  · have hc0 : ¬ nI (capN (wT a tx n 0)) = 0 := fun w => by
      have := capN_0.mp ((nI_eq (b := 0) (by omega) (by decide)).mp w)
      omega
    refine ⟨fun _ => a_rank h1 (fun σ2 h2 => ⟨rdN a tx n + 1, ?_⟩), fun w => absurd w hc0⟩
    have e : rankV a tx n = lN (rkN a tx n (rdN a tx n)) := if_pos hw
    rw [e]
    have hg := r_80 hw hp (rdN a tx n) 0 σ2 (by omega) h2
    rw [pe_0 ha, show tq a tx n 0 = 0 from rfl, c16_0] at hg
    exact hg
  · have hw0 : wT a tx n 0 = 0 := by omega
    have e0 : nI (capN (wT a tx n 0)) = 0 := by rw [hw0]; rfl
    have ef : faultV a tx n = nI (farV a tx n) := if_neg hw
    refine ⟨fun w => absurd e0 w, fun _ => a_fault h1 (fun hf σ2 h2 => ?_)⟩
    have hfar : farI a tx n (farV a tx n) := hf.resolve_left hw
    have hM := far_le ha hfar
    rw [ef]
    refine ⟨fun w => absurd w (nI_pos (by omega)), fun _ => a_fault h2 (fun _ σ3 h3 => a_told h3 4 (fun σ4 h4 => ?_))⟩
    rw [ef, told_4]
    refine pk_lt n (farV a tx n) (fun w => by omega) (fun _ => a_occurrence (k := 0) (w := 0) h4 (by decide) (by decide) (fun σ5 h5 => ?_))
    have eo : occV a tx n 0 0 = -2 := if_neg hw
    rw [eo]
    refine ⟨fun w => absurd rfl w, fun _ => a_rank h5 (fun σ6 h6 => ?_)⟩
    have er : rankV a tx n = -2 := if_neg hw
    rw [er]
    refine ⟨fun w => absurd ((lg_cmp_eq _ _).mpr rfl) w, fun _ => a_normal0 h6 hw0 (fun σ7 h7 => ⟨fun w => absurd rfl w, fun _ => hp σ7 h7⟩)⟩
end
