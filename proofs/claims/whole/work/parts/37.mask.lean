/-! the reference's answers about orders -/
theorem mSt.ord {σ σ' : Sg} {a tx : Nat → Nat} {n : Nat} (h : mSt σ a tx n) (hf : frR 129 130 σ σ') : mSt σ' a tx n := h.fr hf (by decide)
theorem in0_t : vp_in ((0 : Int32)) 4096 := pk_in 0 4096 (by decide)
theorem m_orders {σ : Sg} {a tx : Nat → Nat} {n : Nat} (hs : mSt σ a tx n) (x : Int32) {post : Int64 → Sg → Prop} (hb : (x < -1 ∨ 18 < x) → post (-1) σ) (h1 : ∀ L, L ≤ 19 → x = kl L → ∀ σ', frM σ σ' → mSt σ' a tx n → post (lN (oc a L 0)) σ') : wpX7_orders x σ post := by
  have ha := hs.1.1
  have h4 := pow4_le ha.1
  unfold wpX7_orders wpX7_isIn
  have hgo : ∀ L, L ≤ 19 → x = kl L → wpX7_layOrders σ (fun σ12 => (((¬ x = (-1 : Int32)) → ∃ nf, BX7_orders_35 x post nf ((0 : Int64)) ((0 : Int32)) σ12) ∧ ((x = (-1 : Int32)) → (vp_in ((0 : Int32)) 4096 ∧ post ((σ12.2.1 129 ((0 : Int32)).toNatClampNeg)) σ12)))) := by
    intro L hL hx
    refine m_layOrders ha hs.1.2.2.1 (fun σ1 f1 e1 t1 => ?_)
    have hs1 := hs.ord f1
    have fm1 : frM σ σ1 := frM.of f1 (by decide) (by decide)
    refine ⟨fun w => ?_, fun w => ⟨in0_t, ?_⟩⟩
    · have hL0 : L ≠ 0 := fun z => w (by rw [hx, z]; rfl)
      have hx2 : x = nI (L - 1) := by rw [hx]; exact if_neg hL0
      have key : ∀ r t, t + r = 4096 → BX7_orders_35 x post (r + 1) (lN (smN (fun t => if smN (cin t) 6 = L - 1 ∧ enB a t = true then bhS a 4096 t else 0) t)) (nI t) σ1 := by
        intro r
        induction r with
        | zero =>
          intro t ht
          rw [BX7_orders_35]
          refine pk_le 4096 t (fun _ => ?_) (fun c => by omega)
          rw [show t = 4096 by omega, bh_sum ha, show L - 1 + 1 = L by omega]
          exact h1 L hL hx σ1 fm1 hs1
        | succ r ih =>
          intro t ht
          rw [BX7_orders_35]
          refine pk_le 4096 t (fun c => by omega) (fun c => ⟨pk_in t 4096 c, ?_⟩)
          have hbl := bhS_le ha 4096 t
          have h2 := ih (t + 1) (by omega)
          rw [show smN (fun t => if smN (cin t) 6 = L - 1 ∧ enB a t = true then bhS a 4096 t else 0) (t + 1) = smN (fun t => if smN (cin t) 6 = L - 1 ∧ enB a t = true then bhS a 4096 t else 0) t + (if smN (cin t) 6 = L - 1 ∧ enB a t = true then bhS a 4096 t else 0) from rfl] at h2
          generalize smN (fun t => if smN (cin t) 6 = L - 1 ∧ enB a t = true then bhS a 4096 t else 0) t = S at *
          rw [nI_clamp (by omega), t1.2 t c, lg_cmp_le, show (0 : Int64) = lN 0 from rfl, pk_lLE (by omega) (by decide), lN_add, Nat.add_zero, nI_1]
          have hzero : (if smN (cin t) 6 = L - 1 ∧ enB a t = true then bhS a 4096 t else 0) = 0 → BX7_orders_35 x post (r + 1) (lN S) (nI (t + 1)) σ1 := by
            intro z
            rw [z, Nat.add_zero] at h2
            exact h2
          have h18 : smN (cin t) 6 ≤ 18 := smN_le (f := cin t) (B := 3) 6 (fun m _ => by have := cin_lt t m; omega)
          refine ⟨fun z => hzero ?_, fun z => m_sizeOf (by omega) ⟨fun w => hzero ?_, fun w => m_isWhole ha hs1.1.2.2.1 (by omega) (bI_0 _ (fun e => hzero ?_) (fun e => ⟨pk_in t 4096 c, ?_⟩))⟩⟩
          · rw [show bhS a 4096 t = 0 by omega]; split <;> rfl
          · rw [if_neg (fun y => w (by rw [y.1, hx2]))]
          · rw [if_neg (fun y => by rw [e] at y; cases y.2)]
          · rw [hx2] at w
            have w2 := (nI_eq (by omega) (by omega)).mp w
            rw [if_pos ⟨w2, e⟩] at h2
            rw [t1.2 t c, lN_add]; exact h2
      exact ⟨_, key 4096 0 rfl⟩
    · have hL0 : L = 0 := kl_inj (M := 0) (by omega) (by decide) (by rw [← hx, w]; rfl)
      rw [z0, t1.1 0 (by decide) (isB_0 a)]
      have := h1 L hL hx σ1 fm1 hs1
      rw [hL0] at this
      exact this
  refine ⟨fun c => ⟨fun w => absurd rfl w, fun _ => hb (Or.inl c)⟩, fun c => ⟨fun c2 => ⟨fun w => absurd rfl w, fun _ => hb (Or.inr c2)⟩, fun c2 => ⟨fun _ => ?_, fun w => absurd w (by decide)⟩⟩⟩
  by_cases c0 : x < 0
  · have hx : x = -1 := by
      rw [Int32.lt_iff_toInt_lt] at c c0
      apply Int32.toInt_inj.mp
      have e1 : (-1 : Int32).toInt = -1 := by decide
      have e0 : (0 : Int32).toInt = 0 := by decide
      omega
    exact hgo 0 (by decide) hx
  · obtain ⟨j, hj, hx⟩ := nI_of c0
    have hj18 : j ≤ 18 := by
      rcases Nat.lt_or_ge 18 j with q | q
      · exact absurd (show (18 : Int32) < x from by rw [hx]; exact nI_lt (a := 18) (b := j) q hj) c2
      · exact q
    exact hgo (j + 1) (by omega) (by rw [hx]; unfold kl; rw [if_neg (by omega), Nat.add_sub_cancel])
theorem cb_full {a : Nat → Nat} (ha : wfA a) {t : Nat} (h : 18 ≤ occ a t) : cb a 0 t (a 0) = 0 := by
  refine smN_zero (a 0) (fun m hm => ?_)
  by_cases y : mayB a t m = true
  · have := occ_add hm (may_lt ha hm y)
    have := occ_le ha (t + 4 ^ m)
    omega
  · rw [if_neg y]
theorem cb_mono {a : Nat → Nat} {L t b c : Nat} (h : b ≤ c) : cb a L t b ≤ cb a L t c := smN_up _ h
theorem m_order {σ : Sg} {a tx : Nat → Nat} {n : Nat} (hs : mSt σ a tx n) (y : Int64) (x : Int32) {post : Int32 → Sg → Prop} (hb : (y < 0 ∨ x < 0) → post (-1) σ) (h0 : ∀ N k, N < 2 ^ 63 → k < 2 ^ 31 → y = lN N → x = nI k → oc a 0 0 ≤ N → ∀ σ', frM σ σ' → mSt σ' a tx n → post (-9) σ') (h1 : ∀ N k, N < 2 ^ 63 → k < 2 ^ 31 → y = lN N → x = nI k → N < oc a 0 0 → ∀ σ', frM σ σ' → mSt σ' a tx n → post (oI (oM a 18 0 N k)) σ') : wpX7_order y x σ post := by
  have ha := hs.1.1
  have h6 := ha.1
  have h4 := pow4_le h6
  unfold wpX7_order
  rw [lg_cmp_lt]
  refine ⟨fun c => hb (Or.inl c), fun c => ⟨fun cx => ?_, fun cx => hb (Or.inr (by rw [Int32.not_le] at cx; exact cx))⟩⟩
  obtain ⟨N, hN, rfl⟩ := pk_lOf c
  obtain ⟨k, hk, rfl⟩ := nI_of (show ¬ x < 0 by rw [Int32.not_lt]; exact cx)
  refine m_layOrders ha hs.1.2.2.1 (fun σ1 f1 e1 t1 => ⟨in0_t, ?_⟩)
  have hs1 := hs.ord f1
  have fm1 : frM σ σ1 := frM.of f1 (by decide) (by decide)
  have hol := oc_le ha 0 0
  rw [z0, t1.1 0 (by decide) (isB_0 a), lg_cmp_lt, pk_lLT hN (by omega)]
  refine ⟨fun hlt => ?_, fun c => h0 N k hN hk rfl rfl (by omega) σ1 fm1 hs1⟩
  have l73 : ∀ (K : Int64 → Int32 → Int32 → Sg → Prop) i t left, i ≤ k → t < 4096 → isB a t = true → left < 2 ^ 63 → left < cb a 0 t (a 0) → ∀ M, M = srch (fun m => decide (left < cb a 0 t (m + 1))) (a 0) 0 → (i = k → post (nI (M - 1)) σ1) → (i < k → mayB a t (M - 1) = true → M - 1 < a 0 → cb a 0 t (M - 1) ≤ left → left - cb a 0 t (M - 1) < oc a 0 (t + 4 ^ (M - 1)) → K (lN (left - cb a 0 t (M - 1))) (nI (t + 4 ^ (M - 1))) (nI (i + 1)) σ1) → ∀ r m, m + r = a 0 → cb a 0 t m ≤ left → BX7_order_73 (lN N) (nI k) K post r (lN (left - cb a 0 t m)) (nI t) (nI i) (nI m) σ1 := by
    intro K i t left hik ht hb hl hlc M hM hend hgo r
    have htl := isB_lt ha ht hb
    induction r with
    | zero =>
      intro m hm hcm
      rw [show m = a 0 by omega] at hcm
      omega
    | succ r ih =>
      intro m hm hcm
      rw [BX7_order_73]
      have hma : m < a 0 := by omega
      have h102 : left - cb a 0 t m < 2 ^ 63 → cb a 0 t (m + 1) ≤ left → BX7_order_102 (lN N) (nI k) (BX7_order_73 (lN N) (nI k) K post r) post (lN (left - cb a 0 t m)) (nI t) (nI i) (nI m) σ1 := by
        intro _ hle
        unfold BX7_order_102
        have h2 := ih (m + 1) (by omega) hle
        refine m_may ha hs1.1.2.2.1 (by omega) hma (bI_0 _ (fun e => ?_) (fun e => m_with (by omega) ?_))
        · rw [cb_1, if_neg (by rw [e]; decide), Nat.add_zero] at h2
          rw [nI_1, show lN (left - cb a 0 t m) - (0 : Int64) = lN (left - cb a 0 t m) from lN_sub (b := 0) (Nat.zero_le _)]
          exact h2
        · have hnl := tal_lt htl hma (may_lt ha hma e)
          refine ⟨pk_in (t + 4 ^ m) 4096 (by omega), ?_⟩
          rw [cb_1, if_pos e] at h2 hle
          rw [nI_clamp (by omega), t1.1 _ (by omega) (isB_add ha hb hma e), lN_sub (by omega), nI_1, show left - cb a 0 t m - oc a 0 (t + 4 ^ m) = left - (cb a 0 t m + oc a 0 (t + 4 ^ m)) by omega]
          exact h2
      refine m_may ha hs1.1.2.2.1 (by omega) hma (bI_0 _ (fun e => h102 (by omega) ?_) (fun e => m_with (by omega) ?_))
      · rw [cb_1, if_neg (by rw [e]; decide)]; exact hcm
      · have hnl := tal_lt htl hma (may_lt ha hma e)
        have holl := oc_le ha 0 (t + 4 ^ m)
        refine ⟨pk_in (t + 4 ^ m) 4096 (by omega), ?_⟩
        rw [nI_clamp (by omega), t1.1 _ (by omega) (isB_add ha hb hma e), lg_cmp_lt, pk_lLT (by omega) (by omega)]
        refine ⟨fun q => ?_, fun q => h102 (by omega) (by rw [cb_1, if_pos e]; omega)⟩
        have hMm : M = m + 1 := by
          rcases srch_spec (fun m => decide (left < cb a 0 t (m + 1))) (a 0) 0 with z | z
          · have := z.2 m (Nat.zero_le _) (by omega)
            rw [decide_eq_false_iff_not, cb_1, if_pos e] at this
            omega
          · rw [← hM] at z
            obtain ⟨z1, z2, z3, z4⟩ := z
            rw [decide_eq_true_eq] at z3
            rcases Nat.lt_trichotomy M (m + 1) with w | w | w
            · have := cb_mono (a := a) (L := 0) (t := t) (show M - 1 + 1 ≤ m by omega)
              omega
            · exact w
            · have := z4 m (Nat.zero_le _) (by omega)
              rw [decide_eq_false_iff_not, cb_1, if_pos e] at this
              omega
        rw [hMm, Nat.add_sub_cancel] at hend hgo
        refine ⟨fun w => m_with (by omega) ?_, fun w => hend ((nI_eq (by omega) hk).mp w)⟩
        rw [nI_1]
        exact hgo (by rcases Nat.lt_or_ge i k with z | z; exact z; exact absurd (by rw [show i = k by omega]) w) e hma hcm (by omega)
  have l39 : ∀ r i t left, i + r = 18 → i ≤ k → occ a t = i → t < 4096 → isB a t = true → left < oc a 0 t → post (oI (oM a r t left (k - i))) σ1 → BX7_order_39 (lN N) (nI k) post (r + 1) (lN left) (nI t) (nI i) σ1 := by
    intro r
    induction r with
    | zero =>
      intro i t left hi hik ho ht hb hl hp
      have htl := isB_lt ha ht hb
      rw [oc_eq ha htl, cb_full ha (by omega)] at hl
      rw [BX7_order_39]
      refine pk_lt k i (fun c => by omega) (fun _ => m_isWhole ha hs1.1.2.2.1 (by omega) (bI_0 _ (fun e => ?_) (fun e => ?_)))
      · rw [if_neg (fun w => by rw [e] at w; cases w.2)] at hl; omega
      · rw [if_pos ⟨Or.inl rfl, e⟩] at hl
        rw [show left = 0 by omega]
        exact ⟨fun w => absurd (by decide) w, fun _ => hp⟩
    | succ r ih =>
      intro i t left hi hik ho ht hb hl hp
      have htl := isB_lt ha ht hb
      have holl := oc_le ha 0 t
      rw [BX7_order_39]
      refine pk_lt k i (fun c => by omega) (fun _ => m_isWhole ha hs1.1.2.2.1 (by omega) ?_)
      unfold oM at hp
      have hoc := oc_eq (L := 0) ha htl
      have hgo : ∀ own : Nat, own = (if enB a t = true then 1 else 0) → own ≤ left → left - own < cb a 0 t (a 0) → ∃ nf, BX7_order_73 (lN N) (nI k) (BX7_order_39 (lN N) (nI k) post (r + 1)) post nf (lN (left - own)) (nI t) (nI i) ((0 : Int32)) σ1 := by
        intro own ho' hol hlc
        rw [← ho'] at hp
        rw [if_neg (fun w => by rw [if_pos w.1] at ho'; omega)] at hp
        have hsz : srch (fun m => decide (left - own < cb a 0 t (m + 1))) (a 0) 0 ≠ 0 := by
          intro z
          rcases srch_spec (fun m => decide (left - own < cb a 0 t (m + 1))) (a 0) 0 with q | q
          · rcases Nat.eq_zero_or_pos (a 0) with y | y
            · rw [y] at hlc; exact absurd hlc (Nat.not_lt_zero _)
            · have := q.2 (a 0 - 1) (Nat.zero_le _) (by omega)
              rw [decide_eq_false_iff_not, show a 0 - 1 + 1 = a 0 by omega] at this
              exact this hlc
          · omega
        rw [if_neg hsz] at hp
        refine ⟨a 0, l73 _ i t (left - own) hik ht hb (by omega) hlc _ rfl (fun e => ?_) (fun e g1 g2 g3 g4 => ?_) (a 0) 0 (by omega) (Nat.zero_le _)⟩
        · rw [if_pos (by omega)] at hp
          rw [show oI (srch (fun m => decide (left - own < cb a 0 t (m + 1))) (a 0) 0) = nI (srch (fun m => decide (left - own < cb a 0 t (m + 1))) (a 0) 0 - 1) from by unfold oI; rw [if_neg hsz]] at hp
          exact hp
        · rw [if_neg (by omega)] at hp
          have hcl := may_lt ha g2 g1
          refine ih (i + 1) _ _ (by omega) (by omega) (by rw [occ_add g2 hcl, ho]) ?_ (isB_add ha hb g2 g1) g4 ?_
          · have := tal_lt htl g2 hcl; omega
          · rw [show k - (i + 1) = k - i - 1 by omega]; exact hp
      refine bI_0 _ (fun e => ?_) (fun e => ?_)
      · rw [if_neg (fun w => by rw [e] at w; cases w.2), Nat.zero_add] at hoc
        have := hgo 0 (by rw [if_neg (by rw [e]; decide)]) (Nat.zero_le _) (by omega)
        exact this
      · rw [if_pos ⟨Or.inl rfl, e⟩] at hoc
        rw [lg_cmp_eq, show (0 : Int64) = lN 0 from rfl, pk_lEQ (by omega) (by decide)]
        refine ⟨fun z => ?_, fun z => ?_⟩
        · rw [show lN left - (1 : Int64) = lN (left - 1) from lN_sub (b := 1) (by omega)]
          exact hgo 1 (by rw [if_pos e]) (by omega) (by omega)
        · rw [if_pos ⟨e, z⟩] at hp; exact hp
  exact ⟨_, l39 18 0 0 N rfl (Nat.zero_le _) (occ_0 a) (by decide) (isB_0 a) hlt (h1 N k hN hk rfl rfl hlt σ1 fm1 hs1)⟩
theorem tq_isB {a tx : Nat → Nat} {n : Nat} (ha : wfA a) : ∀ k, (∀ i, i < k → fm a tx n (tq a tx n i) ≠ 0) → isB a (tq a tx n k) = true
  | 0, _ => isB_0 a
  | k + 1, h => by
    have hz := h k (Nat.lt_succ_self k)
    obtain ⟨h1, h2, h3⟩ := fm_spec hz
    obtain ⟨g1, g2, g3⟩ := sT_nx h2
    exact isB_add ha (tq_isB ha k (fun i hi => h i (by omega))) h1 (nx_may rfl g3).1
theorem m_rank {σ : Sg} {a tx : Nat → Nat} {n : Nat} (hs : mSt σ a tx n) {post : Int64 → Sg → Prop} (h1 : 0 < wT a tx n 0 → ∀ σ', frM σ σ' → mSt σ' a tx n → post (lN (rkN a tx n (rdN a tx n))) σ') (h0 : wT a tx n 0 = 0 → ∀ σ', frM σ σ' → mSt σ' a tx n → post (-2) σ') : wpX7_rank σ post := by
  have ha := hs.1.1
  have h6 := ha.1
  have h4 := pow4_le h6
  have hr := rdN_le a tx n
  unfold wpX7_rank
  refine m_layReading hs (fun hw σ1 f1 s1 hrow => ⟨fun _ => ?_, fun w => absurd w.symm (fun w => (nI_m9 (by omega)).mp w)⟩) (fun hw σ1 f1 s1 => ⟨fun w => absurd rfl w, fun _ => h0 hw σ1 f1 s1⟩)
  refine m_layOrders ha s1.1.2.2.1 (fun σ2 f2 e2 t2 => ?_)
  have hs2 := s1.ord f2
  have fm2 : frM σ σ2 := f1.tr (frM.of f2 (by decide) (by decide))
  have hrow2 : ∀ k, k < rdN a tx n → σ2.1 125 k = nI (memK a tx n k) := fun k hk => by rw [e2]; exact (hrow k hk).1
  have l53 : ∀ (K : Int32 → Int64 → Int32 → Int32 → Sg → Prop) k acc, k < rdN a tx n → K (nI (rdN a tx n)) (lN (acc + cb a 0 (tq a tx n k) (memK a tx n k))) (nI (tq a tx n (k + 1))) (nI (k + 1)) σ2 → ∀ r m, m + r = memK a tx n k → BX7_rank_53 K post (r + 1) (nI (rdN a tx n)) (lN (acc + cb a 0 (tq a tx n k) m)) (nI (tq a tx n k)) (nI k) (nI m) σ2 := by
    intro K k acc hk hK r
    have hmk := memK_lt hk
    have hall : ∀ i, i < k → fm a tx n (tq a tx n i) ≠ 0 := fun i hi => rdN_fm (by omega)
    obtain ⟨q1, q2⟩ := tq_rc ha k hall
    have hb := tq_isB ha k hall
    induction r with
    | zero =>
      intro m hm
      rw [BX7_rank_53]
      refine ⟨pk_in k 20 (by omega), ?_⟩
      rw [nI_clamp (by omega), hrow2 k hk]
      refine pk_le (memK a tx n k) m (fun _ => ⟨pk_in k 20 (by omega), m_with (by omega) ?_⟩) (fun c => by omega)
      rw [show m = memK a tx n k by omega, nI_1]
      exact hK
    | succ r ih =>
      intro m hm
      rw [BX7_rank_53]
      refine ⟨pk_in k 20 (by omega), ?_⟩
      rw [nI_clamp (by omega), hrow2 k hk]
      have h2 := ih (m + 1) (by omega)
      rw [cb_1] at h2
      refine pk_le (memK a tx n k) m (fun c => by omega) (fun c => m_may ha hs2.1.2.2.1 (by omega) (by omega) (bI_0 _ (fun e => ?_) (fun e => m_with (by omega) ?_)))
      · rw [if_neg (by rw [e]; decide), Nat.add_zero] at h2
        rw [show lN (acc + cb a 0 (tq a tx n k) m) + (0 : Int64) = lN (acc + cb a 0 (tq a tx n k) m) from lN_add _ 0, nI_1]
        exact h2
      · rw [if_pos e] at h2
        have hnl := tal_lt q2 (show m < a 0 by omega) (may_lt ha (by omega) e)
        refine ⟨pk_in (tq a tx n k + 4 ^ m) 4096 (by omega), ?_⟩
        rw [nI_clamp (by omega), t2.1 _ (by omega) (isB_add ha hb (by omega) e), lN_add, nI_1, Nat.add_assoc]
        exact h2
  have l27 : ∀ r k, k + r = rdN a tx n → BX7_rank_27 post (r + 1) (nI (rdN a tx n)) (lN (rkN a tx n k)) (nI (tq a tx n k)) (nI k) σ2 := by
    intro r
    induction r with
    | zero =>
      intro k hk
      rw [BX7_rank_27]
      refine pk_le (rdN a tx n) k (fun _ => ?_) (fun c => by omega)
      rw [show k = rdN a tx n by omega]
      exact h1 hw σ2 fm2 hs2
    | succ r ih =>
      intro k hk
      have hall : ∀ i, i < k → fm a tx n (tq a tx n i) ≠ 0 := fun i hi => rdN_fm (by omega)
      obtain ⟨q1, q2⟩ := tq_rc ha k hall
      rw [BX7_rank_27]
      refine pk_le (rdN a tx n) k (fun c => by omega) (fun c => m_isWhole ha hs2.1.2.2.1 (by omega) ?_)
      have hgo : ∀ own : Nat, own = (if enB a (tq a tx n k) = true then 1 else 0) → ∃ nf, BX7_rank_53 (BX7_rank_27 post (r + 1)) post nf (nI (rdN a tx n)) (lN (rkN a tx n k + own)) (nI (tq a tx n k)) (nI k) ((0 : Int32)) σ2 := by
        intro own ho
        have h3 := ih (k + 1) (by omega)
        rw [show rkN a tx n (k + 1) = rkN a tx n k + own + cb a 0 (tq a tx n k) (memK a tx n k) from by rw [ho, Nat.add_assoc]; rfl] at h3
        exact ⟨_, l53 (BX7_rank_27 post (r + 1)) k (rkN a tx n k + own) c h3 (memK a tx n k) 0 (by omega)⟩
      refine bI_0 _ (fun e => ?_) (fun e => ?_)
      · rw [show lN (rkN a tx n k) + (0 : Int64) = lN (rkN a tx n k + 0) from lN_add _ 0]
        exact hgo 0 (by rw [if_neg (by rw [e]; decide)])
      · rw [show lN (rkN a tx n k) + (1 : Int64) = lN (rkN a tx n k + 1) from lN_1 _]
        exact hgo 1 (by rw [if_pos e])
  exact ⟨_, l27 (rdN a tx n) 0 (by omega)⟩
