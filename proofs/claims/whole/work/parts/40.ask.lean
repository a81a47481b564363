/-! the questions: both answer alike -/
theorem op_fault {σ : Sg} (h : R σ) {post : Int32 → Sg → Prop} (hp : ∀ r σ1, (∀ post2 : Int32 → Sg → Prop, (∀ σ2, R σ2 → post2 r σ2) → wpX7_fault σ1 post2) → post r σ1) : wpX6_fault σ post := by
  obtain ⟨a, tx, n, hn, pa, ke, im, h⟩ := h
  unfold wpX6_fault
  refine q_learn h (fun σ1 f1 h1 t1 => v_exists h1.1.1 t1 (bI_0 _ (fun e => v_farthest h1.1.1 t1.1 (fun M hM hl => hp _ _ (fun post2 h2 => m_fault h1.mst (fun hw => ?_) (fun _ M' hM' hl' σ2 f2 s2 => ?_)))) (fun e => hp _ _ (fun post2 h2 => m_fault h1.mst (fun hw σ2 f2 s2 => h2 σ2 (h1.mod f2 s2).r) (fun hw => ?_)))))
  · rw [decide_eq_false_iff_not] at e; omega
  · rw [hM'.uniq hM]; exact h2 σ2 (h1.mod f2 s2).r
  · rw [decide_eq_true_eq] at e; omega
theorem op_readings {σ : Sg} (h : R σ) {post : Int32 → Sg → Prop} (hp : ∀ r σ1, (∀ post2 : Int32 → Sg → Prop, (∀ σ2, R σ2 → post2 r σ2) → wpX7_readings σ1 post2) → post r σ1) : wpX6_readings σ post := by
  obtain ⟨a, tx, n, hn, pa, ke, im, h⟩ := h
  unfold wpX6_readings
  refine q_learn h (fun σ1 f1 h1 t1 => v_waysFrom (t := 0) (by decide) ?_)
  have hp4 : 0 < 4 ^ a 0 := p4_pos _
  have hwl := wT_le (tx := tx) (n := n) h.1.1.1 0
  rw [t1.2.2.1 0 hp4]
  have e : (if (1000000 : Int64) < lN (wT a tx n 0) then (1000000 : Int64) else lN (wT a tx n 0)).toInt32 = nI (capN (wT a tx n 0)) := by
    rw [show (1000000 : Int64) = lN 1000000 from rfl]
    unfold capN
    by_cases c : 1000000 < wT a tx n 0
    · rw [if_pos c, if_pos ((pk_lLT (by decide) (by omega)).mpr c)]; rfl
    · rw [if_neg c, if_neg (fun w => c ((pk_lLT (by decide) (by omega)).mp w))]; exact lN_i _
  rw [e]
  exact hp _ _ (fun post2 h2 => m_readings h1.mst (fun σ2 f2 s2 => h2 σ2 (h1.mod f2 s2).r))
theorem op_next {σ : Sg} (h : R σ) {post : Int32 → Sg → Prop} (hp : ∀ r σ1, (∀ post2 : Int32 → Sg → Prop, (∀ σ2, R σ2 → post2 r σ2) → wpX7_next σ1 post2) → post r σ1) : wpX6_next σ post := by
  obtain ⟨a, tx, n, hn, pa, ke, im, h⟩ := h
  unfold wpX6_next
  refine q_learn h (fun σ1 f1 h1 t1 => v_goingOn h1.1.1 t1.1 (fun S hex hS => hp _ _ (fun post2 h2 => m_next h1.mst (fun S' _ hS' σ2 f2 s2 => ?_) (fun hno => absurd hex hno))) (fun hno => hp _ _ (fun post2 h2 => m_next h1.mst (fun S' hex _ => absurd hex hno) (fun _ σ2 f2 s2 => h2 σ2 (h1.mod f2 s2).r))))
  rw [hS'.uniq hS]; exact h2 σ2 (h1.mod f2 s2).r
theorem op_orders {σ : Sg} (h : R σ) (x : Int32) {post : Int64 → Sg → Prop} (hp : ∀ r σ1, (∀ post2 : Int64 → Sg → Prop, (∀ σ2, R σ2 → post2 r σ2) → wpX7_orders x σ1 post2) → post r σ1) : wpX6_orders x σ post := by
  obtain ⟨a, tx, n, hn, pa, ke, im, h⟩ := h
  unfold wpX6_orders
  have hkl : ∀ L, L ≤ 19 → ¬ (kl L < -1 ∨ 18 < kl L) := by
    intro L hL w
    have := (show ∀ L, L < 20 → ¬ (kl L < -1 ∨ 18 < kl L) by decide +kernel) L (by omega)
    exact this w
  have hbad : (x < -1 ∨ 18 < x) → post (-1) σ := fun c => hp _ _ (fun post2 h2 => m_orders h.mst x (fun _ => h2 σ h.r) (fun L hL e => by
    subst e; exact absurd c (hkl L hL)))
  refine ⟨fun c => hbad (Or.inl c), fun c => ⟨fun c2 => ?_, fun c2 => hbad (Or.inr (by rw [Int32.not_le] at c2; exact c2))⟩⟩
  have hL : ∃ L, L ≤ 19 ∧ x = kl L := by
    by_cases c0 : x < 0
    · refine ⟨0, by decide, ?_⟩
      rw [Int32.lt_iff_toInt_lt] at c c0
      apply Int32.toInt_inj.mp
      have e1 : (-1 : Int32).toInt = -1 := by decide
      have e0 : (0 : Int32).toInt = 0 := by decide
      show x.toInt = (-1 : Int32).toInt
      omega
    · obtain ⟨j, hj, e⟩ := nI_of2 (M := 18) (n := 18) (by decide) c0 c2
      exact ⟨j + 1, by omega, by rw [e]; unfold kl; rw [if_neg (by omega), Nat.add_sub_cancel]⟩
  obtain ⟨L, hL, rfl⟩ := hL
  refine q_oLearn h hL (fun σ1 f1 h1 t1 => v_oCountFrom (t := 0) (by decide) ?_)
  rw [t1 0 (p4_pos _)]
  refine hp _ _ (fun post2 h2 => m_orders h1.mst (kl L) (fun w => absurd w (hkl L hL)) (fun M hM e σ2 f2 s2 => ?_))
  rw [← kl_inj (by omega) (by omega) e]; exact h2 σ2 (h1.mod f2 s2).r
theorem op_order {σ : Sg} (h : R σ) (y : Int64) (x : Int32) {post : Int32 → Sg → Prop} (hp : ∀ r σ1, (∀ post2 : Int32 → Sg → Prop, (∀ σ2, R σ2 → post2 r σ2) → wpX7_order y x σ1 post2) → post r σ1) : wpX6_order y x σ post := by
  obtain ⟨a, tx, n, hn, pa, ke, im, h⟩ := h
  unfold wpX6_order
  rw [lg_cmp_lt]
  have hbad : (y < 0 ∨ x < 0) → post (-1) σ := fun c => hp _ _ (fun post2 h2 => m_order h.mst y x (fun _ => h2 σ h.r) (fun N k hN hk e1 e2 => by
    subst e1; subst e2
    rcases c with c | c
    · exact absurd ((pk_lLT (b := 0) hN (by decide)).mp c) (Nat.not_lt_zero _)
    · exact absurd c (nI_pos hk)) (fun N k hN hk e1 e2 => by
    subst e1; subst e2
    rcases c with c | c
    · exact absurd ((pk_lLT (b := 0) hN (by decide)).mp c) (Nat.not_lt_zero _)
    · exact absurd c (nI_pos hk)))
  refine ⟨fun c => hbad (Or.inl c), fun c => ⟨fun c2 => ?_, fun c2 => hbad (Or.inr (by rw [Int32.not_le] at c2; exact c2))⟩⟩
  obtain ⟨N, hN, rfl⟩ := pk_lOf c
  obtain ⟨k, hk, rfl⟩ := nI_of (show ¬ x < 0 by rw [Int32.not_lt]; exact c2)
  have hb2 : ¬ (lN N < 0 ∨ nI k < 0) := by
    rintro (w | w)
    · exact c w
    · exact absurd w (nI_pos hk)
  refine q_oLearn (L := 0) h (by decide) (fun σ1 f1 h1 t1 => v_memberOf h1.1.1.o t1 hN hk (fun hle => ?_) (fun hlt => ?_))
  · refine hp _ _ (fun post2 h2 => m_order h1.mst (lN N) (nI k) (fun w => absurd w hb2) (fun _ _ _ _ _ _ _ σ2 f2 s2 => h2 σ2 (h1.mod f2 s2).r) (fun N' k' hN' hk' e1 e2 hlt => ?_))
    rw [(pk_lEQ hN' hN).mp e1.symm] at hlt; omega
  · refine hp _ _ (fun post2 h2 => m_order h1.mst (lN N) (nI k) (fun w => absurd w hb2) (fun N' k' hN' hk' e1 e2 hle => ?_) (fun N' k' hN' hk' e1 e2 _ σ2 f2 s2 => ?_))
    · rw [(pk_lEQ hN' hN).mp e1.symm] at hle; omega
    · rw [(pk_lEQ hN' hN).mp e1.symm, (nI_eq hk' hk).mp e2.symm]; exact h2 σ2 (h1.mod f2 s2).r
theorem op_rank {σ : Sg} (h : R σ) {post : Int64 → Sg → Prop} (hp : ∀ r σ1, (∀ post2 : Int64 → Sg → Prop, (∀ σ2, R σ2 → post2 r σ2) → wpX7_rank σ1 post2) → post r σ1) : wpX6_rank σ post := by
  obtain ⟨a, tx, n, hn, pa, ke, im, h⟩ := h
  unfold wpX6_rank
  refine q_learn h (fun σ1 f1 h1 t1 => v_exists h1.1.1 t1 (bI_n _ (fun e => hp _ _ (fun post2 h2 => m_rank h1.mst (fun hw => ?_) (fun _ σ2 f2 s2 => h2 σ2 (h1.mod f2 s2).r))) (fun e => ?_)))
  · rw [decide_eq_false_iff_not] at e; omega
  · rw [decide_eq_true_eq] at e
    refine q_oLearn (L := 0) h1 (by decide) (fun σ2 f2 h2 t2 => v_numberOf h2.1.1 (t1.row (fun k _ _ => ⟨(f2 k (by omega)).1, (f2 k (by omega)).2.1⟩)) t2 (hp _ _ (fun post2 h3 => m_rank h2.mst (fun _ σ3 f3 s3 => h3 σ3 (h2.mod f3 s3).r) (fun hw => by omega))))
theorem op_normal {σ : Sg} (h : R σ) (x : Int32) {post : Int32 → Sg → Prop} (hp : ∀ r σ1, (∀ post2 : Int32 → Sg → Prop, (∀ σ2, R σ2 → post2 r σ2) → wpX7_normal x σ1 post2) → post r σ1) : wpX6_normal x σ post := by
  obtain ⟨a, tx, n, hn, pa, ke, im, h⟩ := h
  have ha := h.1.1.1
  have hr := rdN_le a tx n
  have hnn := h.1.1.2.1.1
  unfold wpX6_normal
  refine ⟨fun c => ?_, fun c => hp _ _ (fun post2 h2 => ⟨fun w => absurd w c, fun _ => h2 σ h.r⟩)⟩
  obtain ⟨i, hi, rfl⟩ := nI_of (show ¬ x < 0 by rw [Int32.not_lt]; exact c)
  refine q_learn h (fun σ1 f1 h1 t1 => v_exists h1.1.1 t1 (bI_n _ (fun e => hp _ _ (fun post2 h2 => ⟨fun _ => m_layReading h1.mst (fun hw => ?_) (fun _ σ2 f2 s2 => ⟨fun w => absurd rfl w, fun _ => h2 σ2 (h1.mod f2 s2).r⟩), fun w => absurd c w⟩)) (fun e => ?_)))
  · rw [decide_eq_false_iff_not] at e; omega
  · rw [decide_eq_true_eq] at e
    refine v_formNormal h1.1.1 t1 (fun σ2 f2 R2 => ?_)
    have h2 := h1.form f2
    have hlen : (nfM a tx n (a 0)).length ≤ n := by
      rcases Nat.eq_zero_or_pos (a 0) with z | z
      · rw [z]; exact Nat.zero_le _
      · have := nf_len (tx := tx) (n := n) ha (show a 0 - 1 < a 0 by omega) (Nat.le_refl (rdN a tx n))
        have e2 : nfM a tx n (a 0) = nfK a tx n (a 0 - 1) (nfM a tx n (a 0 - 1)) (rdN a tx n) := by
          rw [show nfM a tx n (a 0) = nfM a tx n (a 0 - 1 + 1) from by rw [Nat.sub_add_cancel z]]; rfl
        rw [e2]; exact this
    refine v_at f30 (by omega) R2 hi (hp _ _ (fun post2 h3 => ⟨fun _ => m_layReading h2.mst (fun hw σ3 f3 s3 hrow => ⟨fun _ => m_layForm s3 hrow (fun σ4 f4 R4 => ?_), fun w => absurd w.symm (fun w => (nI_m9 (by omega)).mp w)⟩) (fun hw => by omega), fun w => absurd c w⟩))
    have h4 := h2.mod (f3.tr (frM.of f4 (by decide) (by decide))) (s3.fr f4 (by decide))
    unfold cI at h3
    refine pk_le (nfM a tx n (a 0)).length i (fun c2 => ?_) (fun c2 => ⟨pk_in i 200 (by omega), ?_⟩)
    · have h5 := h3 σ4 h4.r
      rw [if_neg (by omega)] at h5; exact h5
    · have h5 := h3 σ4 h4.r
      rw [if_pos c2] at h5
      rw [nI_clamp (by omega), R4 i c2]
      exact h5
