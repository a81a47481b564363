/-! the normal form, as a list of codes -/
def wordL (a : Nat → Nat) (m : Nat) : List Nat := (List.range (wl a m)).map (fun k => a (2 + 3 * m + k))
def numL (v : Nat) : List Nat := (if 100 ≤ v then [48 + v / 100] else []) ++ ((if 10 ≤ v then [48 + v / 10 % 10] else []) ++ [48 + v % 10])
def valL (a : Nat → Nat) (m v : Nat) : List Nat := if a (20 + m) = 1 then numL v else if a (20 + m) = 2 then [65 + v] else []
def occL (a : Nat → Nat) (m v : Nat) : List Nat := wordL a m ++ valL a m v
def nfS (a : Nat → Nat) (L : List Nat) (m v : Nat) : List Nat := (if 0 < L.length ∧ a 1 ≠ 0 then L ++ [a 1] else L) ++ occL a m v
noncomputable def memK (a tx : Nat → Nat) (n k : Nat) : Nat := fm a tx n (tq a tx n k) - 1
noncomputable def staK (a tx : Nat → Nat) (n k : Nat) : Nat := stP a tx n (tq a tx n k) (eT a tx n (tq a tx n k) - 1) - 1
noncomputable def vlK (a tx : Nat → Nat) (n k : Nat) : Nat := vlP a tx n (memK a tx n k) (staK a tx n k)
noncomputable def nfK (a tx : Nat → Nat) (n m : Nat) (L : List Nat) : Nat → List Nat
  | 0 => L
  | k + 1 => if memK a tx n k = m then nfS a (nfK a tx n m L k) m (vlK a tx n k) else nfK a tx n m L k
noncomputable def nfM (a tx : Nat → Nat) (n : Nat) : Nat → List Nat
  | 0 => []
  | m + 1 => nfK a tx n m (nfM a tx n m) (rdN a tx n)
/-! its length -/
def spN (a : Nat → Nat) : Nat := if a 1 = 0 then 0 else 1
def exL (a : Nat → Nat) (L : List Nat) : Nat := if L.length = 0 then 0 else L.length + spN a
theorem occL_pos {a : Nat → Nat} (ha : wfA a) {m : Nat} (hm : m < a 0) (v : Nat) : 1 ≤ (occL a m v).length := by
  have := ha.wl1 hm
  unfold occL wordL
  rw [List.length_append, List.length_map, List.length_range]; omega
theorem nfS_len (a : Nat → Nat) (L : List Nat) (m v : Nat) : (nfS a L m v).length = L.length + (if L.length = 0 then 0 else spN a) + (occL a m v).length := by
  unfold nfS spN
  rw [List.length_append]
  congr 1
  by_cases z : L.length = 0
  · rw [if_neg (show ¬ (0 < L.length ∧ a 1 ≠ 0) by omega), if_pos z]; rfl
  · by_cases q : a 1 = 0
    · rw [if_neg (show ¬ (0 < L.length ∧ a 1 ≠ 0) from fun w => w.2 q), if_neg z, if_pos q]; rfl
    · rw [if_pos (show 0 < L.length ∧ a 1 ≠ 0 from ⟨by omega, q⟩), if_neg z, if_neg q, List.length_append]; rfl
theorem exL_S {a : Nat → Nat} (ha : wfA a) {m : Nat} (hm : m < a 0) (v : Nat) (L : List Nat) : exL a (nfS a L m v) = exL a L + ((occL a m v).length + spN a) := by
  have h1 := occL_pos ha hm v
  have h2 := nfS_len a L m v
  unfold exL
  rw [if_neg (show ¬ (nfS a L m v).length = 0 by omega), h2]
  by_cases z : L.length = 0
  · rw [if_pos z, if_pos z]; omega
  · rw [if_neg z, if_neg z]; omega
theorem sm_swap {N : Nat} (mem y : Nat → Nat) : ∀ M, smN (fun m => smN (fun k => if mem k = m then y k else 0) N) M = smN (fun k => if mem k < M then y k else 0) N
  | 0 => by
    rw [smN_congr (g := fun _ => 0) N (fun k _ => if_neg (Nat.not_lt_zero _)), smN_0]; rfl
  | M + 1 => by
    show smN _ M + smN _ N = _
    rw [sm_swap mem y M]
    have : ∀ N, smN (fun k => if mem k < M then y k else 0) N + smN (fun k => if mem k = M then y k else 0) N = smN (fun k => if mem k < M + 1 then y k else 0) N := by
      intro N
      induction N with
      | zero => rfl
      | succ N ih =>
        show (smN _ N + _) + (smN _ N + _) = smN _ N + _
        have e : (if mem N < M then y N else 0) + (if mem N = M then y N else 0) = (if mem N < M + 1 then y N else 0) := by
          rcases Nat.lt_trichotomy (mem N) M with q | q | q
          · rw [if_pos q, if_neg (by omega), if_pos (by omega)]
            omega
          · rw [if_neg (by omega), if_pos q, if_pos (by omega)]
            omega
          · rw [if_neg (by omega), if_neg (by omega), if_neg (by omega)]
        dsimp only
        omega
    exact this N
theorem smN_mono {f g : Nat → Nat} : ∀ c, (∀ m, m < c → f m ≤ g m) → smN f c ≤ smN g c
  | 0, _ => Nat.le_refl _
  | c + 1, h => by
    show smN f c + f c ≤ smN g c + g c
    have := smN_mono c (fun m hm => h m (by omega))
    have := h c (by omega)
    omega
theorem smN_up (f : Nat → Nat) : ∀ {c d : Nat}, c ≤ d → smN f c ≤ smN f d := by
  intro c d h
  induction d with
  | zero => rw [Nat.le_zero.mp h]; exact Nat.le_refl _
  | succ d ih =>
    rcases Nat.lt_or_ge c (d + 1) with q | q
    · have := ih (by omega)
      show smN f c ≤ smN f d + f d
      omega
    · rw [show c = d + 1 by omega]; exact Nat.le_refl _
theorem memK_lt {a tx : Nat → Nat} {n k : Nat} (h : k < rdN a tx n) : memK a tx n k < a 0 := (fm_spec (rdN_fm h)).1
noncomputable def yK (a tx : Nat → Nat) (n k : Nat) : Nat := (occL a (memK a tx n k) (vlK a tx n k)).length + spN a
theorem nv_lt {tx : Nat → Nat} {s n : Nat} : ∀ d, (∀ i, i < d → dg tx n (s + i) = true) → nv tx s d < 10 ^ d
  | 0, _ => Nat.one_pos
  | d + 1, h => by
    have g := h d (by omega)
    simp only [dg, Bool.and_eq_true, decide_eq_true_eq] at g
    have g2 := nv_lt d (fun i hi => h i (by omega))
    show 10 * nv tx s d + (tx (s + d) - 48) < 10 ^ (d + 1)
    rw [Nat.pow_succ]
    omega
theorem vlP_lt {a tx : Nat → Nat} {n m p : Nat} (hT : wfT tx n) (ha : wfA a) : vlP a tx n m p < 1000 := by
  have h2 := hT.2 (p + wl a m)
  unfold vlP
  split
  · have h3 := dct_le tx n (p + wl a m)
    have := nv_lt (tx := tx) (s := p + wl a m) (n := n) (dct tx n (p + wl a m)) (fun i hi => mt_all (fun k => dg tx n (p + wl a m + k)) 3 0 i (Nat.zero_le _) hi)
    have g2 : 10 ^ dct tx n (p + wl a m) ≤ 10 ^ 3 := Nat.pow_le_pow_right (by decide) h3
    omega
  · split <;> omega
/-- an occurrence's normal form isn't longer than it is -/
theorem occ_len {a tx : Nat → Nat} {n m p : Nat} (ha : wfA a) (hm : m < a 0) (h : enP a tx n m p ≠ 0) : p + (occL a m (vlP a tx n m p)).length ≤ enP a tx n m p := by
  have hkind := (ha.2.2.2 m hm).2.2.1
  have hm1 : ¬ mch a tx n m p < wl a m := fun q => h (by unfold enP; rw [if_pos q])
  have hlen : ∀ v, (occL a m v).length = wl a m + (valL a m v).length := by
    intro v
    unfold occL wordL
    rw [List.length_append, List.length_map, List.length_range]
  rw [hlen]
  rcases (show a (20 + m) = 0 ∨ a (20 + m) = 1 ∨ a (20 + m) = 2 by omega) with k | k | k
  · have hE : enP a tx n m p = p + wl a m := by
      unfold enP; rw [if_neg hm1, if_neg (show ¬ a (20 + m) = 1 by omega), if_neg (show ¬ a (20 + m) = 2 by omega)]
    have hv : ∀ v, valL a m v = [] := by
      intro v; unfold valL; rw [if_neg (show ¬ a (20 + m) = 1 by omega), if_neg (show ¬ a (20 + m) = 2 by omega)]
    rw [hE, hv]; simp
  · have hd : ¬ dct tx n (p + wl a m) = 0 := fun z => h (by unfold enP; rw [if_neg hm1, if_pos k, if_pos z])
    have hE : enP a tx n m p = p + wl a m + dct tx n (p + wl a m) := by
      unfold enP; rw [if_neg hm1, if_pos k, if_neg hd]
    have hv : ∀ v, valL a m v = numL v := by intro v; unfold valL; rw [if_pos k]
    have hvl : vlP a tx n m p = nv tx (p + wl a m) (dct tx n (p + wl a m)) := by unfold vlP; rw [if_pos k]
    rw [hE, hv, hvl]
    have h3 := dct_le tx n (p + wl a m)
    have hv := nv_lt (tx := tx) (s := p + wl a m) (n := n) (dct tx n (p + wl a m)) (fun i hi => mt_all (fun k => dg tx n (p + wl a m + k)) 3 0 i (Nat.zero_le _) hi)
    generalize nv tx (p + wl a m) (dct tx n (p + wl a m)) = v at *
    have hl : (numL v).length ≤ dct tx n (p + wl a m) := by
      unfold numL
      rcases (show dct tx n (p + wl a m) = 1 ∨ dct tx n (p + wl a m) = 2 ∨ dct tx n (p + wl a m) = 3 by omega) with d | d | d
      · rw [d] at hv ⊢
        rw [if_neg (show ¬ 100 ≤ v by omega), if_neg (show ¬ 10 ≤ v by omega)]; simp
      · rw [d] at hv ⊢
        rw [if_neg (show ¬ 100 ≤ v by omega)]
        split <;> simp
      · rw [d]
        split <;> split <;> simp
    omega
  · have hcp : cp tx n (p + wl a m) = true := by
      refine Classical.byContradiction (fun z => h ?_)
      unfold enP; rw [if_neg hm1, if_neg (show ¬ a (20 + m) = 1 by omega), if_pos k, if_neg z]
    have hE : enP a tx n m p = p + wl a m + 1 := by
      unfold enP; rw [if_neg hm1, if_neg (show ¬ a (20 + m) = 1 by omega), if_pos k, if_pos hcp]
    have hv : ∀ v, valL a m v = [65 + v] := by intro v; unfold valL; rw [if_neg (show ¬ a (20 + m) = 1 by omega), if_pos k]
    rw [hE, hv]; simp; omega
theorem pos_sum {a tx : Nat → Nat} {n : Nat} (ha : wfA a) : ∀ k, k ≤ rdN a tx n → smN (yK a tx n) k ≤ (eT a tx n (tq a tx n k) - 1) + (if k = 0 then 0 else spN a)
  | 0, _ => Nat.zero_le _
  | k + 1, h => by
    have ih := pos_sum (tx := tx) (n := n) ha k (by omega)
    obtain ⟨t0, tl⟩ := tq_rc (tx := tx) (n := n) ha k (fun i hi => rdN_fm (by omega))
    obtain ⟨f1, f2, f3⟩ := fm_spec (rdN_fm (show k < rdN a tx n by omega))
    obtain ⟨g1, g2, g3⟩ := sT_nx f2
    have hst := (eT_rc t0).step f1 rfl g3
    have heS := eT_of ha hst
    obtain ⟨n1, n2, n3⟩ := nx_may rfl g3
    have hlen := occ_len (p := staK a tx n k) ha f1 (by unfold staK; rw [n3]; exact g3)
    have hy : yK a tx n k = (occL a (memK a tx n k) (vlK a tx n k)).length + spN a := rfl
    rw [show enP a tx n (fm a tx n (tq a tx n k) - 1) (staK a tx n k) = nxP a tx n (tq a tx n k) (eT a tx n (tq a tx n k) - 1) (fm a tx n (tq a tx n k) - 1) from n3] at hlen
    show smN (yK a tx n) k + yK a tx n k ≤ _
    rw [if_neg (by omega), show tq a tx n (k + 1) = tq a tx n k + 4 ^ (fm a tx n (tq a tx n k) - 1) from rfl, heS, Nat.add_sub_cancel, hy]
    have hs : (eT a tx n (tq a tx n k) - 1) + (if k = 0 then 0 else spN a) ≤ staK a tx n k := by
      unfold staK
      by_cases q : k = 0
      · rw [if_pos q]
        have := (stP_ge n2).1
        omega
      · rw [if_neg q]
        have hsg := (stP_ge n2).1
        unfold spN
        split
        · omega
        · rename_i q2
          have ht : tq a tx n k ≠ 0 := by
            cases k with
            | zero => exact absurd rfl q
            | succ k =>
              have : 0 < 4 ^ (fm a tx n (tq a tx n k) - 1) := Nat.pow_pos (by decide)
              show tq a tx n k + _ ≠ 0
              omega
          unfold stP at n2 ⊢
          rw [if_neg (by omega)] at n2 ⊢
          split
          · omega
          · rename_i q3; rw [if_neg q3] at n2; exact absurd rfl n2
    have hv : vlK a tx n k = vlP a tx n (fm a tx n (tq a tx n k) - 1) (staK a tx n k) := rfl
    have hm : memK a tx n k = fm a tx n (tq a tx n k) - 1 := rfl
    rw [hv, hm]
    omega
theorem nf_ex {a tx : Nat → Nat} {n : Nat} (ha : wfA a) : ∀ m, m ≤ a 0 → exL a (nfM a tx n m) = smN (fun m' => smN (fun k => if memK a tx n k = m' then yK a tx n k else 0) (rdN a tx n)) m ∧ (m < a 0 → ∀ k, k ≤ rdN a tx n → exL a (nfK a tx n m (nfM a tx n m) k) = exL a (nfM a tx n m) + smN (fun k => if memK a tx n k = m then yK a tx n k else 0) k) := by
  have hk : ∀ m, m < a 0 → ∀ L k, k ≤ rdN a tx n → exL a (nfK a tx n m L k) = exL a L + smN (fun k => if memK a tx n k = m then yK a tx n k else 0) k := by
    intro m hm L k
    induction k with
    | zero => intro _; rfl
    | succ k ih =>
      intro hk
      have h := ih (by omega)
      show exL a (if memK a tx n k = m then nfS a (nfK a tx n m L k) m (vlK a tx n k) else nfK a tx n m L k) = exL a L + (smN _ k + (if memK a tx n k = m then yK a tx n k else 0))
      by_cases q : memK a tx n k = m
      · rw [if_pos q, if_pos q, exL_S ha hm, h]
        unfold yK
        rw [q]; omega
      · rw [if_neg q, if_neg q, h]; omega
  intro m
  induction m with
  | zero => exact fun _ => ⟨rfl, fun h k hk' => hk 0 h _ k hk'⟩
  | succ m ih =>
    intro hm
    refine ⟨?_, fun h k hk' => hk (m + 1) h _ k hk'⟩
    show exL a (nfK a tx n m (nfM a tx n m) (rdN a tx n)) = smN _ m + _
    rw [hk m (by omega) _ _ (Nat.le_refl _), (ih (by omega)).1]
theorem nf_len {a tx : Nat → Nat} {n : Nat} (ha : wfA a) {m k : Nat} (hm : m < a 0) (hk : k ≤ rdN a tx n) : (nfK a tx n m (nfM a tx n m) k).length ≤ n := by
  have h1 := (nf_ex (tx := tx) (n := n) ha m (by omega)).1
  have h2 := (nf_ex (tx := tx) (n := n) ha m (by omega)).2 hm k hk
  have h3 : smN (fun k => if memK a tx n k = m then yK a tx n k else 0) k ≤ smN (fun k => if memK a tx n k = m then yK a tx n k else 0) (rdN a tx n) := smN_up _ hk
  have h4 : smN (fun m' => smN (fun k => if memK a tx n k = m' then yK a tx n k else 0) (rdN a tx n)) (m + 1) ≤ smN (yK a tx n) (rdN a tx n) := by
    rw [sm_swap]
    exact smN_mono _ (fun k _ => by split <;> omega)
  have h5 : smN (fun m' => smN (fun k => if memK a tx n k = m' then yK a tx n k else 0) (rdN a tx n)) (m + 1) = smN (fun m' => smN (fun k => if memK a tx n k = m' then yK a tx n k else 0) (rdN a tx n)) m + smN (fun k => if memK a tx n k = m then yK a tx n k else 0) (rdN a tx n) := rfl
  have h6 := pos_sum (tx := tx) (n := n) ha (rdN a tx n) (Nat.le_refl _)
  obtain ⟨t0, _⟩ := tq_rc (tx := tx) (n := n) ha (rdN a tx n) (fun i hi => rdN_fm hi)
  have h7 := eT_le ha t0
  have h8 : (if rdN a tx n = 0 then 0 else spN a) ≤ spN a := by split <;> omega
  unfold exL at h2
  by_cases z : (nfK a tx n m (nfM a tx n m) k).length = 0
  · omega
  · rw [if_neg z] at h2
    have h9 : exL a (nfM a tx n m) = (if (nfM a tx n m).length = 0 then 0 else (nfM a tx n m).length + spN a) := rfl
    omega
/-! the class writes it -/
def repL (σ : Sg) (b : Nat) (L : List Nat) : Prop := repT σ b (fun j => L.getD j 0) L.length
theorem repL.fr {σ σ' : Sg} {b : Nat} {L : List Nat} (h : repL σ b L) (e1 : σ'.1 b = σ.1 b) (e2 : σ'.1 (b + 1) = σ.1 (b + 1)) : repL σ' b L := ⟨by rw [e1]; exact h.1, fun j hj => by rw [e2]; exact h.2 j hj⟩
theorem v_append {b : Nat} (hb : s_fin b 0 = b + 1) {σ : Sg} {L : List Nat} {x : Nat} (hR : repL σ b L) (hl : L.length < 60) {post : Int32 → Sg → Prop} (h : ∀ σ', frR b (b + 1) σ σ' → σ'.2 = σ.2 → repL σ' b (L ++ [x]) → post 1 σ') : wpX0_append b (nI x) σ post := by
  unfold wpX0_append
  rw [hR.1, hb]
  refine ⟨fun c => absurd c (nI_pos (by omega)), fun _ => pk_lt L.length 60 (fun _ => ⟨pk_in L.length 60 hl, ?_⟩) (fun c => by omega)⟩
  rw [nI_clamp (by omega)]
  intro σ1 e1 σ2 e2
  have el : σ1.1 b 1 = nI L.length := by rw [e1, upd_row (by omega)]; exact hR.1
  refine h σ2 ?_ ?_ ⟨?_, ?_⟩
  · rw [e2, e1]; exact (frR.rf.i _ _ (by omega)).i _ _ (by omega)
  · rw [e2, e1]; rfl
  · rw [e2, setI_1, if_pos ⟨rfl, rfl⟩, el, List.length_append]
    exact nI_1 _
  · intro j hj
    rw [List.length_append] at hj
    have hj2 : j < L.length + 1 := hj
    rw [e2, upd_row (by omega), e1, setI_1]
    by_cases q : j = L.length
    · rw [if_pos ⟨rfl, q⟩, q]
      simp
    · rw [if_neg (fun w => q w.2), hR.2 j (by omega)]
      simp only [List.getD_eq_getElem?_getD]
      rw [List.getElem?_append_left (by omega)]
theorem f30 : s_fin 3 0 = 3 + 1 := by decide
theorem fr34 {σ σ' : Sg} {a tx : Nat → Nat} {n : Nat} (h : ctxN σ a tx n) (hf : frR 3 4 σ σ') : ctxN σ' a tx n := by
  obtain ⟨ha, hT, hD, hR, hM⟩ := h
  have e6 : σ'.2.2 6 = σ.2.2 6 := (hf 6 (by omega)).2.2
  refine ⟨ha, hT, ⟨?_, ?_, ?_⟩, ⟨?_, ?_⟩, ?_⟩
  · rw [(hf 5 (by omega)).1]; exact hD.1
  · rw [(hf 5 (by omega)).1]; exact hD.2.1
  · intro m hm
    have hm6 := ha.1
    have h1 := hM m (by omega)
    have h2 := hD.2.2 m hm
    show repMb σ' (σ'.2.2 6 m) a m
    rw [e6]
    unfold repMb at h2 ⊢
    rw [(hf _ (by omega)).1]
    exact h2
  · rw [(hf 1 (by omega)).1]; exact hR.1
  · intro j hj
    rw [(hf (1 + 1) (by omega)).1]
    exact hR.2 j hj
  · rw [e6]; exact hM
theorem tab34 {σ σ' : Sg} {a tx : Nat → Nat} {n : Nat} (h : tabC σ a tx n) (hf : frR 3 4 σ σ') : tabC σ' a tx n := by
  obtain ⟨h1, h2, h3, h4, h5⟩ := h
  refine ⟨?_, ?_, ?_, ?_, ?_⟩
  · rw [(hf 91 (by omega)).1]; exact h1
  · rw [(hf 92 (by omega)).1]; exact h2
  · rw [(hf 93 (by omega)).2.1]; exact h3
  · rw [(hf 90 (by omega)).1]; exact h4
  · intro k hk
    have := h5 k hk
    unfold rdRow at this ⊢
    rw [(hf 94 (by omega)).1, (hf 95 (by omega)).1, (hf 96 (by omega)).1]
    exact this
theorem v_appendNumber {σ : Sg} {L : List Nat} {v : Nat} (hv : v < 1000) (hR : repL σ 3 L) (hl : L.length + (numL v).length ≤ 60) {post : Sg → Prop} (h : ∀ σ', frR 3 4 σ σ' → repL σ' 3 (L ++ numL v) → post σ') : wpX0_appendNumber 3 (nI v) σ post := by
  have d10 : nI v / (10 : Int32) = nI (v / 10) := pk_div (d := 10) (by omega) (by decide) (by decide)
  have d100 : nI v / (100 : Int32) = nI (v / 100) := pk_div (d := 100) (by omega) (by decide) (by decide)
  have r10 : nI v - nI v / (10 : Int32) * (10 : Int32) = nI (v % 10) := pk_rem (d := 10) (by omega) (by decide) (by decide)
  have r1010 : nI v / (10 : Int32) - nI v / (10 : Int32) / (10 : Int32) * (10 : Int32) = nI (v / 10 % 10) := by
    rw [d10]; exact pk_rem (d := 10) (by omega) (by decide) (by decide)
  have h39 : ∀ σ1 L1, frR 3 4 σ σ1 → repL σ1 3 L1 → L1.length < 60 → L1 ++ [48 + v % 10] = L ++ numL v → BX0_appendNumber_39 3 (nI v) post σ1 := by
    intro σ1 L1 f1 R1 hl1 e1
    unfold BX0_appendNumber_39
    rw [r10, show (48 : Int32) + nI (v % 10) = nI (48 + v % 10) from nI_add 48 _]
    refine v_append f30 R1 hl1 (fun σ2 f2 _ R2 => ?_)
    rw [e1] at R2
    exact h σ2 (f1.tr f2) R2
  have h18 : ∀ σ1 L1, frR 3 4 σ σ1 → repL σ1 3 L1 → L1.length + ((if 10 ≤ v then [48 + v / 10 % 10] else []) ++ [48 + v % 10]).length ≤ 60 → L1 ++ ((if 10 ≤ v then [48 + v / 10 % 10] else []) ++ [48 + v % 10]) = L ++ numL v → BX0_appendNumber_18 3 (nI v) post σ1 := by
    intro σ1 L1 f1 R1 hl1 e1
    unfold BX0_appendNumber_18
    refine pk_lt v 10 (fun c => ?_) (fun c => ?_)
    · rw [if_neg (by omega)] at hl1 e1
      exact h39 σ1 L1 f1 R1 (by simp at hl1; omega) e1
    · rw [if_pos c] at hl1 e1
      rw [r1010, show (48 : Int32) + nI (v / 10 % 10) = nI (48 + v / 10 % 10) from nI_add 48 _]
      refine v_append f30 R1 (by simp at hl1; omega) (fun σ2 f2 _ R2 => ?_)
      exact h39 σ2 _ (f1.tr f2) R2 (by simp at hl1 ⊢; omega) (by rw [← e1]; simp)
  unfold wpX0_appendNumber
  unfold numL at hl
  refine pk_lt v 100 (fun c => ?_) (fun c => ?_)
  · refine h18 σ L frR.rf hR ?_ ?_
    · rw [if_neg (by omega)] at hl; exact hl
    · unfold numL; rw [if_neg (show ¬ 100 ≤ v by omega)]; rfl
  · rw [if_pos c] at hl
    rw [d100, show (48 : Int32) + nI (v / 100) = nI (48 + v / 100) from nI_add 48 _]
    refine v_append f30 hR (by simp at hl; omega) (fun σ2 f2 _ R2 => ?_)
    refine h18 σ2 _ f2 R2 ?_ ?_
    · simp at hl ⊢; omega
    · unfold numL; rw [if_pos c]; simp
theorem v_appendOcc {σ : Sg} {a tx : Nat → Nat} {n m v : Nat} (hc : ctxN σ a tx n) (hm : m < a 0) (hv : v < 1000) {L : List Nat} (hR : repL σ 3 L) (hl : L.length + (occL a m v).length ≤ 60) {post : Sg → Prop} (h : ∀ σ', frR 3 4 σ σ' → repL σ' 3 (L ++ occL a m v) → post σ') : wpX0_appendOccurrence 3 (σ.2.2 6 m) (nI v) σ post := by
  have ha := hc.1
  have h6 := ha.1
  have hq := hc.2.2.2.2 m (by omega)
  have w3 := wl_le a m
  have hkind := (ha.2.2.2 m hm).2.2.1
  unfold occL at hl h
  have hwl : (wordL a m).length = wl a m := by unfold wordL; rw [List.length_map, List.length_range]
  have key : ∀ r k σ1, k + r = wl a m → frR 3 4 σ σ1 → repL σ1 3 (L ++ (List.range k).map (fun k => a (2 + 3 * m + k))) → BX0_appendOccurrence_2 3 (σ.2.2 6 m) (nI v) post (r + 1) (nI k) σ1 := by
    intro r
    induction r with
    | zero =>
      intro k σ1 hk f1 R1
      have hc1 := fr34 hc f1
      have hmb := hc1.2.2.1.2.2 m hm
      have e6 : σ1.2.2 (5 + 1) = σ.2.2 6 := (f1 6 (by omega)).2.2
      rw [e6] at hmb
      rw [BX0_appendOccurrence_2]
      refine v_wordLength ha hm hmb.1 (pk_le (wl a m) k (fun _ => ?_) (fun c => by omega))
      have hk0 : k = wl a m := by omega
      subst hk0
      rw [hmb.2.1]
      have R1' : repL σ1 3 (L ++ wordL a m) := R1
      rw [List.length_append, hwl] at hl
      unfold valL at hl h
      rcases (show a (20 + m) = 0 ∨ a (20 + m) = 1 ∨ a (20 + m) = 2 by omega) with k | k | k
      · rw [k] at hl h ⊢
        rw [if_neg (by decide), if_neg (by decide), List.append_nil] at h
        exact ⟨fun _ => ⟨fun _ => h σ1 f1 R1', fun c => absurd c (by decide)⟩, fun c => absurd c (by decide)⟩
      · rw [k] at hl h ⊢
        rw [if_pos rfl] at hl h
        refine ⟨fun c => absurd rfl c, fun _ => ?_⟩
        refine v_appendNumber hv R1' (by rw [List.length_append, hwl]; omega) (fun σ2 f2 R2 => h σ2 (f1.tr f2) ?_)
        rw [List.append_assoc] at R2; exact R2
      · rw [k] at hl h ⊢
        rw [if_neg (by decide), if_pos rfl] at hl h
        refine ⟨fun _ => ⟨fun c => absurd rfl c, fun _ => ?_⟩, fun c => absurd c (by decide)⟩
        rw [show (65 : Int32) + nI v = nI (65 + v) from nI_add 65 _]
        refine v_append f30 R1' (by rw [List.length_append, hwl]; simp at hl; omega) (fun σ2 f2 _ R2 => h σ2 (f1.tr f2) ?_)
        rw [List.append_assoc] at R2; exact R2
    | succ r ih =>
      intro k σ1 hk f1 R1
      have hc1 := fr34 hc f1
      have hmb := hc1.2.2.1.2.2 m hm
      have e6 : σ1.2.2 (5 + 1) = σ.2.2 6 := (f1 6 (by omega)).2.2
      rw [e6] at hmb
      rw [BX0_appendOccurrence_2]
      refine v_wordLength ha hm hmb.1 (pk_le (wl a m) k (fun c => by omega) (fun c => ?_))
      refine v_letter ha hm (by omega) hmb.1 ?_
      have hlt := wl_let ha hm c
      rw [show eI (a (2 + 3 * m + k)) = nI (a (2 + 3 * m + k)) from by unfold eI; rw [if_neg (by omega)]]
      rw [List.length_append, hwl] at hl
      refine v_append f30 R1 (by rw [List.length_append, List.length_map, List.length_range]; omega) (fun σ2 f2 _ R2 => ?_)
      rw [nI_1]
      refine ih (k + 1) σ2 (by omega) (f1.tr f2) ?_
      rw [List.range_succ, List.map_append, ← List.append_assoc]
      exact R2
  exact ⟨_, key (wl a m) 0 σ (by omega) frR.rf (by simpa using hR)⟩
theorem v_formNormal {σ : Sg} {a tx : Nat → Nat} {n : Nat} (hc : ctxN σ a tx n) (hT : tabC σ a tx n) {post : Sg → Prop} (h : ∀ σ', frR 3 4 σ σ' → repL σ' 3 (nfM a tx n (a 0)) → post σ') : wpX6_formNormal σ post := by
  have ha := hc.1
  have h6 := ha.1
  have hn := hc.2.1.1
  have hr := rdN_le a tx n
  have hsep := ha.2.1
  unfold wpX6_formNormal wpX0_clear
  intro σ0 e0
  have f0 : frR 3 4 σ σ0 := by rw [e0]; exact frR.rf.i _ _ (by decide)
  have R0 : repL σ0 3 [] := ⟨by rw [e0, setI_1, if_pos ⟨rfl, rfl⟩]; rfl, fun j hj => by simp at hj⟩
  -- the inner loop
  have inner : ∀ (K9 : Int32 → Sg → Prop) m, m < a 0 → (∀ σ', frR 3 4 σ σ' → repL σ' 3 (nfM a tx n (m + 1)) → K9 (nI (m + 1)) σ') → ∀ r k σ1, k + r = rdN a tx n → frR 3 4 σ σ1 → repL σ1 3 (nfK a tx n m (nfM a tx n m) k) → BX6_formNormal_22 K9 post (r + 1) (nI m) (nI k) σ1 := by
    intro K9 m hm hK r
    induction r with
    | zero =>
      intro k σ1 hk f1 R1
      have hT1 := tab34 hT f1
      rw [BX6_formNormal_22, hT1.2.2.2.1]
      refine pk_le (rdN a tx n) k (fun _ => ?_) (fun c => by omega)
      rw [nI_1]
      refine hK σ1 f1 ?_
      rw [show k = rdN a tx n by omega] at R1
      exact R1
    | succ r ih =>
      intro k σ1 hk f1 R1
      have hT1 := tab34 hT f1
      have hc1 := fr34 hc f1
      rw [BX6_formNormal_22, hT1.2.2.2.1]
      refine pk_le (rdN a tx n) k (fun c => by omega) (fun c => ?_)
      have hmk := memK_lt c
      have hlen2 := nf_len (tx := tx) (n := n) ha hm (k := k + 1) (by omega)
      have e1 : nfK a tx n m (nfM a tx n m) (k + 1) = if memK a tx n k = m then nfS a (nfK a tx n m (nfM a tx n m) k) m (vlK a tx n k) else nfK a tx n m (nfM a tx n m) k := rfl
      refine v_memberAt hT1 (by omega) (fun _ => ?_) (fun q => by omega)
      have hm31 : memK a tx n k < 2 ^ 31 := by omega
      by_cases q : memK a tx n k = m
      · rw [if_pos q] at e1
        rw [e1] at hlen2
        have hgo : ∀ σ2 L2, frR 3 4 σ σ2 → repL σ2 3 L2 → L2 ++ occL a m (vlK a tx n k) = nfS a (nfK a tx n m (nfM a tx n m) k) m (vlK a tx n k) → BX6_formNormal_80 (BX6_formNormal_22 K9 post (r + 1)) post (nI m) (nI k) σ2 := by
          intro σ2 L2 f2 R2 e2
          have hT2 := tab34 hT f2
          have hc2 := fr34 hc f2
          unfold BX6_formNormal_80
          refine v_at1 k51 (by omega) (fun _ => v_numberAt hT2 (by omega) (fun _ => ?_) (fun y => by omega))
          have hrow := (hT2.2.2.2.2 k c).2.2
          rw [show σ2.1 96 k = nI (vlK a tx n k) from hrow]
          have hv : vlK a tx n k < 1000 := vlP_lt hc.2.1 ha
          refine v_appendOcc hc2 hm hv R2 (by have := congrArg List.length e2; rw [List.length_append] at this; omega) (fun σ3 f3 R3 => ?_)
          rw [nI_1]
          refine ih (k + 1) σ3 (by omega) (f2.tr f3) ?_
          rw [e1, ← e2]; exact R3
        refine ⟨fun w => absurd (by show nI (memK a tx n k) = nI m; rw [q]) w, fun _ => ?_⟩
        rw [R1.1, hc1.2.2.1.2.1]
        have hlen1 := nf_len (tx := tx) (n := n) ha hm (k := k) (by omega)
        refine pk_le (nfK a tx n m (nfM a tx n m) k).length 0 (fun z => ?_) (fun z => ⟨fun w => ?_, fun w => ?_⟩)
        · exact hgo σ1 _ f1 R1 (by unfold nfS; rw [if_neg (by omega)])
        · have hs0 : a 1 = 0 := (nI_eq (by omega) (by omega)).mp (w.trans nI_0.symm)
          exact hgo σ1 _ f1 R1 (by unfold nfS; rw [if_neg (by omega)])
        · have hs1 : a 1 ≠ 0 := fun y => w (by rw [y]; rfl)
          unfold nfS at hlen2
          rw [if_pos ⟨z, hs1⟩] at hlen2
          rw [List.length_append, List.length_append] at hlen2
          have hop := occL_pos ha hm (vlK a tx n k)
          refine v_append f30 R1 (by simp at hlen2; omega) (fun σ2 f2 _ R2 => ?_)
          exact hgo σ2 _ (f1.tr f2) R2 (by unfold nfS; rw [if_pos ⟨z, hs1⟩])
      · rw [if_neg q] at e1
        refine ⟨fun _ => ?_, fun w => absurd ((nI_eq (a := memK a tx n k) (by omega) (by omega)).mp w) q⟩
        rw [nI_1]
        exact ih (k + 1) σ1 (by omega) f1 (by rw [e1]; exact R1)
  have outer : ∀ r m σ1, m + r = a 0 → frR 3 4 σ σ1 → repL σ1 3 (nfM a tx n m) → BX6_formNormal_9 post (r + 1) (nI m) σ1 := by
    intro r
    induction r with
    | zero =>
      intro m σ1 hm f1 R1
      have hc1 := fr34 hc f1
      rw [BX6_formNormal_9, hc1.2.2.1.1]
      refine pk_le (a 0) m (fun _ => ?_) (fun c => by omega)
      rw [show m = a 0 by omega] at R1
      exact h σ1 f1 R1
    | succ r ih =>
      intro m σ1 hm f1 R1
      have hc1 := fr34 hc f1
      rw [BX6_formNormal_9, hc1.2.2.1.1]
      refine pk_le (a 0) m (fun c => by omega) (fun c => ⟨_, inner (BX6_formNormal_9 post (r + 1)) m c (fun σ2 f2 R2 => ih (m + 1) σ2 (by omega) f2 R2) (rdN a tx n) 0 σ1 (by omega) f1 R1⟩)
  exact ⟨_, outer (a 0) 0 σ0 (by omega) f0 R0⟩
