/-! the making of the objects: raw worlds, cells in the order of their making -/
def c_idx (s0 : Nat) (Wd : List va_E) : va_W := Wd.zipIdx.map (fun q => (s0 + q.2, q.1))
theorem c_get? (s0 : Nat) (Wd : List va_E) (k : Nat) : (c_idx s0 Wd)[k]? = (Wd[k]?).map (fun e => (s0 + k, e)) := by
  unfold c_idx
  rw [List.getElem?_map, List.getElem?_zipIdx]
  cases Wd[k]? <;> simp
theorem c_at {s0 : Nat} {Wd : List va_E} {k : Nat} {e : va_E} (h : Wd[k]? = some e) : (c_idx s0 Wd)[k]? = some (s0 + k, e) := by
  rw [c_get?, h]; rfl
theorem c_len (s0 : Nat) (Wd : List va_E) : (c_idx s0 Wd).length = Wd.length := by simp [c_idx]
theorem c_D (s0 : Nat) (Wd : List va_E) : va_D (c_A s0) (c_idx s0 Wd) := by
  have key : ∀ (k : Nat) (q : Nat × va_E), (c_idx s0 Wd)[k]? = some q → q.1 = s0 + k := by
    intro k q h
    rw [c_get?] at h
    cases hw : Wd[k]? with
    | none => rw [hw] at h; cases h
    | some e => rw [hw] at h; cases h; rfl
  refine ⟨fun i j p q hi hj hpq => ?_, fun k q hq => ?_⟩
  · have h1 := key i p hi
    have h2 := key j q hj
    omega
  · have h1 := key k q hq
    show s0 ≤ q.1
    omega
theorem c_set (s0 : Nat) (Wd : List va_E) (k : Nat) (e : va_E) : (c_idx s0 Wd).set k (s0 + k, e) = c_idx s0 (Wd.set k e) := by
  apply List.ext_getElem?
  intro i
  rw [c_get?]
  by_cases hi : i = k
  · subst hi
    by_cases hl : i < Wd.length
    · rw [List.getElem?_set_self (by rw [c_len]; exact hl), List.getElem?_set_self hl]; rfl
    · rw [List.getElem?_eq_none (by rw [List.length_set, c_len]; omega), List.getElem?_eq_none (by rw [List.length_set]; omega)]; rfl
  · rw [List.getElem?_set_ne (Ne.symm hi), List.getElem?_set_ne (Ne.symm hi), c_get?]
theorem c_app (s0 : Nat) (Wd : List va_E) (e : va_E) : c_idx s0 Wd ++ [(s0 + Wd.length, e)] = c_idx s0 (Wd ++ [e]) := by
  unfold c_idx
  rw [List.zipIdx_append, List.map_append]
  simp
def c_St (G : s_G) (Wd : List va_E) (H0 H : Heap) (locs : List Loc) : Prop := va_P G.1 vwCl (c_idx G.2.2 Wd) H ∧ va_S (c_A G.2.2) H0 H locs ∧ H.size = G.2.2 + Wd.length
def c_B (G : s_G) (Wd : List va_E) (t : State) : Prop := va_P G.1 vwCl (c_idx G.2.2 Wd) t.heap ∧ t.heap.size = G.2.2 + Wd.length
def c_AO (U : State) : Prop := va_AO "PhraseReader$Member" U ∧ va_AO "PhraseReader$Declarations" U
def c_Pre (G : s_G) (Wd : List va_E) (U : State) : Prop := va_P G.1 vwCl (c_idx G.2.2 Wd) U.heap ∧ U.heap.size = G.2.2 + Wd.length ∧ va_K G.1 vwCl (s_tys G) U ∧ nestOK U ∧ c_AO U
theorem c_Pre.blind (G : s_G) (Wd : List va_E) (av : List Value) : FrameBlind (va_Pc av (c_Pre G Wd)) := fun a U g mk q => by
  obtain ⟨q0, qP, qR, qK, qN, qA⟩ := q
  exact ⟨q0, qP, qR, va_K.moved (u := U) (U := U.calling g mk a) (Vm.Alike.refl U.vm) qK, nestOK.same (s := U) (U := U.calling g mk a) rfl qN, va_AO.moved (u := U) (U := U.calling g mk a) (Vm.Alike.refl U.vm) qA.1, va_AO.moved (u := U) (U := U.calling g mk a) (Vm.Alike.refl U.vm) qA.2⟩
abbrev c_w (Wd0 : List va_E) (k0 : Nat) (e : va_E) (E : List va_E) : List va_E := Wd0.set k0 e ++ E
theorem c_ln {Wd0 : List va_E} {k0 : Nat} {e : va_E} {E : List va_E} {j : Nat} (hj : E.length = j) : (c_w Wd0 k0 e E).length = Wd0.length + j := by
  subst hj; simp [c_w]
theorem c_l1 {Wd0 : List va_E} {k0 : Nat} {e : va_E} {E : List va_E} (hk : k0 < Wd0.length) : (c_w Wd0 k0 e E)[k0]? = some e := by
  unfold c_w
  rw [List.getElem?_append_left (by rw [List.length_set]; exact hk), List.getElem?_set_self hk]
theorem c_l2 {Wd0 : List va_E} {k0 : Nat} {e y : va_E} {E : List va_E} {j : Nat} (h : E[j]? = some y) : (c_w Wd0 k0 e E)[Wd0.length + j]? = some y := by
  unfold c_w
  rw [List.getElem?_append_right (by rw [List.length_set]; omega), List.length_set, Nat.add_sub_cancel_left, h]
theorem c_s1 {Wd0 : List va_E} {k0 : Nat} {e e1 : va_E} {E : List va_E} (hk : k0 < Wd0.length) : (c_w Wd0 k0 e E).set k0 e1 = c_w Wd0 k0 e1 E := by
  unfold c_w
  rw [List.set_append_left _ _ (by rw [List.length_set]; exact hk), List.set_set]
theorem c_s2 {Wd0 : List va_E} {k0 : Nat} {e y : va_E} {E E1 : List va_E} {j : Nat} (h : E.set j y = E1) : (c_w Wd0 k0 e E).set (Wd0.length + j) y = c_w Wd0 k0 e E1 := by
  unfold c_w
  rw [List.set_append_right _ _ (by rw [List.length_set]; omega), List.length_set, Nat.add_sub_cancel_left, h]
theorem c_0 {Wd0 : List va_E} {k0 : Nat} {e : va_E} (h : Wd0[k0]? = some e) : Wd0 = c_w Wd0 k0 e [] := by
  unfold c_w
  rw [List.append_nil]
  obtain ⟨h1, h2⟩ := List.getElem?_eq_some_iff.mp h
  rw [← h2, List.set_getElem_self]
section CONS
variable {p : Program} {l : Launch} {e : Env} {R : Room} {s : State} {m : MethodId} {args : Array Value} {below : List Frame} {meth : Method} {c : Code} {H H0 : Heap} {locs : List Loc} {cells slots : Nat} {Q : State → Prop}
variable {cc bytes : ByteArray} {pc idx : Nat} {ls : Array Slot} {rest st0 : List Value} {G : s_G} {own : String} {k k0 j : Nat} {Wd0 : List va_E} {e0 : va_E} {E E1 : List va_E}
theorem n_new {ci N : Nat} {C : String} {T : u_T} {fs : List Value} {ty : Nat → FieldType} (Cx : s_C G p s args m c own cc) (hin : ∀ w ∈ u_ws C T N, w ∈ wL) (hty : ∀ k, k < N → parseFieldDescriptor (T k).2.2.1 = some (ty k)) (hcl : Cond.classLink own idx C ∈ wL) (hins : Cond.instantiable C N ∈ wL) (hini : Cond.initialized C ∈ wL) (hc : vwCl[ci]? = some (C, T, N)) (hfs : ∀ j, j < N → defaultValue (ty j) = vp_V fs j) {Wd : List va_E} (S : c_St G Wd H0 H locs) (hcells : cells + 1 ≤ R.cells) (hslots : slots + N ≤ R.slots) (hdg : decode cc pc = .ok (.new idx, 3))
    (kk : ∀ (H1 : Heap), c_St G (Wd ++ [.inr (ci, fs)]) H0 H1 locs → W p l e R s m args below meth c H1 locs (cells + 1) (slots + N) Q (F0 m (pc + 3) ls (.ref (G.2.2 + Wd.length) :: rest))) : W p l e R s m args below meth c H locs cells slots Q (F0 m pc ls rest) := by
  obtain ⟨hP, hS, hz⟩ := S
  have hKn := Cx.2.2.2.2.1.1 ci _ hc
  refine W.newcK Cx.1 Cx.2.1 Cx.2.2.1 (Cx.2.2.2.1 _ hcl) (Cx.2.2.2.1 _ hins) (Cx.2.2.2.1 _ hini) rfl hdg hcells hslots hKn.2.1 hz fun H1 kC hkC e1 z1 o1 => ?_
  have hk : ∀ (k : Nat) (x : Nat × va_E), (c_idx G.2.2 Wd)[k]? = some x → H1[x.1]? = H[x.1]? := fun k x hx => o1 x.1 (by rw [← hz]; exact (hP k x hx).lt)
  refine kk H1 ⟨?_, ⟨Nat.le_trans hS.1 (by omega), fun x h1 h2 => (o1 x (by rw [← hz]; exact Nat.lt_of_lt_of_le h1 hS.1)).trans (hS.2.1 x h1 h2), hS.2.2⟩, by rw [z1, List.length_append]; rfl⟩
  rw [← c_app]
  refine (hP.kept hk).app (fun k x hx => ?_)
  have hz : k < 1 := (List.getElem?_eq_some_iff.mp hx).1
  rw [show k = 0 by omega] at hx
  cases hx
  exact ⟨_, hc, (u_born ty Cx.2.2.2.1 hin hKn hkC e1 hty).to hfs⟩
theorem d_new {ci N : Nat} {C : String} {T : u_T} {fs : List Value} {ty : Nat → FieldType} (Cx : s_C G p s args m c own cc) (hin : ∀ w ∈ u_ws C T N, w ∈ wL) (hty : ∀ k, k < N → parseFieldDescriptor (T k).2.2.1 = some (ty k)) (hcl : Cond.classLink own idx C ∈ wL) (hins : Cond.instantiable C N ∈ wL) (hini : Cond.initialized C ∈ wL) (hc : vwCl[ci]? = some (C, T, N)) (hfs : ∀ j, j < N → defaultValue (ty j) = vp_V fs j) (S : c_St G (c_w Wd0 k0 e0 E) H0 H locs) (hj : E.length = j) (hcells : cells + 1 ≤ R.cells) (hslots : slots + N ≤ R.slots) (hdg : decode cc pc = .ok (.new idx, 3))
    (kk : ∀ (H1 : Heap), c_St G (c_w Wd0 k0 e0 (E ++ [.inr (ci, fs)])) H0 H1 locs → W p l e R s m args below meth c H1 locs (cells + 1) (slots + N) Q (F0 m (pc + 3) ls (.ref (G.2.2 + (Wd0.length + j)) :: rest))) : W p l e R s m args below meth c H locs cells slots Q (F0 m pc ls rest) :=
  n_new Cx hin hty hcl hins hini hc hfs S hcells hslots hdg (fun H1 S1 => by rw [c_ln hj]; exact kk H1 (by rw [c_w, List.append_assoc] at S1; exact S1))
theorem ac_uniq {U : State} {a b : ClassId} {n : String} (h1 : U.vm.findClass n = some a) (h2 : U.vm.findClass n = some b) : a = b := Option.some.inj (h1.symm.trans h2)
theorem n_newa {t0 : Nat} {cA0 : ClassId} {atype : ArrayType} {ty : FieldType} {n : Int32} {N' : Nat} {a0 : vp_A} (Cx : s_C G p s args m c own cc) (harr : Cond.arrayClass ty ∈ wL) (hty : newarray.typeOf atype = ty) (ht : (s_tys G)[t0]? = some (cA0, ty)) (ha : ∀ cA : ClassId, vp_cell cA a0 = arrV cA N' (fun _ => defaultValue ty)) (hn : ¬ n < 0) (hN : n.toNatClampNeg = N') (hbytes : N' * componentBytes ty ≤ 536870912) {Wd : List va_E} (S : c_St G Wd H0 H locs) (hcells : cells + 1 ≤ R.cells) (hslots : slots + N' ≤ R.slots) (hdg : decode cc pc = .ok (.newarray atype, 2))
    (kk : ∀ (H1 : Heap), c_St G (Wd ++ [.inl (cA0, a0)]) H0 H1 locs → W p l e R s m args below meth c H1 locs (cells + 1) (slots + N') Q (F0 m (pc + 2) ls (.ref (G.2.2 + Wd.length) :: rest))) : W p l e R s m args below meth c H locs cells slots Q (F0 m pc ls (.int n :: rest)) := by
  subst hty
  obtain ⟨hP, hS, hz⟩ := S
  refine va_newaK Cx.1 Cx.2.1 (Cx.2.2.2.1 _ harr) rfl hdg rfl hn hN hbytes hcells hslots hz fun H1 cA e1 z1 o1 hAr hNm => ?_
  have hcA : cA = cA0 := by
    have h2 := (Cx.2.2.2.2.1.2 t0 _ ht).2
    cases atype <;> exact ac_uniq hNm h2
  subst hcA
  have hk : ∀ (k : Nat) (x : Nat × va_E), (c_idx G.2.2 Wd)[k]? = some x → H1[x.1]? = H[x.1]? := fun k x hx => o1 x.1 (by rw [← hz]; exact (hP k x hx).lt)
  refine kk H1 ⟨?_, ⟨Nat.le_trans hS.1 (by omega), fun x h1 h2 => (o1 x (by rw [← hz]; exact Nat.lt_of_lt_of_le h1 hS.1)).trans (hS.2.1 x h1 h2), hS.2.2⟩, by rw [z1, List.length_append]; rfl⟩
  rw [← c_app]
  refine (hP.kept hk).app (fun k x hx => ?_)
  have hz : k < 1 := (List.getElem?_eq_some_iff.mp hx).1
  rw [show k = 0 by omega] at hx
  cases hx
  show H1[_]? = some (vp_cell _ _)
  rw [ha]
  exact e1
theorem d_newa {t0 : Nat} {cA0 : ClassId} {atype : ArrayType} {ty : FieldType} {n : Int32} {N' : Nat} {a0 : vp_A} (Cx : s_C G p s args m c own cc) (harr : Cond.arrayClass ty ∈ wL) (hty : newarray.typeOf atype = ty) (ht : (s_tys G)[t0]? = some (cA0, ty)) (ha : ∀ cA : ClassId, vp_cell cA a0 = arrV cA N' (fun _ => defaultValue ty)) (hn : ¬ n < 0) (hN : n.toNatClampNeg = N') (hbytes : N' * componentBytes ty ≤ 536870912) (S : c_St G (c_w Wd0 k0 e0 E) H0 H locs) (hj : E.length = j) (hcells : cells + 1 ≤ R.cells) (hslots : slots + N' ≤ R.slots) (hdg : decode cc pc = .ok (.newarray atype, 2))
    (kk : ∀ (H1 : Heap), c_St G (c_w Wd0 k0 e0 (E ++ [.inl (cA0, a0)])) H0 H1 locs → W p l e R s m args below meth c H1 locs (cells + 1) (slots + N') Q (F0 m (pc + 2) ls (.ref (G.2.2 + (Wd0.length + j)) :: rest))) : W p l e R s m args below meth c H locs cells slots Q (F0 m pc ls (.int n :: rest)) :=
  n_newa Cx harr hty ht ha hn hN hbytes S hcells hslots hdg (fun H1 S1 => by rw [c_ln hj]; exact kk H1 (by rw [c_w, List.append_assoc] at S1; exact S1))
theorem d_newq {t0 : Nat} {cA0 : ClassId} {C : String} {n : Int32} {N' : Nat} (Cx : s_C G p s args m c own cc) (hao : va_AO C s) (hcl : Cond.classLink own idx C ∈ wL) (ht : (s_tys G)[t0]? = some (cA0, .object C)) (hn : ¬ n < 0) (hN : n.toNatClampNeg = N') (hbytes : N' * 4 ≤ 536870912) (S : c_St G (c_w Wd0 k0 e0 E) H0 H locs) (hj : E.length = j) (hcells : cells + 1 ≤ R.cells) (hslots : slots + N' ≤ R.slots) (hdg : decode cc pc = .ok (.anewarray idx, 3))
    (kk : ∀ (H1 : Heap), c_St G (c_w Wd0 k0 e0 (E ++ [.inl (cA0, N', .inr (.inr (.inr (.inr (fun _ => none)))))])) H0 H1 locs → W p l e R s m args below meth c H1 locs (cells + 1) (slots + N') Q (F0 m (pc + 3) ls (.ref (G.2.2 + (Wd0.length + j)) :: rest))) : W p l e R s m args below meth c H locs cells slots Q (F0 m pc ls (.int n :: rest)) := by
  subst hN
  obtain ⟨hP, hS, hz⟩ := S
  refine W.anew Cx.1 Cx.2.1 Cx.2.2.1 (Cx.2.2.2.1 _ hcl) (va_AO.use hao) rfl hdg rfl hn hbytes hcells hslots fun cA kA comp f1 f2 f3 f4 => ?_
  generalize hH1 : H.push ({ cls := cA, slots := Array.replicate n.toNatClampNeg .null, vm := .none } : Cell) = H1
  have z1 : H1.size = H.size + 1 := by rw [← hH1, Array.size_push]
  have e1 : H1[H.size]? = some (arrV cA n.toNatClampNeg (fun _ => .null)) := by rw [← hH1, Array.getElem?_push_size, ← arrV_new]
  have o1 : ∀ q : Nat, q < H.size → H1[q]? = H[q]? := fun q hq => by rw [← hH1, Array.getElem?_push, if_neg (Nat.ne_of_lt hq)]
  have hcA : cA = cA0 := by
    obtain ⟨kA0, comp0, g1, g2, g3, g4⟩ := (Cx.2.2.2.2.1.2 t0 _ ht).2
    exact ac_uniq f1 g4
  subst hcA
  have hk : ∀ (k : Nat) (x : Nat × va_E), (c_idx G.2.2 (c_w Wd0 k0 e0 E))[k]? = some x → H1[x.1]? = H[x.1]? := fun k x hx => o1 x.1 ((hP k x hx).lt)
  rw [hz, c_ln hj]
  refine kk H1 ⟨?_, ⟨Nat.le_trans hS.1 (by omega), fun x h1 h2 => (o1 x (Nat.lt_of_lt_of_le h1 hS.1)).trans (hS.2.1 x h1 h2), hS.2.2⟩, by rw [z1, hz, c_ln hj, c_ln (j := j + 1) (by rw [List.length_append, hj]; rfl)]; omega⟩
  rw [c_w, ← List.append_assoc, ← c_app]
  refine (hP.kept hk).app (fun k x hx => ?_)
  have hz1 : k < 1 := (List.getElem?_eq_some_iff.mp hx).1
  rw [show k = 0 by omega] at hx
  cases hx
  show H1[_]? = some (vp_cell _ _)
  rw [vp_cell_q, ← hz]
  exact e1
theorem n_lens {Wd Wd' : List va_E} {k : Nat} {x : va_E} (h : Wd.set k x = Wd') : Wd'.length = Wd.length := by rw [← h, List.length_set]

theorem d_putF {ci N : Nat} {C : String} {T : u_T} {fs fs1 : List Value} {tyf : Nat → FieldType} {ty : FieldType} {v : Value} (Cx : s_C G p s args m c own cc) (hin : ∀ w ∈ u_ws C T N, w ∈ wL) (hty : ∀ k, k < N → parseFieldDescriptor (T k).2.2.1 = some (tyf k)) (hnm : ∀ a, a < N → ∀ b, b < N → a ≠ b → (T a).2.1 ≠ (T b).2.1) (hc : vwCl[ci]? = some (C, T, N)) (jf : Nat) (hjf : jf < N) (hlink : Cond.fieldLink own idx (T jf).1 (T jf).2.1 (T jf).2.2.1 ∈ wL) (hdecl : (T jf).1 = own) (hin2 : meth.name = "<init>") (hfin : (T jf).2.2.2 = true) (hd : parseFieldDescriptor (T jf).2.2.1 = some ty) (hn : narrow ty v = v) (hfit : fits ty v = true) (hl : jf < fs.length) (hf1 : fs.set jf v = fs1)
    (hk0 : k0 < Wd0.length) (S : c_St G (c_w Wd0 k0 (.inr (ci, fs)) E) H0 H locs) (hdg : decode cc pc = .ok (.putfield idx, 3))
    (kk : ∀ (H1 : Heap) (locs1 : List Loc), c_St G (c_w Wd0 k0 (.inr (ci, fs1)) E) H0 H1 locs1 → W p l e R s m args below meth c H1 locs1 cells slots Q (F0 m (pc + 3) ls rest)) : W p l e R s m args below meth c H locs cells slots Q (F0 m pc ls (v :: .ref (G.2.2 + k0) :: rest)) := by
  obtain ⟨hP, hS, hz⟩ := S
  have hat := c_at (s0 := G.2.2) (c_l1 (e := .inr (ci, fs)) (E := E) hk0)
  have hap := va_apart (own := own) Cx.2.2.2.1 hin tyf hty hnm Cx.2.2.2.2.1 hc
  obtain ⟨r, r1, cell, r2, r3, r4, r5⟩ := hP k0 _ hat
  have hr : r = (C, T, N) := Option.some.inj (r1.symm.trans hc)
  subst hr
  obtain ⟨hSl, hfc, kC, hkC, hkind⟩ := Cx.2.2.2.2.1.1 ci _ hc
  obtain ⟨cf, kf, fi, f, hi, hsl⟩ := hSl jf hjf
  have hlay := Cx.2.2.2.1 _ (hin _ (u_in_lay hjf))
  unfold u_lay at hlay
  rw [if_pos hfin] at hlay
  have hst := (u_facts hfc hkC (u_lays Cx.2.2.2.1 hin hjf) hi).1
  have fin_ : ∀ H1 : Heap, H1[G.2.2 + k0]? = some (cell.setSlot f.slot v) → H1.size = H.size → (∀ q, q ≠ G.2.2 + k0 → H1[q]? = H[q]?) → W p l e R s m args below meth c H1 (locs ++ [⟨G.2.2 + k0, f.slot⟩]) cells slots Q (F0 m (pc + 3) ls rest) := by
    intro H1 e1 e2 e3
    rw [hsl] at e1 ⊢
    have hP1 := hP.set (c_D G.2.2 _) hat (e := .inr (ci, fs.set jf v)) ⟨_, hc, t_OB.to (V := updV (vp_V fs) jf v) ⟨_, e1, r3, r4, t_set r5 hap hjf v⟩ (fun j _ => vp_updV_set hl v j)⟩ e3
    rw [c_set, c_s1 hk0, hf1] at hP1
    exact kk H1 _ ⟨hP1, hS.put e2 e3 (Nat.le_add_right _ _), by rw [e2, hz, c_ln rfl, c_ln rfl]⟩
  have hcf : m.cls = cf := by
    obtain ⟨_, _, c', _, _, _, -, -, hf', -, -, -, hown2, -⟩ := Cond.laysFinal_spec hlay
    have z1 : c' = cf := by have := hi.symm.trans hf'; simp at this; exact this.1.symm
    rw [hdecl] at hown2
    rw [← z1]; exact Option.some.inj (Cx.2.2.1.symm.trans hown2)
  exact W.putFinK Cx.1 Cx.2.1 Cx.2.2.1 (Cx.2.2.2.1 _ hlink) hi hst hcf hin2 (by rw [r3]; exact u_fits hfc hkC hkind (Or.inr hlay) hi hd hn hfit) r2 r4 (by rw [hsl]; exact k2_hasslot (r5 jf hjf)) rfl rfl hdg fin_
theorem d_putI {ci N : Nat} {C : String} {T : u_T} {fs fs1 : List Value} {tyf : Nat → FieldType} {ty : FieldType} {v : Value} (Cx : s_C G p s args m c own cc) (hin : ∀ w ∈ u_ws C T N, w ∈ wL) (hty : ∀ k, k < N → parseFieldDescriptor (T k).2.2.1 = some (tyf k)) (hnm : ∀ a, a < N → ∀ b, b < N → a ≠ b → (T a).2.1 ≠ (T b).2.1) (hc : vwCl[ci]? = some (C, T, N)) (jf : Nat) (hjf : jf < N) (hlink : Cond.fieldLink own idx (T jf).1 (T jf).2.1 (T jf).2.2.1 ∈ wL) (hfin : (T jf).2.2.2 = false) (hd : parseFieldDescriptor (T jf).2.2.1 = some ty) (hn : narrow ty v = v) (hfit : fits ty v = true) (hl : jf < fs.length) (hf1 : fs.set jf v = fs1)
    (hk0 : k0 < Wd0.length) (S : c_St G (c_w Wd0 k0 (.inr (ci, fs)) E) H0 H locs) (hdg : decode cc pc = .ok (.putfield idx, 3))
    (kk : ∀ (H1 : Heap) (locs1 : List Loc), c_St G (c_w Wd0 k0 (.inr (ci, fs1)) E) H0 H1 locs1 → W p l e R s m args below meth c H1 locs1 cells slots Q (F0 m (pc + 3) ls rest)) : W p l e R s m args below meth c H locs cells slots Q (F0 m pc ls (v :: .ref (G.2.2 + k0) :: rest)) := by
  obtain ⟨hP, hS, hz⟩ := S
  have hat := c_at (s0 := G.2.2) (c_l1 (e := .inr (ci, fs)) (E := E) hk0)
  have hap := va_apart (own := own) Cx.2.2.2.1 hin tyf hty hnm Cx.2.2.2.2.1 hc
  obtain ⟨r, r1, cell, r2, r3, r4, r5⟩ := hP k0 _ hat
  have hr : r = (C, T, N) := Option.some.inj (r1.symm.trans hc)
  subst hr
  obtain ⟨hSl, hfc, kC, hkC, hkind⟩ := Cx.2.2.2.2.1.1 ci _ hc
  obtain ⟨cf, kf, fi, f, hi, hsl⟩ := hSl jf hjf
  have hlay := Cx.2.2.2.1 _ (hin _ (u_in_lay hjf))
  unfold u_lay at hlay
  rw [if_neg (by rw [hfin]; decide)] at hlay
  have hst := (u_facts hfc hkC (u_lays Cx.2.2.2.1 hin hjf) hi).1
  have fin_ : ∀ H1 : Heap, H1[G.2.2 + k0]? = some (cell.setSlot f.slot v) → H1.size = H.size → (∀ q, q ≠ G.2.2 + k0 → H1[q]? = H[q]?) → W p l e R s m args below meth c H1 (locs ++ [⟨G.2.2 + k0, f.slot⟩]) cells slots Q (F0 m (pc + 3) ls rest) := by
    intro H1 e1 e2 e3
    rw [hsl] at e1 ⊢
    have hP1 := hP.set (c_D G.2.2 _) hat (e := .inr (ci, fs.set jf v)) ⟨_, hc, t_OB.to (V := updV (vp_V fs) jf v) ⟨_, e1, r3, r4, t_set r5 hap hjf v⟩ (fun j _ => vp_updV_set hl v j)⟩ e3
    rw [c_set, c_s1 hk0, hf1] at hP1
    exact kk H1 _ ⟨hP1, hS.put e2 e3 (Nat.le_add_right _ _), by rw [e2, hz, c_ln rfl, c_ln rfl]⟩
  exact W.putK Cx.1 Cx.2.1 (f := f) ⟨Cx.2.2.1, Cx.2.2.2.1 _ hlink, ⟨_, _, _, hi⟩, hst⟩ (by rw [r3]; exact u_store hfc hkC hkind hlay hi hd hn hfit) r2 r4 (by rw [hsl]; exact k2_hasslot (r5 jf hjf)) rfl rfl hdg fin_
theorem d_get {ci N : Nat} {C : String} {T : u_T} {fs : List Value} {v : Value} (Cx : s_C G p s args m c own cc) (hin : ∀ w ∈ u_ws C T N, w ∈ wL) (hc : vwCl[ci]? = some (C, T, N)) (jf : Nat) (hjf : jf < N) (hlink : Cond.fieldLink own idx (T jf).1 (T jf).2.1 (T jf).2.2.1 ∈ wL) (hv : fs[jf]? = some v)
    (hk0 : k0 < Wd0.length) (S : c_St G (c_w Wd0 k0 (.inr (ci, fs)) E) H0 H locs) (hdg : decode cc pc = .ok (.getfield idx, 3))
    (kk : W p l e R s m args below meth c H locs cells slots Q (F0 m (pc + 3) ls (v :: rest))) : W p l e R s m args below meth c H locs cells slots Q (F0 m pc ls (.ref (G.2.2 + k0) :: rest)) :=
  va_get (D := G.1) (cl := vwCl) Cx.1 Cx.2.1 Cx.2.2.2.1 hin Cx.2.2.1 Cx.2.2.2.2.1 S.1 k0 (c_at (c_l1 hk0)) hc jf hjf (Cx.2.2.2.1 _ hlink) (fun _ h => h) hv hdg kk
theorem d_alen {cA : ClassId} {x : vp_A} {ty : FieldType} {v : Int32} (t0 : Nat) (Cx : s_C G p s args m c own cc) (S : c_St G (c_w Wd0 k0 e0 E) H0 H locs) (he : E[j]? = some (.inl (cA, x))) (ht : (s_tys G)[t0]? = some (cA, ty)) (hv : Int32.ofNat x.1 = v) (hdg : decode cc pc = .ok (.arraylength, 1))
    (kk : W p l e R s m args below meth c H locs cells slots Q (F0 m (pc + 1) ls (.int v :: rest))) : W p l e R s m args below meth c H locs cells slots Q (F0 m pc ls (.ref (G.2.2 + (Wd0.length + j)) :: rest)) :=
  va_alen (D := G.1) (cl := vwCl) Cx.1 Cx.2.1 Cx.2.2.2.2.1 S.1 (Wd0.length + j) t0 (c_at (c_l2 he)) ht hv hdg kk
theorem d_aast {cA : ClassId} {n jv ci : Nat} {r : vw_C} {f : Nat → Option Nat} {vs : List Value} {i : Int32} (t0 : Nat) (Cx : s_C G p s args m c own cc) (S : c_St G (c_w Wd0 k0 e0 E) H0 H locs) (he : E[j]? = some (.inl (cA, n, .inr (.inr (.inr (.inr f)))))) (ht : (s_tys G)[t0]? = some (cA, .object r.1)) (hv : E[jv]? = some (.inr (ci, vs))) (hc : vwCl[ci]? = some r) (hin : vp_in i n) (hE : E.set j (.inl (cA, n, .inr (.inr (.inr (.inr (va_up f i.toNatClampNeg (some (G.2.2 + (Wd0.length + jv))))))))) = E1) (hdg : decode cc pc = .ok (.aastore, 1))
    (kk : ∀ (H1 : Heap) (locs1 : List Loc), c_St G (c_w Wd0 k0 e0 E1) H0 H1 locs1 → W p l e R s m args below meth c H1 locs1 cells slots Q (F0 m (pc + 1) ls rest)) : W p l e R s m args below meth c H locs cells slots Q (F0 m pc ls (.ref (G.2.2 + (Wd0.length + jv)) :: .int i :: .ref (G.2.2 + (Wd0.length + j)) :: rest)) := by
  obtain ⟨hP, hS, hz⟩ := S
  have hat := c_at (s0 := G.2.2) (c_l2 (Wd0 := Wd0) (k0 := k0) (e := e0) he)
  have hlt : i.toNatClampNeg < n := Nat.not_le.mp fun q => hin (Or.inr q)
  have h0 : ¬ i < 0 := fun q => hin (Or.inl q)
  obtain ⟨r', hr', cellV, g1, g2, g3, -⟩ := hP _ _ (c_at (s0 := G.2.2) (c_l2 (Wd0 := Wd0) (k0 := k0) (e := e0) hv))
  have hcls := (Cx.2.2.2.2.1.1 ci r hc).2
  obtain ⟨kA, comp, k1, k2, k3, -⟩ := (Cx.2.2.2.2.1.2 t0 _ ht).2
  have hcomp : comp = G.1.1 ci := Option.some.inj (k3.symm.trans hcls.1)
  subst hcomp
  obtain ⟨kC, hkC, -⟩ := hcls.2
  refine W.aast Cx.1 Cx.2.1 (hP _ _ hat) (fun q h => by cases h) (fun h => by cases h) k1 k2 rfl hkC ⟨h0, by show _ < (arrV _ _ _).slots.size; rw [arrV_size]; exact hlt⟩ g1 (fun q h => by rw [g3] at h; cases h) (by rw [g2]; exact hkC) (by rw [g2]; exact va_assign hcls) rfl rfl hdg fun H1 e1 z oq => ?_
  have hP1 := hP.set (c_D G.2.2 _) hat (e := .inl (cA, n, .inr (.inr (.inr (.inr (va_up f i.toNatClampNeg (some (G.2.2 + (Wd0.length + jv))))))))) (by
    show H1[_]? = some (vp_cell _ _)
    rw [e1, vp_cell_q, vp_cell_q, arrV_store]
    congr 2
    funext q
    by_cases hq : q = i.toNatClampNeg
    · subst hq
      simp [updV, va_up, va_rf]
    · simp [updV, va_up, hq]) oq
  rw [c_set, c_s2 hE] at hP1
  refine kk H1 _ ⟨hP1, hS.put z oq (Nat.le_add_right _ _), ?_⟩
  rw [z, hz, c_ln rfl, c_ln rfl, ← hE, List.length_set]
theorem d_iast {cA : ClassId} {n : Nat} {f : Nat → Int32} {i x : Int32} (t0 : Nat) (Cx : s_C G p s args m c own cc) (S : c_St G (c_w Wd0 k0 e0 E) H0 H locs) (he : E[j]? = some (.inl (cA, n, .inl f))) (ht : (s_tys G)[t0]? = some (cA, .int)) (hin : vp_in i n) (hE : E.set j (.inl (cA, n, .inl (upd f i.toNatClampNeg x))) = E1) (hdg : decode cc pc = .ok (.iastore, 1))
    (kk : ∀ (H1 : Heap) (locs1 : List Loc), c_St G (c_w Wd0 k0 e0 E1) H0 H1 locs1 → W p l e R s m args below meth c H1 locs1 cells slots Q (F0 m (pc + 1) ls rest)) : W p l e R s m args below meth c H locs cells slots Q (F0 m pc ls (.int x :: .int i :: .ref (G.2.2 + (Wd0.length + j)) :: rest)) := by
  obtain ⟨hP, hS, hz⟩ := S
  have hat := c_at (s0 := G.2.2) (c_l2 (Wd0 := Wd0) (k0 := k0) (e := e0) he)
  refine W.iast Cx.1 Cx.2.1 (hP _ _ hat) ((Cx.2.2.2.2.1.2 t0 _ ht).1 n (fun j => .int (f j))) (fun q => by cases q) (by show ¬ (i < 0 ∨ (arrV _ _ _).slots.size ≤ _); rw [arrV_size]; exact hin) rfl rfl hdg fun H1 e1 z oq => ?_
  have hP1 := hP.set (c_D G.2.2 _) hat (e := .inl (cA, n, .inl (upd f i.toNatClampNeg x))) (by
    show H1[_]? = some (vp_cell _ _)
    rw [e1, vp_cell_i, vp_cell_i, arrV_store]
    congr 2
    funext q
    by_cases hq : q = i.toNatClampNeg
    · subst hq
      simp [updV, upd]
    · simp [updV, upd, hq]) oq
  rw [c_set, c_s2 hE] at hP1
  refine kk H1 _ ⟨hP1, hS.put z oq (Nat.le_add_right _ _), ?_⟩
  rw [z, hz, c_ln rfl, c_ln rfl, ← hE, List.length_set]
/-- what a constructor's contract says: the world of cells becomes another one -/
def c_Q (G : s_G) (Wd1 : List va_E) : Array Value → State → Outcome → State → Prop := va_Qv (fun _ : Unit => True) (fun _ t => c_B G Wd1 t) (c_A G.2.2)
theorem d_call {y : MethodName} {maxL nL : Nat} {rm : Room} {Wd1 : List va_E} {mc ms : Nat} (Cx : s_C G p s args m c own cc) (hml : c.maxLocals = nL) (hao : c_AO s) (hM : Met l y (wsU y bytes maxL none) rm (va_Pc [.ref (G.2.2 + k)] (c_Pre G Wd0)) (c_Q G Wd1) mc ms (c_A G.2.2)) (hy : s_M y bytes maxL none 0) (him : Cond.instanceMethod y ∈ wL) (hy1 : y.name = "<init>") (hlink : Cond.methodLinkNest own idx y "PhraseReader" ∈ nestW ∨ Cond.methodLink own idx y ∈ wL) (hrm : rm.cells = mc ∧ rm.slots = ms) (hR : rm.frames + 1 ≤ R.frames ∧ 8 + (maxL + 11) + rm.locals ≤ R.locals) (hf : cells + mc ≤ R.cells ∧ slots + ms ≤ R.slots)
    (S : c_St G Wd0 H0 H locs) (hsize : ls.size = nL) (hW : (rest.map fun v => v.category).sum ≤ 8) (hdg : decode cc pc = .ok (.invokespecial idx, 3))
    (kk : ∀ (H1 : Heap) (locs1 : List Loc), c_St G Wd1 H0 H1 locs1 → W p l e R s m args below meth c H1 locs1 (cells + mc) (slots + ms) Q (F0 m (pc + 3) ls rest)) : W p l e R s m args below meth c H locs cells slots Q (F0 m pc ls (.ref (G.2.2 + k) :: rest)) := by
  have hp : PreS s H (va_Pc [.ref (G.2.2 + k)] (c_Pre G Wd0)) [.ref (G.2.2 + k)] := ⟨c_Pre.blind G Wd0 _, fun U hU hW => ⟨rfl, by rw [hU]; exact S.1, by rw [hU]; exact S.2.2, va_K.moved hW.alike Cx.2.2.2.2.1, Cx.2.2.2.2.2.moved hW, va_AO.moved hW.alike hao.1, va_AO.moved hW.alike hao.2⟩⟩
  have hrun : va_Run p l e R s m args below meth c H locs cells slots mc ms (F0 m pc ls (.ref (G.2.2 + k) :: rest)) rest (c_Q G Wd1 [.ref (G.2.2 + k)].toArray) (c_A G.2.2) := by
    rcases hlink with hlink | hlink
    · exact va_runIN (As := []) (rest := rest) (n := 0) ⟨Cx.1, Cx.2.1, hml, Cx.2.2.1, Cx.2.2.2.1⟩ hM ⟨va_cnB 0 Cx.2.2.2.1 (good_U hy) rfl hrm.1 hrm.2 (Cx.2.2.2.2.2 _ hlink) (Cx.2.2.2.1 _ hy.2.1) hy.2.2 hR, hy1, Cx.2.2.2.1 _ him⟩ hp rfl rfl hsize rfl (lv_room hW) hdg hf
    · exact va_runI (As := []) (rest := rest) (n := 0) ⟨Cx.1, Cx.2.1, hml, Cx.2.2.1, Cx.2.2.2.1⟩ hM ⟨callB_of 0 Cx.2.2.2.1 (good_U hy) rfl hrm.1 hrm.2 (Cx.2.2.2.1 _ hy.2.1) (Cx.2.2.2.1 _ hlink) hy.2.2 hR, hy1, Cx.2.2.2.1 _ him⟩ hp rfl rfl hsize rfl (lv_room hW) hdg hf
  exact va_callv hrun S.2.1 (fun _ _ h => h) (fun _ h => h) (fun u t H1 locs1 ht _ _ hB _ _ hS => kk H1 locs1 ⟨by rw [← ht]; exact hB.1, hS, by rw [← ht]; exact hB.2⟩)
theorem d_ret {Wd1 : List va_E} (Cx : s_C G p s args m c own cc) (hr : meth.sig.returnType = none) (hlocks : meth.locks = false) (hdg : decode cc pc = .ok (.return_, 1)) (S : c_St G Wd1 s.heap H locs) : W p l e R s m args below meth c H locs cells slots (MQ below (c_Q G Wd1) args s cells slots (c_A G.2.2)) (F0 m pc ls []) :=
  W.vret Cx.1 Cx.2.1 hr (fun t ht hW => ⟨⟨(), rfl, trivial, by rw [ht]; exact S.1, by rw [ht]; exact S.2.2⟩, S.2.1.F ht⟩) S.2.1.2.2 hdg hlocks
end CONS
