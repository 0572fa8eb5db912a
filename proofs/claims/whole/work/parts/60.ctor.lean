theorem va_AOA.moved {ty : FieldType} {u U : State} (hvm : u.vm.Alike U.vm) (h : va_AOA ty u) : va_AOA ty U := by
  have h2 : (Cond.arrayOver (.array ty)).before #[] (u.setVm U.vm) = true := Cond.overAtom_setVm hvm (Cond.arrayOver (.array ty)) rfl h
  unfold va_AOA
  simp only [Cond.before, Cond.holds, Cond.value] at h2 ⊢
  exact h2
/-- the classes of the arrays of numbers -/
def mA3 (s : State) : Prop := (Cond.arrayClass .int).before #[] s = true ∧ (Cond.arrayClass .boolean).before #[] s = true ∧ (Cond.arrayClass .long).before #[] s = true
theorem mA3.warm {s U : State} (hW : s.WarmedH U.vm) (h : mA3 s) : mA3 U := ⟨word_at hW (Or.inr ⟨_, rfl⟩) h.1, word_at hW (Or.inr ⟨_, rfl⟩) h.2.1, word_at hW (Or.inr ⟨_, rfl⟩) h.2.2⟩
theorem mA3.i {s : State} {args : Array Value} (h : mA3 s) : (Cond.arrayClass .int).before args s = true := word_at (State.WarmedH.refl s) (Or.inr ⟨_, rfl⟩) h.1
theorem mA3.z {s : State} {args : Array Value} (h : mA3 s) : (Cond.arrayClass .boolean).before args s = true := word_at (State.WarmedH.refl s) (Or.inr ⟨_, rfl⟩) h.2.1
theorem mA3.j {s : State} {args : Array Value} (h : mA3 s) : (Cond.arrayClass .long).before args s = true := word_at (State.WarmedH.refl s) (Or.inr ⟨_, rfl⟩) h.2.2
/-! construction: the cells so far, and the object that is being made -/
def gI (j : Nat) : Int32 := if j % 12 = 0 ∨ j % 12 = 11 ∨ 9 ≤ j / 12 then -2 else if j / 12 = 0 then -3 else -1
/-- what all cells hold behind construction -/
def M0 : mM := (fun k j => if k = 8 ∨ k = 40 ∨ k = 71 then gI j else if (k = 76 ∨ k = 77 ∨ k = 78) ∧ j = 3 then -1 else if (k = 80 ∨ k = 82 ∨ k = 84 ∨ k = 86 ∨ k = 88 ∨ k = 90 ∨ k = 92 ∨ k = 94) ∧ j = 0 then -2 else 0, fun _ _ => 0, fun _ => 0)
def oU (O : Nat → Option va_E) (k : Nat) (e : va_E) : Nat → Option va_E := fun j => if j = k then some e else O j
def pW (X : mX) (n : Nat) (O : Nat → Option va_E) : va_W := (List.range n).map (fun k => (X.1 k, (O k).getD (ent X M0 k)))
def pR (X : mX) (s : State) (H : Heap) (n : Nat) (O : Nat → Option va_E) : Prop := va_K X.2.1 vwCl (mTy X) s ∧ va_P X.2.1 vwCl (pW X n O) H ∧ va_D (mL X) (pW X n O) ∧ (∀ k, X.1 k = X.2.2.2.2 + k) ∧ va_AO "CubeFolk$Shelf" s ∧ va_AOA .int s
theorem oU_s {O : Nat → Option va_E} {k : Nat} {e : va_E} : oU O k e k = some e := if_pos rfl
theorem oU_n {O : Nat → Option va_E} {k j : Nat} {e : va_E} (h : j ≠ k) : oU O k e j = O j := if_neg h
theorem pW_at {X : mX} {n k : Nat} {O : Nat → Option va_E} (hk : k < n) : (pW X n O)[k]? = some (X.1 k, (O k).getD (ent X M0 k)) := by simp [pW, hk]
theorem pW_o {X : mX} {n k : Nat} {O : Nat → Option va_E} {e : va_E} (hk : k < n) (h : O k = some e) : (pW X n O)[k]? = some (X.1 k, e) := by rw [pW_at hk, h]; rfl
theorem pW_len {X : mX} {n : Nat} {O : Nat → Option va_E} : (pW X n O).length = n := by simp [pW]
theorem pW_set {X : mX} {n k : Nat} {O : Nat → Option va_E} {e : va_E} (hk : k < n) : (pW X n O).set k (X.1 k, e) = pW X n (oU O k e) := by
  apply List.ext_getElem?
  intro j
  by_cases hj : j = k
  · subst hj
    rw [List.getElem?_set_self (by rw [pW_len]; exact hk), pW_o hk oU_s]
  · rw [List.getElem?_set_ne (fun q => hj q.symm)]
    by_cases h : j < n
    · rw [pW_at h, pW_at h, oU_n hj]
    · rw [List.getElem?_eq_none (by rw [pW_len]; omega), List.getElem?_eq_none (by rw [pW_len]; omega)]
theorem pW_cg {X : mX} {n : Nat} {O O' : Nat → Option va_E} (h : ∀ k, k < n → (O k).getD (ent X M0 k) = (O' k).getD (ent X M0 k)) : pW X n O = pW X n O' := by
  apply List.ext_getElem?
  intro j
  by_cases hj : j < n
  · rw [pW_at hj, pW_at hj, h j hj]
  · rw [List.getElem?_eq_none (by rw [pW_len]; omega), List.getElem?_eq_none (by rw [pW_len]; omega)]
theorem pW_push {X : mX} {n : Nat} {O : Nat → Option va_E} {e : va_E} : pW X n O ++ [(X.1 n, e)] = pW X (n + 1) (oU O n e) := by
  have h1 : pW X (n + 1) (oU O n e) = pW X n (oU O n e) ++ [(X.1 n, ((oU O n e) n).getD (ent X M0 n))] := by
    unfold pW
    rw [List.range_succ, List.map_append]
    rfl
  rw [h1, oU_s]
  rw [pW_cg (O := oU O n e) (O' := O) (fun k hk => by rw [oU_n (Nat.ne_of_lt hk)])]
  rfl
theorem pR.cg {X : mX} {s : State} {H : Heap} {n : Nat} {O O' : Nat → Option va_E} (h : pR X s H n O) (hc : ∀ k, k < n → (O k).getD (ent X M0 k) = (O' k).getD (ent X M0 k)) : pR X s H n O' := by
  obtain ⟨h1, h2, h3, h4⟩ := h
  rw [pW_cg hc] at h2 h3
  exact ⟨h1, h2, h3, h4⟩
/-- a cell that holds what it holds in the end -/
theorem pR.drop {X : mX} {s : State} {H : Heap} {n k : Nat} {O : Nat → Option va_E} {e : va_E} (h : pR X s H n (oU O k e)) (hO : O k = none) (he : ent X M0 k = e) : pR X s H n O := by
  refine h.cg (fun j hj => ?_)
  by_cases q : j = k
  · subst q
    rw [oU_s, hO]
    exact he.symm
  · rw [oU_n q]
theorem pR.uu {X : mX} {s : State} {H : Heap} {n k : Nat} {O : Nat → Option va_E} {e e' : va_E} (h : pR X s H n (oU (oU O k e) k e')) : pR X s H n (oU O k e') := h.cg (fun j _ => by
  by_cases q : j = k
  · subst q; rw [oU_s, oU_s]
  · rw [oU_n q, oU_n q, oU_n q])
theorem pR.sw {X : mX} {s : State} {H : Heap} {n k j : Nat} {O : Nat → Option va_E} {e e' : va_E} (hkj : k ≠ j) (h : pR X s H n (oU (oU O k e) j e')) : pR X s H n (oU (oU O j e') k e) := h.cg (fun i _ => by
  by_cases q : i = k
  · subst q; rw [oU_n hkj, oU_s, oU_s]
  · by_cases q2 : i = j
    · subst q2; rw [oU_s, oU_n q, oU_s]
    · rw [oU_n q2, oU_n q, oU_n q, oU_n q2])
theorem pR.moved {X : mX} {u U : State} {H : Heap} {n : Nat} {O : Nat → Option va_E} (hvm : u.vm.Alike U.vm) (h : pR X u H n O) : pR X U H n O := ⟨va_K.moved hvm h.1, h.2.1, h.2.2.1, h.2.2.2.1, va_AO.moved hvm h.2.2.2.2.1, va_AOA.moved hvm h.2.2.2.2.2⟩
theorem pR.all {X : mX} {s : State} {H : Heap} {O : Nat → Option va_E} (h : pR X s H 118 O) (hO : ∀ k, O k = none) : mR X s H M0 := by
  have e : pW X 118 O = mW X M0 := by
    unfold pW mW
    apply List.map_congr_left
    intro k _
    rw [hO]
    rfl
  obtain ⟨h1, h2, h3, -⟩ := h
  rw [e] at h2 h3
  exact ⟨h1, h2, h3⟩
def pPre (X : mX) (n : Nat) (O : Nat → Option va_E) : State → Prop := fun U => mF X U U.heap ∧ mA3 U ∧ U.heap.size = X.1 n ∧ pR X U U.heap n O
def pQ (X : mX) (n : Nat) (O : Nat → Option va_E) : Array Value → State → Outcome → State → Prop := va_Qv (fun (_ : Unit) => True) (fun _ t => pR X t t.heap n O) (mL X)
def pRm (f nn mc ms : Nat) : Room := { frames := f, cells := mc, slots := ms, locals := nn }
/-- a constructor: the cell k, the last one made, is its object, with nothing in it; behind it there are n cells -/
def pM (l : Launch) (y : MethodName) (cc : ByteArray) (nL f nn mc ms : Nat) (X : mX) (As : List Value) (O : Nat → Option va_E) (k n : Nat) (e : va_E) : Prop :=
  Met l y [Cond.code y cc nL none] (pRm f nn mc ms) (va_Pc As (pPre X (k + 1) (oU O k e))) (pQ X n O) mc ms (mL X)
theorem arrV_ext {c : ClassId} {n : Nat} {f g : Nat → Value} (h : ∀ j, j < n → f j = g j) : arrV c n f = arrV c n g := by
  unfold arrV
  congr 1
  apply Array.ext
  · simp
  · intro i h1 h2
    have hi : i < n := by simpa using h1
    simpa using h i hi
section PC
variable {p : Program} {l : Launch} {e : Env} {R : Room} {s : State} {m : MethodId} {args : Array Value} {below : List Frame} {meth : Method} {c : Code} {H : Heap} {locs : List Loc} {cells slots : Nat} {Q : State → Prop}
variable {cc : ByteArray} {pc nL : Nat} {ls : Array Slot} {st0 rest : List Value} {X : mX} {k n : Nat} {O : Nat → Option va_E} {en : va_E}
/-- how many cells there are -/
theorem p_sz {n0 : Nat} {g : JFrame} (hs0 : s.heap.size = X.1 n0) (hn : n0 + cells = n) (hn1 : 0 < n ∨ H.size = X.1 n) (hR : pR X s H n O) (kk : H.size = X.1 n → W p l e R s m args below meth c H locs cells slots Q g) : W p l e R s m args below meth c H locs cells slots Q g := by
  intro T hT Y
  have h1 : H.size ≤ s.heap.size + cells := by rw [← hT]; exact Y.heapSize
  have h5 := hR.2.2.2.1
  have h2 : X.1 n ≤ H.size := by
    rcases hn1 with hn1 | hn1
    · have := (hR.2.1 (n - 1) _ (pW_at (by omega))).lt
      have : X.1 (n - 1) < H.size := this
      rw [h5] at this ⊢
      omega
    · exact Nat.le_of_eq hn1.symm
  exact kk (by rw [hs0, h5] at h1; rw [h5] at h2 ⊢; omega) T hT Y
/-- new: one cell more -/
theorem p_new (hx : p.tables.exec = Jvm.exec) (hb : c.code = cc) (hF : mF X s s.heap) {own : String} (hown : s.vm.findClass own = some m.cls) (hz : H.size = X.1 n) (hR : pR X s H n O) (hS : va_S (mL X) s.heap H locs) {ci index : Nat} {C : String} {T : u_T} {N : Nat} (hc : vwCl[ci]? = some (C, T, N)) {ty : Nat → FieldType} (hty : ∀ k, k < N → parseFieldDescriptor (T k).2.2.1 = some (ty k)) {fs : List Value} (hfs : ∀ j, j < N → defaultValue (ty j) = vp_V fs j) (hcl : mGw (.classLink own index C)) (hinst : mGw (.instantiable C N)) (hini : mGw (.initialized C)) (hcells : cells + 1 ≤ R.cells) (hslots : slots + N ≤ R.slots) (hdg : decode cc pc = .ok (.new index, 3))
    (kk : ∀ (H : Heap), H.size = X.1 (n + 1) → pR X s H (n + 1) (oU O n (.inr (ci, fs))) → va_S (mL X) s.heap H locs → W p l e R s m args below meth c H locs (cells + 1) (slots + N) Q (F0 m (pc + 3) ls (.ref (X.1 n) :: rest))) : W p l e R s m args below meth c H locs cells slots Q (F0 m pc ls rest) := by
  obtain ⟨hK, hP, hD, hb5, hAO, hAA⟩ := hR
  have hKn := hK.1 ci _ hc
  refine W.newcK hx hb hown (hF.w hcl) (hF.w hinst) (hF.w hini) rfl hdg hcells hslots hKn.2.1 hz fun H1 kC hkC e1 z1 o1 => ?_
  rw [← hz] at o1
  have hk : ∀ (k : Nat) (x : Nat × va_E), (pW X n O)[k]? = some x → H1[x.1]? = H[x.1]? := fun k x hx => o1 x.1 ((hP k x hx).lt)
  have hP1 : va_P X.2.1 vwCl (pW X n O ++ [(X.1 n, .inr (ci, fs))]) H1 := (hP.kept hk).app (fun k x hx => by
    have hz : k < 1 := (List.getElem?_eq_some_iff.mp hx).1
    rw [show k = 0 by omega] at hx
    cases hx
    exact ⟨_, hc, (u_born ty (mLw (args := args) hF hc) (fun _ h => h) hKn hkC e1 hty).to hfs⟩)
  have hD1 := hD.push (e := .inr (ci, fs)) (a := X.1 n) hP hz.symm (by show X.2.2.2.2 ≤ _; rw [hb5 n]; omega)
  rw [pW_push] at hP1 hD1
  exact kk H1 (by rw [z1, hb5, hb5]; omega) ⟨hK, hP1, hD1, hb5, hAO, hAA⟩ ⟨Nat.le_trans hS.1 (by omega), fun x h1 h2 => (o1 x (Nat.lt_of_lt_of_le h1 hS.1)).trans (hS.2.1 x h1 h2), hS.2.2⟩
/-- a new array of numbers, at the next cell -/
theorem p_newa (hx : p.tables.exec = Jvm.exec) (hb : c.code = cc) (hz : H.size = X.1 n) (hR : pR X s H n O) (hS : va_S (mL X) s.heap H locs) {atype : ArrayType} (harr : (Cond.arrayClass (newarray.typeOf atype)).before args s = true) {ty : FieldType} (hty : newarray.typeOf atype = ty) (t0 : Nat) {cy : ClassId} (ht : (mTy X)[t0]? = some (cy, ty)) (hra : va_RA s cy ty → s.vm.findClass ("[" ++ ty.toString) = some cy) {a0 : vp_A} {N : Nat} {v : Int32}
    (ha : ∀ cA : ClassId, vp_cell cA a0 = arrV cA N (fun _ => defaultValue ty)) (hv : ¬ v < 0) (hN : v.toNatClampNeg = N) (hbytes : N * componentBytes ty ≤ 536870912) (hcells : cells + 1 ≤ R.cells) (hslots : slots + N ≤ R.slots) (hdg : decode cc pc = .ok (.newarray atype, 2))
    (kk : ∀ (H : Heap), H.size = X.1 (n + 1) → pR X s H (n + 1) (oU O n (.inl (cy, a0))) → va_S (mL X) s.heap H locs → W p l e R s m args below meth c H locs (cells + 1) (slots + N) Q (F0 m (pc + 2) ls (.ref (X.1 n) :: rest))) : W p l e R s m args below meth c H locs cells slots Q (F0 m pc ls (.int v :: rest)) := by
  obtain ⟨hK, hP, hD, hb5, hAO, hAA⟩ := hR
  subst hty
  refine va_newaK hx hb harr rfl hdg rfl hv hN hbytes hcells hslots hz fun H1 cA e1 z1 o1 hAr hNm => ?_
  rw [← hz] at o1
  have hcA : cA = cy := Option.some.inj (hNm.symm.trans (hra (hK.2 t0 _ ht).2))
  subst hcA
  have hk : ∀ (k : Nat) (x : Nat × va_E), (pW X n O)[k]? = some x → H1[x.1]? = H[x.1]? := fun k x hx => o1 x.1 ((hP k x hx).lt)
  have hP1 : va_P X.2.1 vwCl (pW X n O ++ [(X.1 n, .inl (cA, a0))]) H1 := (hP.kept hk).app (fun k x hx => by
    have hz : k < 1 := (List.getElem?_eq_some_iff.mp hx).1
    rw [show k = 0 by omega] at hx
    cases hx
    show H1[X.1 n]? = some (vp_cell cA a0)
    rw [ha]
    exact e1)
  have hD1 := hD.push (e := .inl (cA, a0)) (a := X.1 n) hP hz.symm (by show X.2.2.2.2 ≤ _; rw [hb5 n]; omega)
  rw [pW_push] at hP1 hD1
  exact kk H1 (by rw [z1, hb5, hb5]; omega) ⟨hK, hP1, hD1, hb5, hAO, hAA⟩ ⟨Nat.le_trans hS.1 (by omega), fun x h1 h2 => (o1 x (Nat.lt_of_lt_of_le h1 hS.1)).trans (hS.2.1 x h1 h2), hS.2.2⟩
/-- a new row of SHELVES, all null -/
theorem p_newS {f : Nat → Option Nat} (hx : p.tables.exec = Jvm.exec) (hb : c.code = cc) (hF : mF X s s.heap) {own : String} (hown : s.vm.findClass own = some m.cls) (hz : H.size = X.1 n) (hR : pR X s H n O) (hS : va_S (mL X) s.heap H locs) (hA : ∀ q, s.heap.size ≤ q → mL X q) {index : Nat} (hcl : mGw (.classLink own index "CubeFolk$Shelf")) {v : Int32} {N : Nat} (hfn : ∀ j, j < N → f j = none) (hv : ¬ v < 0) (hN : v.toNatClampNeg = N) (hbytes : N * 4 ≤ 536870912) (hcells : cells + 1 ≤ R.cells) (hslots : slots + N ≤ R.slots) (hdg : decode cc pc = .ok (.anewarray index, 3))
    (kk : ∀ (H : Heap), H.size = X.1 (n + 1) → pR X s H (n + 1) (oU O n (.inl (X.2.2.1 3, N, .inr (.inr (.inr (.inr f)))))) → va_S (mL X) s.heap H locs → W p l e R s m args below meth c H locs (cells + 1) (slots + N) Q (F0 m (pc + 3) ls (.ref (X.1 n) :: rest))) : W p l e R s m args below meth c H locs cells slots Q (F0 m pc ls (.int v :: rest)) := by
  obtain ⟨hK, hP, hD, hb5, hAO, hAA⟩ := hR
  subst hN
  refine W.anew hx hb hown (hF.w hcl) (va_AO.use hAO) rfl hdg rfl hv hbytes hcells hslots fun cA kA comp f1 f2 f3 f4 => ?_
  rw [hz]
  generalize hH1 : H.push ({ cls := cA, slots := Array.replicate v.toNatClampNeg .null, vm := .none } : Cell) = H1
  have z1 : H1.size = H.size + 1 := by rw [← hH1, Array.size_push]
  have e1 : H1[H.size]? = some (arrV cA v.toNatClampNeg (fun _ => .null)) := by rw [← hH1, Array.getElem?_push_size, ← arrV_new]
  have o1 : ∀ q : Nat, q < H.size → H1[q]? = H[q]? := fun q hq => by rw [← hH1, Array.getElem?_push, if_neg (Nat.ne_of_lt hq)]
  have hcA : cA = X.2.2.1 3 := by
    obtain ⟨_, kA9, comp9, g1, g2, g3, g4⟩ := hK.2 3 _ rfl
    exact Option.some.inj (f1.symm.trans g4)
  subst hcA
  have hk : ∀ (k : Nat) (x : Nat × va_E), (pW X n O)[k]? = some x → H1[x.1]? = H[x.1]? := fun k x hx => o1 x.1 ((hP k x hx).lt)
  have hP1 : va_P X.2.1 vwCl (pW X n O ++ [(X.1 n, .inl (X.2.2.1 3, v.toNatClampNeg, .inr (.inr (.inr (.inr f)))))]) H1 := (hP.kept hk).app (fun k x hx => by
    have hz9 : k < 1 := (List.getElem?_eq_some_iff.mp hx).1
    rw [show k = 0 by omega] at hx
    cases hx
    show H1[X.1 n]? = some (vp_cell _ _)
    rw [vp_cell_q, ← hz, e1]
    exact congrArg some (arrV_ext (fun j hj => by rw [hfn j hj]; rfl)))
  have hD1 := hD.push (e := .inl (X.2.2.1 3, v.toNatClampNeg, .inr (.inr (.inr (.inr f))))) (a := X.1 n) hP hz.symm (by show X.2.2.2.2 ≤ _; rw [hb5 n]; omega)
  rw [pW_push] at hP1 hD1
  exact kk H1 (by rw [z1, hz, hb5, hb5]; omega) ⟨hK, hP1, hD1, hb5, hAO, hAA⟩ ⟨Nat.le_trans hS.1 (by omega), fun x h1 h2 => (o1 x (Nat.lt_of_lt_of_le h1 hS.1)).trans (hS.2.1 x h1 h2), hS.2.2⟩
/-- new int[8][90]: nine cells more, all as in the end -/
theorem p_mna (hx : p.tables.exec = Jvm.exec) (hb : c.code = cc) (hF : mF X s s.heap) {own : String} (hown : s.vm.findClass own = some m.cls) (hz : H.size = X.1 n) (hR : pR X s H n O) (hS : va_S (mL X) s.heap H locs) {index : Nat} (hcl : mGw (.classLink own index ("[" ++ (FieldType.array .int).toString))) (harr : (Cond.arrayClass .int).before args s = true) (hO : ∀ j, n ≤ j → O j = none) (hn1 : ent X M0 n = .inl (X.2.2.1 4, 8, .inr (.inr (.inr (.inr (fun j => some (X.1 (n + 1 + j)))))))) (hn2 : ∀ i, i < 8 → ent X M0 (n + 1 + i) = .inl (X.2.2.1 0, 90, .inl (fun _ => 0))) (hcells : cells + 9 ≤ R.cells) (hslots : slots + 728 ≤ R.slots) (hdg : decode cc pc = .ok (.multianewarray index 2, 4))
    (kk : ∀ (H : Heap), H.size = X.1 (n + 9) → pR X s H (n + 9) O → va_S (mL X) s.heap H locs → W p l e R s m args below meth c H locs (cells + 9) (slots + 728) Q (F0 m (pc + 4) ls (.ref (X.1 n) :: rest))) : W p l e R s m args below meth c H locs cells slots Q (F0 m pc ls (.int 90 :: .int 8 :: rest)) := by
  obtain ⟨hK, hP, hD, hb5, hAO, hAA⟩ := hR
  intro T hT Xs
  have e8 : (8 : Int32).toNatClampNeg = 8 := by decide
  have e90 : (90 : Int32).toNatClampNeg = 90 := by decide
  obtain ⟨vm₁, cA, comp, -, fA, fC, hO9, -, X', step⟩ := Xs.multianewarray2F hx hown (hF.w hcl) (va_AOA.use hAA) harr (g := F0 m pc ls (.int 90 :: .int 8 :: rest)) rfl (by rw [hb]; exact hdg) rfl (by decide) (by decide) (by decide) (by decide) (by decide) rfl rfl hcells hslots
  have hcy : s.vm.findClass ("[" ++ FieldType.int.toString) = some (X.2.2.1 0) := (hK.2 0 _ rfl).2
  have ec : some (X.2.2.1 0) = some comp := hcy.symm.trans fC
  cases ec
  have hcA : cA = X.2.2.1 4 := by
    have g4 : s.vm.findClass ("[" ++ (FieldType.array .int).toString) = some (X.2.2.1 4) := (hK.2 4 _ rfl).2
    exact Option.some.inj (fA.symm.trans g4)
  subst hcA
  generalize hF9 : Jvm.Free.Multi.fill (T.setVm vm₁) (X.2.2.1 4) (X.2.2.1 0) (8 : Int32).toNatClampNeg (90 : Int32).toNatClampNeg (defaultValue .int) (8 : Int32).toNatClampNeg = F at X' step
  have hTh : (T.setVm vm₁).heap = H := hT
  obtain ⟨f1, f2, -, -⟩ := Jvm.Free.Multi.fill_facts (T.setVm vm₁) (X.2.2.1 4) (X.2.2.1 0) (8 : Int32).toNatClampNeg (90 : Int32).toNatClampNeg (defaultValue .int) (8 : Int32).toNatClampNeg
  rw [hF9, hTh] at f1 f2
  have hold : ∀ x : Nat, x < H.size → F.heap[x]? = H[x]? := fun x hx => by
    have := Jvm.Free.Multi.fill_old (T.setVm vm₁) (X.2.2.1 4) (X.2.2.1 0) (8 : Int32).toNatClampNeg (90 : Int32).toNatClampNeg (defaultValue .int) (a := x) (by rw [hTh]; exact hx) (8 : Int32).toNatClampNeg
    rw [hF9, hTh] at this
    exact this
  have hrow : ∀ j : Nat, j < 8 → F.heap[H.size + 1 + j]? = some (vp_cell (X.2.2.1 0) (90, .inl (fun _ => 0))) := fun j hj => by
    have := Jvm.Free.Multi.fill_inner (T.setVm vm₁) (X.2.2.1 4) (X.2.2.1 0) (8 : Int32).toNatClampNeg (90 : Int32).toNatClampNeg (defaultValue .int) (8 : Int32).toNatClampNeg j hj
    rw [hF9, hTh] at this
    rw [this, vp_cell_i, ← arrV_new]
    rfl
  have hout : Jvm.Free.Multi.outerC (X.2.2.1 4) (8 : Int32).toNatClampNeg H.size (8 : Int32).toNatClampNeg = arrV (X.2.2.1 4) 8 (fun j => va_rf (if j < 8 then some (H.size + 1 + j) else none)) := vr_outer (X.2.2.1 4) 8 H.size 8
  have hsz : F.heap.size = X.1 (n + 9) := by rw [f1, hz, hb5, hb5]; omega
  have hP1 : va_P X.2.1 vwCl (pW X (n + 9) O) F.heap := by
    intro k q hq
    have hk9 : k < n + 9 := by
      have := (List.getElem?_eq_some_iff.mp hq).1
      rw [pW_len] at this
      exact this
    rw [pW_at hk9] at hq
    cases hq
    rcases Nat.lt_or_ge k n with h1 | h1
    · have h3 := hP k _ (pW_at h1)
      exact h3.kept (hold _ h3.lt)
    · rw [hO k h1]
      show va_at X.2.1 vwCl (X.1 k, ent X M0 k) F.heap
      rcases Nat.eq_or_lt_of_le h1 with h2 | h2
      · subst h2
        rw [hn1]
        show F.heap[X.1 n]? = some (vp_cell _ _)
        rw [← hz, f2, hout, vp_cell_q]
        exact congrArg some (arrV_ext (fun i hi8 => by
          rw [if_pos hi8, hz]
          show Value.ref (X.1 n + 1 + i) = Value.ref (X.1 (n + 1 + i))
          rw [hb5 n, hb5 (n + 1 + i)]
          exact congrArg Value.ref (show (X.2.2.2.2 + n + 1 + i : Nat) = X.2.2.2.2 + (n + 1 + i) by omega)))
      · have hi : k = n + 1 + (k - n - 1) := by omega
        have hi8 : k - n - 1 < 8 := by omega
        rw [hi, hn2 _ hi8]
        show F.heap[X.1 (n + 1 + (k - n - 1))]? = some (vp_cell _ _)
        have := hrow _ hi8
        rw [show X.1 (n + 1 + (k - n - 1)) = H.size + 1 + (k - n - 1) by rw [hz, hb5, hb5]; omega]
        exact this
  have hD1 : va_D (mL X) (pW X (n + 9) O) := by
    refine ⟨fun i j a b hi hj hab => ?_, fun k q hq => ?_⟩
    · have hi9 : i < n + 9 := by have := (List.getElem?_eq_some_iff.mp hi).1; rw [pW_len] at this; exact this
      have hj9 : j < n + 9 := by have := (List.getElem?_eq_some_iff.mp hj).1; rw [pW_len] at this; exact this
      rw [pW_at hi9] at hi
      rw [pW_at hj9] at hj
      cases hi
      cases hj
      have : X.1 i = X.1 j := hab
      rw [hb5, hb5] at this
      omega
    · have hk9 : k < n + 9 := by have := (List.getElem?_eq_some_iff.mp hq).1; rw [pW_len] at this; exact this
      rw [pW_at hk9] at hq
      cases hq
      show X.2.2.2.2 ≤ X.1 k
      rw [hb5]
      omega
  obtain ⟨t, a1, b1⟩ := kk F.heap hsz ⟨hK, hP1, hD1, hb5, hAO, hAA⟩ ⟨by rw [f1]; have := hS.1; omega, fun x h1 h2 => (hold x (Nat.lt_of_lt_of_le h1 hS.1)).trans (hS.2.1 x h1 h2), hS.2.2⟩ F rfl X'
  refine ⟨t, step t ?_, b1⟩
  have e : T.heap.size = X.1 n := by rw [hT, hz]
  rw [e]
  exact a1
/-- fields of the object that is being made -/
theorem p_putF (hx : p.tables.exec = Jvm.exec) (hb : c.code = cc) (hF : mF X s s.heap) {own : String} (hown : s.vm.findClass own = some m.cls) (hR : pR X s H n (oU O k en)) (hS : va_S (mL X) s.heap H locs) (hkn : k < n) {ci index : Nat} {C : String} {T : u_T} {N : Nat} {fs : List Value} (he : en = .inr (ci, fs)) (hc : vwCl[ci]? = some (C, T, N)) {ty0 : Nat → FieldType} (hty : ∀ k, k < N → parseFieldDescriptor (T k).2.2.1 = some (ty0 k)) (hnm : ∀ a, a < N → ∀ b, b < N → a ≠ b → (T a).2.1 ≠ (T b).2.1) (j : Nat) (hj : j < N) {v : Value} {ref : String} (hlink : mGw (Cond.fieldLink own index ref (T j).2.1 (T j).2.2.1)) (href : ref = (T j).1) (hfin : (T j).2.2.2 = true) (hin2 : meth.name = "<init>") (hdecl : (T j).1 = own) {ty : FieldType} (hd : ty0 j = ty) (hn : narrow ty v = v) (hfit : fits ty v = true) (hl : j < fs.length) (hdg : decode cc pc = .ok (.putfield index, 3))
    (kk : ∀ (H : Heap) (locs : List Loc), pR X s H n (oU O k (.inr (ci, fs.set j v))) → va_S (mL X) s.heap H locs → W p l e R s m args below meth c H locs cells slots Q (F0 m (pc + 3) ls rest)) : W p l e R s m args below meth c H locs cells slots Q (F0 m pc ls (v :: .ref (X.1 k) :: rest)) := by
  subst href
  subst hd
  subst he
  obtain ⟨hK, hP, hD, hb5, hAO, hAA⟩ := hR
  refine va_putF hx hb (mLw (args := args) hF hc) (fun _ h => h) ty0 hty hnm hown hK hP hD hS k (pW_o hkn oU_s) hc j hj (hF.w hlink) (fun _ h => h) hfin hin2 hdecl (hty j hj) hn hfit hl hdg (fun H1 locs1 hP1 hD1 hS1 => ?_)
  rw [pW_set hkn] at hP1 hD1
  exact kk H1 locs1 (pR.uu (e := .inr (ci, fs)) ⟨hK, hP1, hD1, hb5, hAO, hAA⟩) hS1
theorem p_put (hx : p.tables.exec = Jvm.exec) (hb : c.code = cc) (hF : mF X s s.heap) {own : String} (hown : s.vm.findClass own = some m.cls) (hR : pR X s H n (oU O k en)) (hS : va_S (mL X) s.heap H locs) (hkn : k < n) {ci index : Nat} {C : String} {T : u_T} {N : Nat} {fs : List Value} (he : en = .inr (ci, fs)) (hc : vwCl[ci]? = some (C, T, N)) {ty0 : Nat → FieldType} (hty : ∀ k, k < N → parseFieldDescriptor (T k).2.2.1 = some (ty0 k)) (hnm : ∀ a, a < N → ∀ b, b < N → a ≠ b → (T a).2.1 ≠ (T b).2.1) (j : Nat) (hj : j < N) {v : Value} {ref : String} (hlink : mGw (Cond.fieldLink own index ref (T j).2.1 (T j).2.2.1)) (href : ref = (T j).1) (hfin : (T j).2.2.2 = false) {ty : FieldType} (hd : ty0 j = ty) (hn : narrow ty v = v) (hfit : fits ty v = true) (hl : j < fs.length) (hdg : decode cc pc = .ok (.putfield index, 3))
    (kk : ∀ (H : Heap) (locs : List Loc), pR X s H n (oU O k (.inr (ci, fs.set j v))) → va_S (mL X) s.heap H locs → W p l e R s m args below meth c H locs cells slots Q (F0 m (pc + 3) ls rest)) : W p l e R s m args below meth c H locs cells slots Q (F0 m pc ls (v :: .ref (X.1 k) :: rest)) := by
  subst href
  subst hd
  subst he
  obtain ⟨hK, hP, hD, hb5, hAO, hAA⟩ := hR
  refine va_put hx hb (mLw (args := args) hF hc) (fun _ h => h) ty0 hty hnm hown hK hP hD hS k (pW_o hkn oU_s) hc j hj (hF.w hlink) (fun _ h => h) hfin (hty j hj) hn hfit hl hdg (fun H1 locs1 hP1 hD1 hS1 => ?_)
  rw [pW_set hkn] at hP1 hD1
  exact kk H1 locs1 (pR.uu (e := .inr (ci, fs)) ⟨hK, hP1, hD1, hb5, hAO, hAA⟩) hS1
theorem p_get (hx : p.tables.exec = Jvm.exec) (hb : c.code = cc) (hF : mF X s s.heap) {own : String} (hown : s.vm.findClass own = some m.cls) (hR : pR X s H n O) (hkn : k < n) {ci index : Nat} {C : String} {T : u_T} {N : Nat} {fs : List Value} (he : O k = some (.inr (ci, fs))) (hc : vwCl[ci]? = some (C, T, N)) (j : Nat) (hj : j < N) {ref : String} (hlink : mGw (Cond.fieldLink own index ref (T j).2.1 (T j).2.2.1)) (href : ref = (T j).1) {v : Value} (hv : fs[j]? = some v) (hdg : decode cc pc = .ok (.getfield index, 3))
    (kk : W p l e R s m args below meth c H locs cells slots Q (F0 m (pc + 3) ls (v :: rest))) : W p l e R s m args below meth c H locs cells slots Q (F0 m pc ls (.ref (X.1 k) :: rest)) := by
  subst href
  exact va_get hx hb (mLw (args := args) hF hc) (fun _ h => h) hown hR.1 hR.2.1 k (pW_o hkn he) hc j hj (hF.w hlink) (fun _ h => h) hv hdg kk
theorem p_obj (hx : p.tables.exec = Jvm.exec) (hb : c.code = cc) (hml : c.maxLocals = nL) (hF : mF X s s.heap) {own : String} (hown : s.vm.findClass own = some m.cls) {idx : Nat} (hlink : mGw (.methodLink own idx objectInit)) (h2 : mGw (.instanceMethod objectInit)) (h3 : mGw (.code objectInit ⟨#[0xb1]⟩ 1 none)) (hl : ls.size = nL) {a : Nat} (hdg : decode cc pc = .ok (.invokespecial idx, 3)) (hf : 1 ≤ R.frames) (hlo : 2 * (F0 m pc ls rest).monitorRoom + (rest.map fun v => v.category).sum + 12 ≤ R.locals)
    (kk : W p l e R s m args below meth c H locs cells slots Q (F0 m (pc + 3) ls rest)) : W p l e R s m args below meth c H locs cells slots Q (F0 m pc ls (.ref a :: rest)) :=
  W.objInit hx hb hown (hF.w hlink) (hF.w h2) (hF.w h3) rfl (by rw [hml]; exact hl) rfl hdg hf hlo kk
end PC
theorem pR.uu' {X : mX} {s : State} {H : Heap} {n k j : Nat} {O : Nat → Option va_E} {e1 e2 e3 : va_E} (h : pR X s H n (oU (oU (oU O j e1) j e2) k e3)) : pR X s H n (oU (oU O j e2) k e3) := h.cg (fun i _ => by
  by_cases q : i = k
  · subst q; rw [oU_s, oU_s]
  · rw [oU_n q, oU_n q]
    by_cases q2 : i = j
    · subst q2; rw [oU_s, oU_s]
    · rw [oU_n q2, oU_n q2, oU_n q2])
section PD
variable {p : Program} {l : Launch} {e : Env} {R : Room} {s : State} {m : MethodId} {args : Array Value} {below : List Frame} {meth : Method} {c : Code} {H : Heap} {locs : List Loc} {cells slots : Nat} {Q : State → Prop}
variable {cc : ByteArray} {pc nL : Nat} {ls : Array Slot} {st0 rest : List Value} {X : mX} {k n : Nat} {O : Nat → Option va_E} {en : va_E}
theorem pPre_blind {As : List Value} : FrameBlind (va_Pc As (pPre X n O)) := fun a U g mk q => by
  obtain ⟨q1, q2, q3, q4, q5⟩ := q
  exact ⟨q1, mF.same (s := U) (U := U.calling g mk a) q2 rfl rfl, mA3.warm (State.WarmedH.refl U) q3, q4, pR.moved (u := U) (U := U.calling g mk a) (Vm.Alike.refl U.vm) q5⟩
theorem pPre_at {As : List Value} (hF : mF X s s.heap) (hA : mA3 s) (hz : H.size = X.1 n) (hR : pR X s H n O) (hS : va_S (mL X) s.heap H locs) : ∀ U : State, U.heap = H → s.WarmedH U.vm → va_Pc As (pPre X n O) As.toArray U := fun U hU hW =>
  ⟨rfl, hF.call hS hU hW, hA.warm hW, by rw [hU]; exact hz, by rw [hU]; exact hR.moved hW.alike⟩
variable {y : MethodName} {bytes : ByteArray} {maxL na index f n0 mc ms n1 n' a9 : Nat} {O1 : Nat → Option va_E} {As : List Value} {own : String}
theorem p_fin {args' : Array Value} (hr : va_Run p l e R s m args below meth c H locs cells slots mc ms (F0 m pc ls st0) rest (pQ X n' O args') (mL X)) (hS : va_S (mL X) s.heap H locs)
    (kk : ∀ (H : Heap) (locs : List Loc), pR X s H n' O → va_S (mL X) s.heap H locs → W p l e R s m args below meth c H locs (cells + mc) (slots + ms) Q (F0 m (pc + 3) ls rest)) : W p l e R s m args below meth c H locs cells slots Q (F0 m pc ls st0) :=
  va_callv hr hS (fun _ _ h => h) (fun _ h => h) (fun u t H1 locs1 ht hv hp hB _ _ hS1 => kk H1 locs1 (by rw [ht] at hB; exact hB.moved hv.symm) hS1)
/-- a constructor is called -/
theorem p_callI (hx : p.tables.exec = Jvm.exec) (hb : c.code = cc) (hml : c.maxLocals = nL) (hown : s.vm.findClass own = some m.cls) (hF : mF X s s.heap) (hA : mA3 s) (hz : H.size = X.1 n1) (hR : pR X s H n1 O1) (hS : va_S (mL X) s.heap H locs) (hM : Met l y [Cond.code y bytes maxL none] (pRm f n0 mc ms) (va_Pc (.ref a9 :: As) (pPre X n1 O1)) (pQ X n' O) mc ms (mL X))
    (h1 : mGw (Cond.code y bytes maxL none)) (h2 : mGw (.initialized y.cls)) (h3 : mGw (.instanceMethod y)) (h4 : mGw (.methodLink own index y)) (hy1 : y.name = "<init>") (hd : y.cls ≠ "java/lang/invoke/MethodHandle" ∧ y.cls ≠ "java/lang/invoke/VarHandle" ∧ (parseMethodDescriptor y.desc).map (fun d => d.parameters.length) = some na)
    (hRm : f + 1 ≤ R.frames ∧ 8 + (maxL + 11) + n0 ≤ R.locals) (hn : As.length = na) (hl : ls.size = nL) (hst : st0 = As.reverse ++ .ref a9 :: rest) (hW : (rest.map fun v => v.category).sum ≤ 8) (hdg : decode cc pc = .ok (.invokespecial index, 3)) (hcs : cells + mc ≤ R.cells ∧ slots + ms ≤ R.slots)
    (kk : ∀ (H : Heap) (locs : List Loc), pR X s H n' O → va_S (mL X) s.heap H locs → W p l e R s m args below meth c H locs (cells + mc) (slots + ms) Q (F0 m (pc + 3) ls rest)) : W p l e R s m args below meth c H locs cells slots Q (F0 m pc ls st0) :=
  p_fin (va_runI (Ts := [Cond.code y bytes maxL none]) ⟨hx, hb, hml, hown, fun w hw => by rw [List.mem_singleton.mp hw]; exact hF.w h1⟩ hM (cwI na (fun w hw => by rw [List.mem_singleton.mp hw]; exact hF.w h1) (wGood (fun w hw => by rw [List.mem_singleton.mp hw]; exact h1)) rfl rfl rfl (hF.w h2) (hF.w h4) (hF.w h3) hy1 hd hRm) ⟨pPre_blind, pPre_at hF hA hz hR hS⟩ rfl hn hl hst (lv_room hW) hdg hcs) hS kk
/-- a private constructor of a nest mate is called -/
theorem p_callN (hx : p.tables.exec = Jvm.exec) (hb : c.code = cc) (hml : c.maxLocals = nL) (hown : s.vm.findClass own = some m.cls) (hF : mF X s s.heap) (hA : mA3 s) (hz : H.size = X.1 n1) (hR : pR X s H n1 O1) (hS : va_S (mL X) s.heap H locs) (hM : Met l y [Cond.code y bytes maxL none] (pRm f n0 mc ms) (va_Pc (.ref a9 :: As) (pPre X n1 O1)) (pQ X n' O) mc ms (mL X))
    (h1 : mGw (Cond.code y bytes maxL none)) (h2 : mGw (.initialized y.cls)) (h3 : mGw (.instanceMethod y)) (i : Nat) (h4 : mNest[i]? = some (.methodLinkNest own index y "CubeFolk")) (hy1 : y.name = "<init>") (hd : y.cls ≠ "java/lang/invoke/MethodHandle" ∧ y.cls ≠ "java/lang/invoke/VarHandle" ∧ (parseMethodDescriptor y.desc).map (fun d => d.parameters.length) = some na)
    (hRm : f + 1 ≤ R.frames ∧ 8 + (maxL + 11) + n0 ≤ R.locals) (hn : As.length = na) (hl : ls.size = nL) (hst : st0 = As.reverse ++ .ref a9 :: rest) (hW : (rest.map fun v => v.category).sum ≤ 8) (hdg : decode cc pc = .ok (.invokespecial index, 3)) (hcs : cells + mc ≤ R.cells ∧ slots + ms ≤ R.slots)
    (kk : ∀ (H : Heap) (locs : List Loc), pR X s H n' O → va_S (mL X) s.heap H locs → W p l e R s m args below meth c H locs (cells + mc) (slots + ms) Q (F0 m (pc + 3) ls rest)) : W p l e R s m args below meth c H locs cells slots Q (F0 m pc ls st0) :=
  p_fin (va_runIN (Ts := [Cond.code y bytes maxL none]) ⟨hx, hb, hml, hown, fun w hw => by rw [List.mem_singleton.mp hw]; exact hF.w h1⟩ hM ⟨va_cnB na (fun w hw => by rw [List.mem_singleton.mp hw]; exact hF.w h1) (wGood (fun w hw => by rw [List.mem_singleton.mp hw]; exact h1)) rfl rfl rfl (hF.2.1 _ (List.mem_of_getElem? h4)) (hF.w h2) hd hRm, hy1, hF.w h3⟩ ⟨pPre_blind, pPre_at hF hA hz hR hS⟩ rfl hn hl hst (lv_room hW) hdg hcs) hS kk
theorem p_vr (hx : p.tables.exec = Jvm.exec) (hb : c.code = cc) (hlk : meth.locks = false) (hr : meth.sig.returnType = none) (hR : pR X s H n O) (hS : va_S (mL X) s.heap H locs) (hdg : decode cc pc = .ok (.return_, 1)) : W p l e R s m args below meth c H locs cells slots (MQ below (pQ X n O) args s cells slots (mL X)) (F0 m pc ls []) :=
  W.vret hx hb hr (fun t ht hW => ⟨⟨(), rfl, trivial, by show pR X t t.heap n O; rw [ht]; exact hR.moved hW.alike⟩, hS.F ht⟩) hS.2.2 hdg hlk
end PD
theorem p_of {l : Launch} {y : MethodName} {cc : ByteArray} {nL f nn mc ms k n : Nat} {X : mX} {As : List Value} {O : Nat → Option va_E} {en : va_E} {lv : List (Nat × Value)} (hy : plainName y.cls = true) (hy1 : y.name = "<init>") (hlen : (lg_sl As).length ≤ nL) (hlv : lv_args 0 As = lv)
    (body : ∀ (p : Program) (e : Env) (s : State) (m : MethodId) (args : Array Value) (below : List Frame) (meth : Method) (c : Code), mS X y.cls cc nL none p s m meth c → meth.name = "<init>" → mA3 s → s.heap.size = X.1 (k + 1) → ∀ (H : Heap) (locs : List Loc) (ls : Array Slot), pR X s H (k + 1) (oU O k en) → va_S (mL X) s.heap H locs → lv_has ls nL lv → W p l e (pRm f nn mc ms) s m args below meth c H locs 0 0 (MQ below (pQ X n O) args s mc ms (mL X)) (F0 m 0 ls [])) : pM l y cc nL f nn mc ms X As O k n en := by
  subst hlv
  refine Met.ofW (cc := cc) (maxL := nL) (ret := none) hy rfl ?_
  intro p e s m args below meth c s₁ B hml hv
  obtain ⟨rfl, hF, hA, hz, hR⟩ := hv
  have hl := lv_entry As (n := nL) hlen
  rw [lg_entry_eq]
  have hin : meth.name = "<init>" := (name_of_methodNamed B.named B.method).1.trans hy1
  exact body p e s m _ below meth c ⟨B.exec, B.bytes, hml, findClass_of_methodNamed B.named, hF, B.notSynchronized, B.returns⟩ hin hA hz s.heap [] _ hR va_S.rf hl
def gA (i j : Nat) : Int32 := if j < i then gI j else if j < 120 then 0 else gI j
theorem gA_cell (cA : ClassId) : vp_cell cA (120, .inl (gA 0)) = arrV cA 120 (fun _ => defaultValue .int) := by
  rw [vp_cell_i]
  refine arrV_ext (fun j hj => ?_)
  unfold gA
  rw [if_neg (Nat.not_lt_zero j), if_pos hj]
  rfl
theorem gA_120 : gA 120 = gI := by
  funext j
  unfold gA
  by_cases h : j < 120
  · rw [if_pos h]
  · rw [if_neg h, if_neg h]
theorem gA_up {i : Nat} (hi : i < 120) : upd (gA i) i (gI i) = gA (i + 1) := by
  funext j
  by_cases h : j = i
  · subst h
    unfold upd gA
    simp
  · unfold upd gA
    rw [if_neg h]
    by_cases h2 : j < i
    · rw [if_pos h2, if_pos (by omega)]
    · rw [if_neg h2, if_neg (show ¬ j < i + 1 by omega)]
theorem gI_a : ∀ i, i < 120 → (f_X9_columnOf (nI i) < 0 ∨ 10 ≤ f_X9_columnOf (nI i)) → gI i = -2 := by decide +kernel
theorem gI_b : ∀ i, i < 120 → ¬ (f_X9_levelOf (nI i) < 8) → gI i = -2 := by decide +kernel
theorem gI_c : ∀ i, i < 120 → ¬ (f_X9_columnOf (nI i) < 0) → ¬ (10 ≤ f_X9_columnOf (nI i)) → ¬ (0 ≤ f_X9_levelOf (nI i)) → gI i = -3 := by decide +kernel
theorem gI_d : ∀ i, i < 120 → ¬ (f_X9_columnOf (nI i) < 0) → ¬ (10 ≤ f_X9_columnOf (nI i)) → f_X9_levelOf (nI i) < 8 → 0 ≤ f_X9_levelOf (nI i) → gI i = -1 := by decide +kernel
def gS (X : mX) (i j : Nat) : Option Nat := if j < i then some (X.1 (80 + 2 * j)) else if j < 8 then none else some (X.1 (80 + 2 * j))
theorem gS_0 {X : mX} : ∀ j, j < 8 → gS X 0 j = none := fun j hj => by unfold gS; rw [if_neg (Nat.not_lt_zero j), if_pos hj]
theorem gS_8 {X : mX} : gS X 8 = fun j => some (X.1 (80 + 2 * j)) := by
  funext j
  unfold gS
  by_cases h : j < 8
  · rw [if_pos h]
  · rw [if_neg h, if_neg h]
theorem gS_up {X : mX} {i : Nat} (hi : i < 8) : va_up (gS X i) i (some (X.1 (80 + 2 * i))) = gS X (i + 1) := by
  funext j
  by_cases h : j = i
  · subst h
    unfold va_up gS
    simp
  · unfold va_up gS
    rw [if_neg h]
    by_cases h2 : j < i
    · rw [if_pos h2, if_pos (by omega)]
    · rw [if_neg h2, if_neg (show ¬ j < i + 1 by omega)]
theorem pEnt90 {X : mX} {k i : Nat} (hk : isWorld k) (hi : i < 8) : ent X M0 (k + 14 + 1 + i) = .inl (X.2.2.1 0, 90, .inl (fun _ => 0)) := by
  unfold isWorld at hk
  have h : i = 0 ∨ i = 1 ∨ i = 2 ∨ i = 3 ∨ i = 4 ∨ i = 5 ∨ i = 6 ∨ i = 7 := by omega
  rcases hk with rfl | rfl <;> rcases h with rfl | rfl | rfl | rfl | rfl | rfl | rfl | rfl <;> rfl
theorem mLo {X : mX} {s : State} {H : Heap} {n n0 : Nat} {O : Nat → Option va_E} (hs0 : s.heap.size = X.1 n0) (hR : pR X s H n O) : ∀ q, s.heap.size ≤ q → mL X q := fun q hq => by
  show X.2.2.2.2 ≤ q
  rw [hs0, hR.2.2.2.1] at hq
  omega
/-- static functions of a number, while something is made -/
def kS (l : Launch) (y : MethodName) (cc : ByteArray) (X : mX) (n : Nat) (O : Nat → Option va_E) (i r : Int32) : Prop :=
  Met l y [Cond.code y cc 1 (some .int)] (rmF 0 0) (va_Pc [.int i] (pPre X n O)) (va_Qi (fun x (_ : Unit) => x = r) (fun _ t => pR X t t.heap n O) (mL X)) 0 0 (mL X)
theorem k_columnOf (l : Launch) (X : mX) (n : Nat) (O : Nat → Option va_E) (i : Int32) : kS l yX9_columnOf cX9_columnOf X n O i (f_X9_columnOf i) := by
  refine Met.ofW (cc := cX9_columnOf) (maxL := 1) (ret := some .int) (by decide +kernel) rfl ?_
  intro p e s m args below meth c s₁ B hml hv
  obtain ⟨rfl, hF, hA, hz, hR⟩ := hv
  have hx := B.exec
  have hb := B.bytes
  have hl := lv_entry [Value.int i] (n := 1) (Nat.le_of_ble_eq_true rfl)
  rw [lg_entry_eq]
  generalize (lg_sl [Value.int i] ++ List.replicate (1 - (lg_sl [Value.int i]).length) Slot.unset).toArray = ls at hl ⊢
  have hl : lv_has ls 1 [(0, .int i)] := hl
  have hS : va_S (mL X) s.heap s.heap [] := va_S.rf
  refine lv_iload_n hx hb dX9_columnOf_0 rfl (lv_at hl 0 rfl) ?_
  refine lv_bipush (v := 12) hx hb dX9_columnOf_1 (by decide) ?_
  refine lv_irem hx hb dX9_columnOf_3 (by decide) ?_
  refine lv_iconst (v := 1) hx hb dX9_columnOf_4 (by decide) ?_
  refine lv_isub hx hb dX9_columnOf_5 ?_
  exact W.iret hx hb B.returns (fun t ht hW => ⟨⟨_, (), rfl, rfl, by show pR X t t.heap n O; rw [ht]; exact hR.moved hW.alike⟩, hS.F ht⟩) hS.2.2 dX9_columnOf_6 B.notSynchronized
theorem k_levelOf (l : Launch) (X : mX) (n : Nat) (O : Nat → Option va_E) (i : Int32) : kS l yX9_levelOf cX9_levelOf X n O i (f_X9_levelOf i) := by
  refine Met.ofW (cc := cX9_levelOf) (maxL := 1) (ret := some .int) (by decide +kernel) rfl ?_
  intro p e s m args below meth c s₁ B hml hv
  obtain ⟨rfl, hF, hA, hz, hR⟩ := hv
  have hx := B.exec
  have hb := B.bytes
  have hl := lv_entry [Value.int i] (n := 1) (Nat.le_of_ble_eq_true rfl)
  rw [lg_entry_eq]
  generalize (lg_sl [Value.int i] ++ List.replicate (1 - (lg_sl [Value.int i]).length) Slot.unset).toArray = ls at hl ⊢
  have hl : lv_has ls 1 [(0, .int i)] := hl
  have hS : va_S (mL X) s.heap s.heap [] := va_S.rf
  refine lv_iload_n hx hb dX9_levelOf_0 rfl (lv_at hl 0 rfl) ?_
  refine lv_bipush (v := 12) hx hb dX9_levelOf_1 (by decide) ?_
  refine lv_idiv hx hb dX9_levelOf_3 (by decide) ?_
  refine lv_iconst (v := 1) hx hb dX9_levelOf_4 (by decide) ?_
  refine lv_isub hx hb dX9_levelOf_5 ?_
  exact W.iret hx hb B.returns (fun t ht hW => ⟨⟨_, (), rfl, rfl, by show pR X t t.heap n O; rw [ht]; exact hR.moved hW.alike⟩, hS.F ht⟩) hS.2.2 dX9_levelOf_6 B.notSynchronized
section PE
variable {p : Program} {l : Launch} {e : Env} {R : Room} {s : State} {m : MethodId} {args : Array Value} {below : List Frame} {meth : Method} {c : Code} {H : Heap} {locs : List Loc} {cells slots : Nat} {Q : State → Prop}
variable {cc : ByteArray} {pc nL : Nat} {ls : Array Slot} {st0 rest : List Value} {X : mX} {k n : Nat} {O : Nat → Option va_E} {en : va_E} {own : String} {y : MethodName} {bytes : ByteArray} {index : Nat}
theorem p_cs {i r : Int32} (hx : p.tables.exec = Jvm.exec) (hb : c.code = cc) (hml : c.maxLocals = nL) (hown : s.vm.findClass own = some m.cls) (hF : mF X s s.heap) (hA : mA3 s) (hz : H.size = X.1 n) (hR : pR X s H n O) (hS : va_S (mL X) s.heap H locs) (hM : kS l y bytes X n O i r)
    (h1 : mGw (Cond.code y bytes 1 (some .int))) (h2 : mGw (.initialized y.cls)) (h3 : mGw (.static y)) (j : Nat) (h4 : mNest[j]? = some (.methodLinkNest own index y "CubeFolk")) (hd : y.cls ≠ "java/lang/invoke/MethodHandle" ∧ y.cls ≠ "java/lang/invoke/VarHandle" ∧ (parseMethodDescriptor y.desc).map (fun d => d.parameters.length) = some 1)
    (hRm : 0 + 1 ≤ R.frames ∧ 8 + (1 + 11) + 0 ≤ R.locals) (hl : ls.size = nL) (hW : (rest.map fun v => v.category).sum ≤ 8) (hdg : decode cc pc = .ok (.invokestatic index, 3)) (hcs : cells ≤ R.cells ∧ slots ≤ R.slots)
    (kk : ∀ (H : Heap) (locs : List Loc), pR X s H n O → va_S (mL X) s.heap H locs → W p l e R s m args below meth c H locs cells slots Q (F0 m (pc + 3) ls (.int r :: rest))) : W p l e R s m args below meth c H locs cells slots Q (F0 m pc ls (.int i :: rest)) :=
  va_calli (va_runSN (Ts := [Cond.code y bytes 1 (some .int)]) ⟨hx, hb, hml, hown, fun w hw => by rw [List.mem_singleton.mp hw]; exact hF.w h1⟩ hM ⟨va_cnB 1 (fun w hw => by rw [List.mem_singleton.mp hw]; exact hF.w h1) (wGood (fun w hw => by rw [List.mem_singleton.mp hw]; exact h1)) rfl rfl rfl (hF.2.1 _ (List.mem_of_getElem? h4)) (hF.w h2) hd hRm, hF.w h3, trivial⟩ ⟨pPre_blind, pPre_at (As := [.int i]) hF hA hz hR hS⟩ rfl rfl hl rfl (lv_room hW) hdg hcs) hS (fun _ _ h => h) (fun _ h => h) (fun r' u t H1 locs1 ht hv hp hB _ _ hS1 => by subst hp; exact kk H1 locs1 (by rw [ht] at hB; exact hB.moved hv.symm) hS1)
/-- an element of a row that is being made -/
theorem p_iast (hx : p.tables.exec = Jvm.exec) (hb : c.code = cc) (hR : pR X s H n O) (hS : va_S (mL X) s.heap H locs) {q N : Nat} (hqn : q < n) {f : Nat → Int32} (he : O q = some (.inl (X.2.2.1 0, N, .inl f))) {j x : Int32} (hin : vp_in j N) (hdg : decode cc pc = .ok (.iastore, 1))
    (kk : ∀ (H : Heap) (locs : List Loc), pR X s H n (oU O q (.inl (X.2.2.1 0, N, .inl (upd f j.toNatClampNeg x)))) → va_S (mL X) s.heap H locs → W p l e R s m args below meth c H locs cells slots Q (F0 m (pc + 1) ls rest)) : W p l e R s m args below meth c H locs cells slots Q (F0 m pc ls (.int x :: .int j :: .ref (X.1 q) :: rest)) := by
  obtain ⟨hK, hP, hD, h4⟩ := hR
  refine va_iast hx hb hK hP hD hS q 0 (pW_o hqn he) rfl hin hdg (fun H1 locs1 hP1 hD1 hS1 => ?_)
  rw [pW_set hqn] at hP1 hD1
  exact kk H1 locs1 ⟨hK, hP1, hD1, h4⟩ hS1
theorem p_aast (hx : p.tables.exec = Jvm.exec) (hb : c.code = cc) (hR : pR X s H n O) (hS : va_S (mL X) s.heap H locs) {q q2 N : Nat} (hqn : q < n) (hqn2 : q2 < n) {f : Nat → Option Nat} (he : O q = some (.inl (X.2.2.1 3, N, .inr (.inr (.inr (.inr f)))))) {fs : List Value} (he2 : (O q2).getD (ent X M0 q2) = .inr (6, fs)) {j : Int32} (hin : vp_in j N) (hdg : decode cc pc = .ok (.aastore, 1))
    (kk : ∀ (H : Heap) (locs : List Loc), pR X s H n (oU O q (.inl (X.2.2.1 3, N, .inr (.inr (.inr (.inr (va_up f j.toNatClampNeg (some (X.1 q2)))))))))  → va_S (mL X) s.heap H locs → W p l e R s m args below meth c H locs cells slots Q (F0 m (pc + 1) ls rest)) : W p l e R s m args below meth c H locs cells slots Q (F0 m pc ls (.ref (X.1 q2) :: .int j :: .ref (X.1 q) :: rest)) := by
  obtain ⟨hK, hP, hD, h4⟩ := hR
  refine va_astq (r := (RX6, TX6, 8)) hx hb hK hP hD hS q 3 q2 6 (pW_o hqn he) rfl (by rw [pW_at hqn2, he2]) rfl hin hdg (fun H1 locs1 hP1 hD1 hS1 => ?_)
  rw [pW_set hqn] at hP1 hD1
  exact kk H1 locs1 ⟨hK, hP1, hD1, h4⟩ hS1
end PE
