/-! THE FIXED WORLD: a list of shapes (an int array of n places; an object of class number ci whose fields are ints (none) or the cell t (some t)), and a memory of ints. -/
abbrev zz_Mem : Type := Nat → Nat → Int32
abbrev zz_Sh : Type := Sum Nat (Nat × List (Option Nat))
def zz_fv (ad : Nat → Nat) (f : Nat → Int32) (j : Nat) (o : Option Nat) : Value := match o with
  | none => .int (f j)
  | some t => .ref (ad t)
def zz_fs (ad : Nat → Nat) (f : Nat → Int32) (fs : List (Option Nat)) : List Value := fs.mapIdx (zz_fv ad f)
def zz_cel (cI : ClassId) (ad : Nat → Nat) (M : zz_Mem) (k : Nat) (sh : zz_Sh) : Nat × va_E := match sh with
  | .inl n => (ad k, .inl (cI, n, .inl (M k)))
  | .inr o => (ad k, .inr (o.1, zz_fs ad (M k) o.2))
def zz_cells (S : List zz_Sh) (cI : ClassId) (ad : Nat → Nat) (M : zz_Mem) : va_W := S.mapIdx (zz_cel cI ad M)
def zz_set (M : zz_Mem) (k : Nat) (f : Nat → Int32) : zz_Mem := fun a => if a = k then f else M a
def zz_up (M : zz_Mem) (k i : Nat) (x : Int32) : zz_Mem := zz_set M k (upd (M k) i x)
def zz_cp (M : zz_Mem) (k0 k1 sp dp n : Nat) : zz_Mem := zz_set M k1 (va_cpy (M k0) (M k1) sp dp n)
def zz_A (S : List zz_Sh) (ad : Nat → Nat) (q : Nat) : Prop := ∃ k, k < S.length ∧ q = ad k
theorem zz_set_self (M : zz_Mem) (k : Nat) (f : Nat → Int32) : zz_set M k f k = f := by simp [zz_set]
theorem zz_set_ne (M : zz_Mem) {k a : Nat} (f : Nat → Int32) (h : a ≠ k) : zz_set M k f a = M a := by simp [zz_set, h]
theorem zz_cells_at {S : List zz_Sh} {cI : ClassId} {ad : Nat → Nat} {M : zz_Mem} {k : Nat} {sh : zz_Sh} (h : S[k]? = some sh) : (zz_cells S cI ad M)[k]? = some (zz_cel cI ad M k sh) := by
  simp [zz_cells, List.getElem?_mapIdx, h]
theorem zz_cells_set {S : List zz_Sh} {cI : ClassId} {ad : Nat → Nat} {M : zz_Mem} {k : Nat} {sh : zz_Sh} (f : Nat → Int32) (h : S[k]? = some sh) : (zz_cells S cI ad M).set k (zz_cel cI ad (zz_set M k f) k sh) = zz_cells S cI ad (zz_set M k f) := by
  have hk : k < S.length := (List.getElem?_eq_some_iff.mp h).1
  apply List.ext_getElem?
  intro i
  by_cases hi : i = k
  · subst hi
    rw [List.getElem?_set_self (by simpa [zz_cells] using hk), zz_cells_at h]
  · rw [List.getElem?_set_ne (fun z => hi z.symm)]
    simp only [zz_cells, List.getElem?_mapIdx]
    cases hs : S[i]? with
    | none => rfl
    | some sh' =>
      have : zz_cel cI ad M i sh' = zz_cel cI ad (zz_set M k f) i sh' := by
        cases sh' <;> simp [zz_cel, zz_set_ne M f hi]
      simp [this]
theorem zz_cells_arr {S : List zz_Sh} {cI : ClassId} {ad : Nat → Nat} {M : zz_Mem} {k n : Nat} (f : Nat → Int32) (h : S[k]? = some (.inl n)) : (zz_cells S cI ad M).set k (ad k, .inl (cI, n, .inl f)) = zz_cells S cI ad (zz_set M k f) := by
  rw [← zz_cells_set f h]
  simp [zz_cel, zz_set_self]
theorem zz_fs_at {ad : Nat → Nat} {f : Nat → Int32} {fs : List (Option Nat)} {j : Nat} {o : Option Nat} (h : fs[j]? = some o) : (zz_fs ad f fs)[j]? = some (zz_fv ad f j o) := by
  simp [zz_fs, List.getElem?_mapIdx, h]
theorem zz_fs_set {ad : Nat → Nat} {f : Nat → Int32} {fs : List (Option Nat)} {j : Nat} (x : Int32) (h : fs[j]? = some none) : (zz_fs ad f fs).set j (.int x) = zz_fs ad (upd f j x) fs := by
  have hk : j < fs.length := (List.getElem?_eq_some_iff.mp h).1
  apply List.ext_getElem?
  intro i
  by_cases hi : i = j
  · subst hi
    rw [List.getElem?_set_self (by simpa [zz_fs] using hk), zz_fs_at h]
    simp [zz_fv, upd]
  · rw [List.getElem?_set_ne (fun z => hi z.symm)]
    simp only [zz_fs, List.getElem?_mapIdx]
    cases hs : fs[i]? with
    | none => rfl
    | some o => cases o <;> simp [zz_fv, upd, hi]
theorem zz_cells_obj {S : List zz_Sh} {cI : ClassId} {ad : Nat → Nat} {M : zz_Mem} {k j ci : Nat} {fs : List (Option Nat)} (x : Int32) (h : S[k]? = some (.inr (ci, fs))) (hj : fs[j]? = some none) : (zz_cells S cI ad M).set k (ad k, .inr (ci, (zz_fs ad (M k) fs).set j (.int x))) = zz_cells S cI ad (zz_up M k j x) := by
  unfold zz_up
  rw [← zz_cells_set (upd (M k) j x) h, zz_fs_set x hj]
  simp [zz_cel, zz_set_self]
theorem zz_cells_len (S : List zz_Sh) (cI : ClassId) (ad : Nat → Nat) (M : zz_Mem) : (zz_cells S cI ad M).length = S.length := by simp [zz_cells]
theorem zz_cel_ad {cI : ClassId} {ad : Nat → Nat} {M : zz_Mem} {k : Nat} {sh : zz_Sh} : (zz_cel cI ad M k sh).1 = ad k := by cases sh <;> rfl
theorem zz_A_of {S : List zz_Sh} {cI : ClassId} {ad : Nat → Nat} {M : zz_Mem} {A : Nat → Prop} (hD : va_D A (zz_cells S cI ad M)) : ∀ q, zz_A S ad q → A q := by
  rintro q ⟨k, hk, rfl⟩
  have h : S[k]? = some S[k] := List.getElem?_eq_getElem hk
  have := hD.2 k _ (zz_cells_at (cI := cI) (ad := ad) (M := M) h)
  rwa [zz_cel_ad] at this
/-- the cells' addresses say nothing of the memory -/
theorem zz_D_mem {S : List zz_Sh} {cI : ClassId} {ad : Nat → Nat} {M M' : zz_Mem} {A : Nat → Prop} (hD : va_D A (zz_cells S cI ad M)) : va_D A (zz_cells S cI ad M') := by
  have key : ∀ (k : Nat) (q : Nat × va_E), (zz_cells S cI ad M')[k]? = some q → ∃ q0, (zz_cells S cI ad M)[k]? = some q0 ∧ q0.1 = q.1 := by
    intro k q hq
    have hk : k < S.length := by
      have := (List.getElem?_eq_some_iff.mp hq).1
      rwa [zz_cells_len] at this
    have h : S[k]? = some S[k] := List.getElem?_eq_getElem hk
    rw [zz_cells_at h] at hq
    cases hq
    exact ⟨_, zz_cells_at h, by rw [zz_cel_ad, zz_cel_ad]⟩
  refine ⟨fun i j x y hx hy hxy => ?_, fun k q hq => ?_⟩
  · obtain ⟨x0, h1, h2⟩ := key i x hx
    obtain ⟨y0, h3, h4⟩ := key j y hy
    exact hD.1 i j x0 y0 h1 h3 (by rw [h2, h4, hxy])
  · obtain ⟨q0, h1, h2⟩ := key k q hq
    rw [← h2]
    exact hD.2 k q0 h1
/-! THE WORDS: those of the tables that every later state keeps, and the links among nest mates -/
def zz_gW : List Cond := lw_tbl.filter goodWord
def zz_nF : List (String × Nat × String × String × String × String) := lw_tbl.filterMap (fun w => match w with
  | .fieldLinkNest a i b n d h => some (a, i, b, n, d, h)
  | _ => none)
def zz_nM : List (String × Nat × MethodName × String) := lw_tbl.filterMap (fun w => match w with
  | .methodLinkNest a i x h => some (a, i, x, h)
  | _ => none)
def zz_N (U : State) : Prop := (∀ q ∈ zz_nF, va_Nw (.fieldLinkNest q.1 q.2.1 q.2.2.1 q.2.2.2.1 q.2.2.2.2.1 q.2.2.2.2.2) U) ∧ ∀ q ∈ zz_nM, va_Nw (.methodLinkNest q.1 q.2.1 q.2.2.1 q.2.2.2) U
theorem zz_N.warm {s U : State} (hW : s.WarmedH U.vm) (h : zz_N s) : zz_N U := ⟨fun q hq => va_Nw.warmF hW (h.1 q hq), fun q hq => va_Nw.warmM hW (h.2 q hq)⟩
theorem zz_N.same {u U : State} (hv : u.vm = U.vm) (h : zz_N u) : zz_N U := ⟨fun q hq => va_Nw.same rfl hv (h.1 q hq), fun q hq => va_Nw.same rfl hv (h.2 q hq)⟩
theorem zz_N.of {args : Array Value} {s : State} (hts : ∀ w ∈ lw_tbl, w.before args s = true) : zz_N s := by
  refine ⟨fun q hq => va_Nw.of rfl (A := args) (hts _ ?_), fun q hq => va_Nw.of rfl (A := args) (hts _ ?_)⟩
  · obtain ⟨w, h1, h2⟩ := List.mem_filterMap.mp hq
    cases w <;> simp at h2
    subst h2
    exact h1
  · obtain ⟨w, h1, h2⟩ := List.mem_filterMap.mp hq
    cases w <;> simp at h2
    subst h2
    exact h1
theorem zz_good {y : MethodName} {cc : ByteArray} {maxL : Nat} {ret : Option FieldType} (h : Cond.code y cc maxL ret ∈ zz_gW) : GoodIn zz_gW (.code y cc maxL ret :: zz_gW) := by
  intro w hw
  have hw' : w ∈ zz_gW := by
    rcases List.mem_cons.mp hw with e | e
    · rw [e]; exact h
    · exact e
  exact ⟨hw', good_of_word (List.mem_filter.mp hw').2⟩
/-- a word by its place in the tables -/
theorem zz_w {w : Cond} (i : Nat) (h : lw_tbl[i]? = some w) (hg : goodWord w = true) : w ∈ zz_gW := List.mem_filter.mpr ⟨List.mem_of_getElem? h, hg⟩
theorem zz_wF {a : String} {i : Nat} {b n d h : String} (k : Nat) (hk : lw_tbl[k]? = some (.fieldLinkNest a i b n d h)) : (a, i, b, n, d, h) ∈ zz_nF := List.mem_filterMap.mpr ⟨_, List.mem_of_getElem? hk, rfl⟩
theorem zz_wM {a : String} {i : Nat} {x : MethodName} {h : String} (k : Nat) (hk : lw_tbl[k]? = some (.methodLinkNest a i x h)) : (a, i, x, h) ∈ zz_nM := List.mem_filterMap.mpr ⟨_, List.mem_of_getElem? hk, rfl⟩
/-! THE WORLD OF A CALL, its contract, and the judgement inside a body -/
def zz_Wd (D : va_G) (S : List zz_Sh) (cI : ClassId) (ad : Nat → Nat) (M : zz_Mem) (U : State) : Prop :=
  va_P D vwCl (zz_cells S cI ad M) U.heap ∧ va_K D vwCl [(cI, .int)] U ∧ va_D (zz_A S ad) (zz_cells S cI ad M) ∧ zz_N U
def zz_Q (D : va_G) (S : List zz_Sh) (cI : ClassId) (ad : Nat → Nat) (v : Option Value) (M : zz_Mem) : Array Value → State → Outcome → State → Prop :=
  fun _ st oc t => oc = .returned v ∧ zz_Wd D S cI ad M t ∧ va_F (zz_A S ad) st t
abbrev zz_rm (d : Nat) : Room := { frames := d, cells := 0, slots := 0, locals := 64 * d }
def zz_K (l : Launch) (D : va_G) (S : List zz_Sh) (cI : ClassId) (ad : Nat → Nat) (d : Nat) (y : MethodName) (cc : ByteArray) (maxL : Nat) (ret : Option FieldType) (av : List Value) (M : zz_Mem) (v : Option Value) (M' : zz_Mem) : Prop :=
  Met l y (.code y cc maxL ret :: zz_gW) (zz_rm d) (va_Pc av (zz_Wd D S cI ad M)) (zz_Q D S cI ad v M') 0 0 (zz_A S ad)
def zz_C (p : Program) (R : Room) (s : State) (m : MethodId) (args : Array Value) (meth : Method) (c : Code) (D : va_G) (cI : ClassId) (own : String) (cc : ByteArray) (nL : Nat) (ret : Option FieldType) (kc ks : Nat) : Prop :=
  p.tables.exec = Jvm.exec ∧ c.code = cc ∧ c.maxLocals = nL ∧ s.vm.findClass own = some m.cls ∧ (∀ w ∈ zz_gW, w.before args s = true) ∧ va_K D vwCl [(cI, .int)] s ∧ zz_N s ∧ meth.sig.returnType = ret ∧ meth.locks = false ∧ kc ≤ R.cells ∧ ks ≤ R.slots
def zz_V (p : Program) (l : Launch) (e : Env) (R : Room) (s : State) (m : MethodId) (args : Array Value) (below : List Frame) (meth : Method) (c : Code) (D : va_G) (S : List zz_Sh) (cI : ClassId) (ad : Nat → Nat) (A : Nat → Prop) (nL kc ks : Nat) (Q : State → Prop) (pc : Nat) (L : List (Nat × Value)) (st : List Value) (M : zz_Mem) : Prop :=
  ∀ (H : Heap) (locs : List Loc) (ls : Array Slot), va_P D vwCl (zz_cells S cI ad M) H → va_D A (zz_cells S cI ad M) → va_S A s.heap H locs → lv_has ls nL L → W p l e R s m args below meth c H locs kc ks Q (F0 m pc ls st)
