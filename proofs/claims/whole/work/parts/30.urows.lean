/-! CONSTRUCTORS: worlds that grow, as lists of cells -/
def zz_U (p : Program) (l : Launch) (e : Env) (R : Room) (s : State) (m : MethodId) (args : Array Value) (below : List Frame) (meth : Method) (c : Code) (D : va_G) (A : Nat → Prop) (nL : Nat) (Q : State → Prop) (kc ks : Nat) (pc : Nat) (L : List (Nat × Value)) (st : List Value) (ws : va_W) : Prop :=
  ∀ (H : Heap) (locs : List Loc) (ls : Array Slot), va_P D vwCl ws H → va_D A ws → va_S A s.heap H locs → lv_has ls nL L → W p l e R s m args below meth c H locs kc ks Q (F0 m pc ls st)
/-- a constructor's contract: from the blank object at h0, a world that F tells -/
def zz_I (l : Launch) (D : va_G) (cI : ClassId) (R : Room) (y : MethodName) (cc : ByteArray) (maxL ci : Nat) (fs0 : List Value) (F : Nat → va_W → Prop) : Prop :=
  ∀ (h0 sz : Nat), Met l y (.code y cc maxL none :: zz_gW) R (va_Pc [.ref h0] (fun U => U.heap.size = sz ∧ va_P D vwCl [(h0, .inr (ci, fs0))] U.heap ∧ va_K D vwCl [(cI, .int)] U ∧ zz_N U))
    (fun _ st oc t => oc = .returned none ∧ (∃ w, F h0 w ∧ va_P D vwCl w t.heap ∧ va_D (va_A [(h0, .inr (ci, fs0))] sz) w) ∧ va_F (va_A [(h0, .inr (ci, fs0))] sz) st t) R.cells R.slots (va_A [(h0, .inr (ci, fs0))] sz)
theorem zz_aw : Cond.arrayClass .int ∈ zz_gW := List.mem_filter.mpr ⟨by decide +kernel, rfl⟩
theorem zz_cls {args : Array Value} {s : State} (h : (Cond.arrayClass .int).before args s = true) : ∃ cI : ClassId, ArrOfT s cI .int ∧ va_RA s cI .int := by
  obtain ⟨cA, kA, comp, h1, h2, h3⟩ := Cond.arrayClass_spec h
  exact ⟨cA, fun n z => ⟨fun k h => (by cases h), kA, h2, comp, h3⟩, h1⟩
theorem zz_oneI {D : va_G} {cI cA : ClassId} {s : State} (h : va_K D vwCl ([(cI, .int)] ++ [(cA, .int)]) s) : cA = cI := by
  have h0 : s.vm.findClass _ = some cI := (h.2 0 (cI, .int) rfl).2
  have h1 : s.vm.findClass _ = some cA := (h.2 1 (cA, .int) rfl).2
  exact Option.some.inj (h1.symm.trans h0)
theorem zz_D1 {A : Nat → Prop} {v : Nat} {x : va_E} (h : A v) : va_D A [(v, x)] := by
  refine ⟨fun i j a b hi hj _ => ?_, fun i q hi => ?_⟩
  · cases i with
    | zero =>
      cases j with
      | zero => rfl
      | succ j => cases hj
    | succ i => cases hi
  · cases i with
    | zero => cases hi; exact h
    | succ i => cases hi
section ZU
variable {p : Program} {l : Launch} {e : Env} {R : Room} {s : State} {m : MethodId} {args : Array Value} {below : List Frame} {meth : Method} {c : Code} {D : va_G} {cI : ClassId} {A : Nat → Prop} {own : String} {cc : ByteArray} {nL kc ks : Nat} {ret : Option FieldType} {Q : State → Prop} {pc : Nat} {L L' : List (Nat × Value)} {st : List Value} {ws ws' : va_W}
theorem zz_uaload (n : Nat) (C : zz_C p R s m args meth c D cI own cc nL ret 0 0) {k : Fin 4} {v : Nat} (hd : decode cc pc = .ok (.aload_n k, 1)) (hn : pc + 1 = n) (q : Nat) (hq : L[q]? = some ((k : Nat), .ref v)) (kk : zz_U p l e R s m args below meth c D A nL Q kc ks n L (.ref v :: st) ws) : zz_U p l e R s m args below meth c D A nL Q kc ks pc L st ws := by
  subst hn
  exact fun H locs ls hP hD hS hl => lv_aload_n C.1 C.2.1 hd rfl (lv_at hl q hq) (kk H locs ls hP hD hS hl)
theorem zz_uastore (n : Nat) (C : zz_C p R s m args meth c D cI own cc nL ret 0 0) {k : Fin 4} {v : Nat} (hd : decode cc pc = .ok (.astore_n k, 1)) (hn : pc + 1 = n) (hi : (k : Nat) < nL) (hL : ((k : Nat), Value.ref v) :: L.filter (fun q : Nat × Value => !(q.1 == (k : Nat)) && !(q.1 + 1 == (k : Nat) && q.2.category == 2)) = L') (kk : zz_U p l e R s m args below meth c D A nL Q kc ks n L' st ws) : zz_U p l e R s m args below meth c D A nL Q kc ks pc L (.ref v :: st) ws := by
  subst hn
  exact fun H locs ls hP hD hS hl => lv_astore_n C.1 C.2.1 hd rfl hl hi hL (fun ls' hl' => kk H locs ls' hP hD hS hl')
theorem zz_uiconst (n : Nat) (C : zz_C p R s m args meth c D cI own cc nL ret 0 0) {i : Int} {v : Int32} (hd : decode cc pc = .ok (.iconst i, 1)) (hn : pc + 1 = n) (hv : Int32.ofInt i = v) (kk : zz_U p l e R s m args below meth c D A nL Q kc ks n L (.int v :: st) ws) : zz_U p l e R s m args below meth c D A nL Q kc ks pc L st ws := by
  subst hn
  exact fun H locs ls hP hD hS hl => lv_iconst C.1 C.2.1 hd hv (kk H locs ls hP hD hS hl)
theorem zz_ubipush (n : Nat) (C : zz_C p R s m args meth c D cI own cc nL ret 0 0) {i : Int} {v : Int32} (hd : decode cc pc = .ok (.bipush i, 2)) (hn : pc + 2 = n) (hv : (Int8.ofInt i).toInt32 = v) (kk : zz_U p l e R s m args below meth c D A nL Q kc ks n L (.int v :: st) ws) : zz_U p l e R s m args below meth c D A nL Q kc ks pc L st ws := by
  subst hn
  exact fun H locs ls hP hD hS hl => lv_bipush C.1 C.2.1 hd hv (kk H locs ls hP hD hS hl)
theorem zz_usipush (n : Nat) (C : zz_C p R s m args meth c D cI own cc nL ret 0 0) {i : Int} {v : Int32} (hd : decode cc pc = .ok (.sipush i, 3)) (hn : pc + 3 = n) (hv : (Int16.ofInt i).toInt32 = v) (kk : zz_U p l e R s m args below meth c D A nL Q kc ks n L (.int v :: st) ws) : zz_U p l e R s m args below meth c D A nL Q kc ks pc L st ws := by
  subst hn
  exact fun H locs ls hP hD hS hl => lv_sipush C.1 C.2.1 hd hv (kk H locs ls hP hD hS hl)
theorem zz_udup (n : Nat) (C : zz_C p R s m args meth c D cI own cc nL ret 0 0) {v : Nat} (hd : decode cc pc = .ok (.dup, 1)) (hn : pc + 1 = n) (kk : zz_U p l e R s m args below meth c D A nL Q kc ks n L (.ref v :: .ref v :: st) ws) : zz_U p l e R s m args below meth c D A nL Q kc ks pc L (.ref v :: st) ws := by
  subst hn
  exact fun H locs ls hP hD hS hl => lv_dup C.1 C.2.1 hd rfl (kk H locs ls hP hD hS hl)
theorem zz_uobj (n : Nat) (C : zz_C p R s m args meth c D cI own cc nL ret 0 0) {idx v : Nat} (hd : decode cc pc = .ok (.invokespecial idx, 3)) (hn : pc + 3 = n) (hw : Cond.methodLink own idx Lib.objectInit ∈ zz_gW ∧ Cond.instanceMethod Lib.objectInit ∈ zz_gW ∧ Cond.code Lib.objectInit ⟨#[0xb1]⟩ 1 none ∈ zz_gW) (hR : 1 ≤ R.frames ∧ (st.map fun v => v.category).sum + 12 ≤ R.locals) (kk : zz_U p l e R s m args below meth c D A nL Q kc ks n L st ws) : zz_U p l e R s m args below meth c D A nL Q kc ks pc L (.ref v :: st) ws := by
  subst hn
  exact fun H locs ls hP hD hS hl => W.objInit C.1 C.2.1 C.2.2.2.1 (C.2.2.2.2.1 _ hw.1) (C.2.2.2.2.1 _ hw.2.1) (C.2.2.2.2.1 _ hw.2.2) rfl (hl.1.trans C.2.2.1.symm) rfl hd hR.1 (by show 2 * 0 + _ + 12 ≤ _; omega) (kk H locs ls hP hD hS hl)
theorem zz_unewa (n : Nat) (C : zz_C p R s m args meth c D cI own cc nL ret 0 0) {w : Int32} {N : Nat} (hd : decode cc pc = .ok (.newarray .int, 2)) (hn : pc + 2 = n) (hw : ¬ w < 0 ∧ w.toNatClampNeg = N ∧ N ≤ 1000) (hA : ∀ q : Nat, s.heap.size ≤ q → A q) (hR : kc + 1 ≤ R.cells ∧ ks + N ≤ R.slots) (kk : ∀ q : Nat, zz_U p l e R s m args below meth c D A nL Q (kc + 1) (ks + N) n L (.ref q :: st) (ws ++ [(q, .inl (cI, N, .inl (fun _ => 0)))])) : zz_U p l e R s m args below meth c D A nL Q kc ks pc L (.int w :: st) ws := by
  subst hn
  intro H locs ls hP hD hS hl
  refine va_newa (atype := .int) (ty := .int) (a0 := (N, .inl (fun _ => 0))) C.1 C.2.1 (C.2.2.2.2.1 _ zz_aw) rfl C.2.2.2.2.2.1 hP hD hS hA (fun cA => rfl) hw.1 hw.2.1 ?_ hR.1 hR.2 hd (fun q cA H1 hK1 hP1 hD1 hS1 => ?_)
  · have := hw.2.2
    show N * 4 ≤ _
    omega
  · have hc := zz_oneI hK1
    subst hc
    exact kk q H1 locs ls hP1 hD1 hS1 hl
theorem zz_unew (n : Nat) (C : zz_C p R s m args meth c D cI own cc nL ret 0 0) {idx ci N : Nat} {Cn : String} {T : u_T} {fs : List Value} (hd : decode cc pc = .ok (.new idx, 3)) (hn : pc + 3 = n) (ty : Nat → FieldType) (hty : ∀ k, k < N → parseFieldDescriptor (T k).2.2.1 = some (ty k)) (hin : ∀ w ∈ u_ws Cn T N, w ∈ zz_gW) (hw : Cond.classLink own idx Cn ∈ zz_gW ∧ Cond.instantiable Cn N ∈ zz_gW ∧ Cond.initialized Cn ∈ zz_gW) (hc : vwCl[ci]? = some (Cn, T, N)) (hfs : ∀ j, j < N → defaultValue (ty j) = vp_V fs j) (hA : ∀ q : Nat, s.heap.size ≤ q → A q) (hR : kc + 1 ≤ R.cells ∧ ks + N ≤ R.slots) (kk : ∀ q : Nat, zz_U p l e R s m args below meth c D A nL Q (kc + 1) (ks + N) n L (.ref q :: st) (ws ++ [(q, .inr (ci, fs))])) : zz_U p l e R s m args below meth c D A nL Q kc ks pc L st ws := by
  subst hn
  intro H locs ls hP hD hS hl
  exact va_new C.1 C.2.1 C.2.2.2.2.1 hin ty hty C.2.2.2.1 (C.2.2.2.2.1 _ hw.1) (C.2.2.2.2.1 _ hw.2.1) (C.2.2.2.2.1 _ hw.2.2) C.2.2.2.2.2.1 hP hD hS hA hc hfs hR.1 hR.2 hd (fun q H1 hP1 hD1 hS1 => kk q H1 locs ls hP1 hD1 hS1 hl)
/-- a final field, in its constructor -/
theorem zz_uputF (n : Nat) (C : zz_C p R s m args meth c D cI own cc nL ret 0 0) (hin2 : meth.name = "<init>") {idx q a ci j N : Nat} {Cn : String} {T : u_T} {ty : FieldType} {fs : List Value} {v : Value} (hd : decode cc pc = .ok (.putfield idx, 3)) (hn : pc + 3 = n) (ty0 : Nat → FieldType) (hty : ∀ k, k < N → parseFieldDescriptor (T k).2.2.1 = some (ty0 k)) (hnm : ∀ a, a < N → ∀ b, b < N → a ≠ b → (T a).2.1 ≠ (T b).2.1) (hin : ∀ w ∈ u_ws Cn T N, w ∈ zz_gW) (hlink : Cond.fieldLink own idx own (T j).2.1 (T j).2.2.1 ∈ zz_gW) (hT : (T j).1 = own) (hc : vwCl[ci]? = some (Cn, T, N)) (he : ws[q]? = some (a, .inr (ci, fs))) (hj : j < N) (hfin : (T j).2.2.2 = true) (hdsc : parseFieldDescriptor (T j).2.2.1 = some ty) (hnr : narrow ty v = v) (hft : fits ty v = true) (hl0 : j < fs.length) (hw : ws.set q (a, .inr (ci, fs.set j v)) = ws') (kk : zz_U p l e R s m args below meth c D A nL Q kc ks n L st ws') : zz_U p l e R s m args below meth c D A nL Q kc ks pc L (v :: .ref a :: st) ws := by
  subst hn; subst hw
  intro H locs ls hP hD hS hl
  exact va_putF (D := D) (ci := ci) C.1 C.2.1 C.2.2.2.2.1 hin ty0 hty hnm C.2.2.2.1 C.2.2.2.2.2.1 hP hD hS q he hc j hj (C.2.2.2.2.1 _ hlink) (fun x h => by rw [hT] at h; exact h) hfin hin2 hT hdsc hnr hft hl0 hd (fun H1 locs1 hP1 hD1 hS1 => kk H1 locs1 ls hP1 hD1 hS1 hl)
theorem zz_uput (n : Nat) (C : zz_C p R s m args meth c D cI own cc nL ret 0 0) {idx q a ci j N : Nat} {Cn : String} {T : u_T} {ty : FieldType} {fs : List Value} {v : Value} (hd : decode cc pc = .ok (.putfield idx, 3)) (hn : pc + 3 = n) (ty0 : Nat → FieldType) (hty : ∀ k, k < N → parseFieldDescriptor (T k).2.2.1 = some (ty0 k)) (hnm : ∀ a, a < N → ∀ b, b < N → a ≠ b → (T a).2.1 ≠ (T b).2.1) (hin : ∀ w ∈ u_ws Cn T N, w ∈ zz_gW) (hlink : Cond.fieldLink own idx own (T j).2.1 (T j).2.2.1 ∈ zz_gW) (hT : (T j).1 = own) (hc : vwCl[ci]? = some (Cn, T, N)) (he : ws[q]? = some (a, .inr (ci, fs))) (hj : j < N) (hfin : (T j).2.2.2 = false) (hdsc : parseFieldDescriptor (T j).2.2.1 = some ty) (hnr : narrow ty v = v) (hft : fits ty v = true) (hl0 : j < fs.length) (hw : ws.set q (a, .inr (ci, fs.set j v)) = ws') (kk : zz_U p l e R s m args below meth c D A nL Q kc ks n L st ws') : zz_U p l e R s m args below meth c D A nL Q kc ks pc L (v :: .ref a :: st) ws := by
  subst hn; subst hw
  intro H locs ls hP hD hS hl
  exact va_put (D := D) (ci := ci) C.1 C.2.1 C.2.2.2.2.1 hin ty0 hty hnm C.2.2.2.1 C.2.2.2.2.2.1 hP hD hS q he hc j hj (C.2.2.2.2.1 _ hlink) (fun x h => by rw [hT] at h; exact h) hfin hdsc hnr hft hl0 hd (fun H1 locs1 hP1 hD1 hS1 => kk H1 locs1 ls hP1 hD1 hS1 hl)
theorem zz_uget (n : Nat) (C : zz_C p R s m args meth c D cI own cc nL ret 0 0) {idx q a ci j N : Nat} {Cn : String} {T : u_T} {fs : List Value} {v : Value} (hd : decode cc pc = .ok (.getfield idx, 3)) (hn : pc + 3 = n) (hin : ∀ w ∈ u_ws Cn T N, w ∈ zz_gW) (hlink : Cond.fieldLink own idx own (T j).2.1 (T j).2.2.1 ∈ zz_gW) (hT : (T j).1 = own) (hc : vwCl[ci]? = some (Cn, T, N)) (he : ws[q]? = some (a, .inr (ci, fs))) (hj : j < N) (hv : fs[j]? = some v) (kk : zz_U p l e R s m args below meth c D A nL Q kc ks n L (v :: st) ws) : zz_U p l e R s m args below meth c D A nL Q kc ks pc L (.ref a :: st) ws := by
  subst hn
  intro H locs ls hP hD hS hl
  exact va_get (D := D) (ci := ci) C.1 C.2.1 C.2.2.2.2.1 hin C.2.2.2.1 C.2.2.2.2.2.1 hP q he hc j hj (C.2.2.2.2.1 _ hlink) (fun x h => by rw [hT] at h; exact h) hv hd (kk H locs ls hP hD hS hl)
/-- another order of the cells -/
theorem zz_uperm (is : List Nat) (hn : va_nd is = true) (hs : is.map (fun i => ws[i]?) = ws'.map some) (kk : zz_U p l e R s m args below meth c D A nL Q kc ks pc L st ws') : zz_U p l e R s m args below meth c D A nL Q kc ks pc L st ws := by
  intro H locs ls hP hD hS hl
  refine kk H locs ls (fun k q hk => ?_) (hD.sub is hn hs) hS hl
  have h1 : (is.map (fun i => ws[i]?))[k]? = some (some q) := by rw [hs, List.getElem?_map, hk]; rfl
  rw [List.getElem?_map] at h1
  cases hi : is[k]? with
  | none => rw [hi] at h1; cases h1
  | some i => rw [hi] at h1; exact hP i q (Option.some.inj h1)
theorem zz_uwiden {kc' ks' : Nat} (h1 : kc ≤ kc') (h2 : ks ≤ ks') (kk : zz_U p l e R s m args below meth c D A nL Q kc' ks' pc L st ws) : zz_U p l e R s m args below meth c D A nL Q kc ks pc L st ws :=
  fun H locs ls hP hD hS hl => W.widen h1 h2 (kk H locs ls hP hD hS hl)
/-- new X(): the constructor's call; isR: the places of the other cells -/
theorem zz_uinit (n : Nat) (C : zz_C p R s m args meth c D cI own cc nL ret 0 0) {idx v k ci maxL : Nat} {y : MethodName} {bytes : ByteArray} {fs0 : List Value} {F : Nat → va_W → Prop} {rm : Room} {wr : va_W} (hd : decode cc pc = .ok (.invokespecial idx, 3)) (hn : pc + 3 = n) (hM : zz_I l D cI rm y bytes maxL ci fs0 F) (hw : (Cond.methodLink own idx y ∈ zz_gW ∨ ∃ host, (own, idx, y, host) ∈ zz_nM) ∧ Cond.instanceMethod y ∈ zz_gW ∧ Cond.initialized y.cls ∈ zz_gW ∧ Cond.code y bytes maxL none ∈ zz_gW ∧ (y.cls ≠ "java/lang/invoke/MethodHandle" ∧ y.cls ≠ "java/lang/invoke/VarHandle") ∧ y.name = "<init>" ∧ (parseMethodDescriptor y.desc).map (fun d => d.parameters.length) = some 0)
    (he : ws[k]? = some (v, .inr (ci, fs0))) (isR : List Nat) (hr : isR.map (fun i => ws[i]?) = wr.map some) (hnd : va_nd isR = true) (hdis : ∀ i ∈ isR, i ∉ [k]) (hA : ∀ q : Nat, s.heap.size ≤ q → A q) (hcat : (st.map fun v => v.category).sum ≤ 8) (hR : rm.frames + 1 ≤ R.frames ∧ 8 + (maxL + 11) + rm.locals ≤ R.locals) (hf : kc + rm.cells ≤ R.cells ∧ ks + rm.slots ≤ R.slots)
    (kk : ∀ w, F v w → zz_U p l e R s m args below meth c D A nL Q (kc + rm.cells) (ks + rm.slots) n L st (wr ++ w)) : zz_U p l e R s m args below meth c D A nL Q kc ks pc L (.ref v :: st) ws := by
  subst hn
  intro H locs ls hP hD hS hl
  obtain ⟨hx, hb, hml, hown, hts, hK, hN, hrt, hlk, -, -⟩ := C
  obtain ⟨hlink, h1, h3, h4, h5, h6, h7⟩ := hw
  have hC : [k].map (fun i => ws[i]?) = [(v, Sum.inr (ci, fs0))].map some := by simp [he]
  have hPc : va_P D vwCl [(v, .inr (ci, fs0))] H := fun i q hi => by
    cases i with
    | zero => cases hi; exact hP k _ he
    | succ i => cases hi
  have hF := va_free (wc := [(v, .inr (ci, fs0))]) hD hS hA [k] hC
  have hp : PreS s H (va_Pc [.ref v] (fun U => U.heap.size = H.size ∧ va_P D vwCl [(v, .inr (ci, fs0))] U.heap ∧ va_K D vwCl [(cI, .int)] U ∧ zz_N U)) [.ref v] := by
    refine ⟨fun a U g mk q => ?_, fun U hU hW => ⟨rfl, by rw [hU], by rw [hU]; exact hPc, va_K.moved hW.alike hK, zz_N.warm hW hN⟩⟩
    obtain ⟨q0, q1, qP, qK, qN⟩ := q
    exact ⟨q0, q1, qP, va_K.moved (u := U) (U := U.calling g mk a) (Vm.Alike.refl U.vm) qK, zz_N.same (u := U) rfl qN⟩
  have hrun : va_Run p l e R s m args below meth c H locs kc ks rm.cells rm.slots (F0 m pc ls (.ref v :: st)) st (fun st oc t => oc = .returned none ∧ (∃ w, F v w ∧ va_P D vwCl w t.heap ∧ va_D (va_A [(v, .inr (ci, fs0))] H.size) w) ∧ va_F (va_A [(v, .inr (ci, fs0))] H.size) st t) (va_A [(v, .inr (ci, fs0))] H.size) := by
    rcases hlink with hk | ⟨host, hk⟩
    · exact va_runI (Ts := zz_gW) (As := []) (n := 0) ⟨hx, hb, hml, hown, hts⟩ (hM v H.size) ⟨⟨rfl, rfl, hR.1, hR.2, pay_in hts (zz_good h4), List.mem_cons_self, hts _ h4, hts _ h3, h5, zz_len h7, hts _ hk⟩, h6, hts _ h1⟩ hp rfl rfl hl.1 rfl (lv_room hcat) hd hf
    · exact va_runIN (Ts := zz_gW) (As := []) (n := 0) ⟨hx, hb, hml, hown, hts⟩ (hM v H.size) ⟨⟨⟨rfl, rfl, hR.1, hR.2, pay_in hts (zz_good h4), List.mem_cons_self⟩, hts _ h4, hts _ h3, h5, zz_len h7, va_Nw.use rfl (hN.2 _ hk)⟩, h6, hts _ h1⟩ hp rfl rfl hl.1 rfl (lv_room hcat) hd hf
  intro T hT X
  obtain ⟨w0, st₀, t, T', Lc, h0, X', hLc, e1, e2, ⟨hv, ⟨w, hFw, hP1, hD1⟩, hz, hkp⟩, stp⟩ := hrun T hT X
  cases hv
  rw [h0] at hz hkp
  obtain ⟨hPj, hDj⟩ := va_join hP hD [k] isR hC hr hnd hdis (fun q h1 h2 => by rw [e1]; exact hkp q h1 h2) hF (by rw [e1]; exact hP1) hD1 (H1 := T'.heap)
  obtain ⟨t2, a1, b1⟩ := kk w hFw T'.heap (locs ++ Lc) ls hPj hDj
    ⟨Nat.le_trans hS.1 (by rw [e1]; exact hz), fun q g1 g2 => by rw [e1, hkp q (Nat.lt_of_lt_of_le g1 hS.1) (fun z => g2 (hF q z))]; exact hS.2.1 q g1 g2, fun q hq => by
      rcases List.mem_append.mp hq with h | h
      · exact hS.2.2 q h
      · exact hF _ (hLc q h)⟩ hl T' rfl X'
  exact ⟨t2, stp t2 a1, b1⟩
/-- Arrays.fill over the array at place k -/
theorem zz_ufill (n : Nat) (C : zz_C p R s m args meth c D cI own cc nL ret 0 0) {idx v k N dd : Nat} {x : Int32} {f g : Nat → Int32} (hd : decode cc pc = .ok (.invokestatic idx, 3)) (hn : pc + 3 = n) (hw : zz_MS own idx yJ7_fill_53178 cJ7_fill_53178 4 none 2) (hM : ∀ ad : Nat → Nat, ∃ M', M' 0 = g ∧ zz_K l D [.inl N] cI ad dd yJ7_fill_53178 cJ7_fill_53178 4 none [.ref (ad 0), .int x] (fun _ => f) none M')
    (he : ws[k]? = some (v, .inl (cI, N, .inl f))) (hA : ∀ q : Nat, s.heap.size ≤ q → A q) (hcat : (st.map fun v => v.category).sum ≤ 8) (hR : dd + 1 ≤ R.frames ∧ 8 + (4 + 11) + 64 * dd ≤ R.locals) (hkc : kc ≤ R.cells ∧ ks ≤ R.slots) (hw' : ws.set k (v, .inl (cI, N, .inl g)) = ws')
    (kk : zz_U p l e R s m args below meth c D A nL Q kc ks n L st ws') : zz_U p l e R s m args below meth c D A nL Q kc ks pc L (.int x :: .ref v :: st) ws := by
  subst hn; subst hw'
  intro H locs ls hP hD hS hl
  obtain ⟨M', hg, hM⟩ := hM (fun _ => v)
  have hC' : zz_C p R s m args meth c D cI own cc nL ret kc ks := ⟨C.1, C.2.1, C.2.2.1, C.2.2.2.1, C.2.2.2.2.1, C.2.2.2.2.2.1, C.2.2.2.2.2.2.1, C.2.2.2.2.2.2.2.1, C.2.2.2.2.2.2.2.2.1, hkc.1, hkc.2⟩
  have hPc : va_P D vwCl (zz_cells [.inl N] cI (fun _ => v) (fun _ => f)) H := fun i q hi => by
    cases i with
    | zero => cases hi; exact hP k _ he
    | succ i => cases hi
  have hDc : va_D A (zz_cells [.inl N] cI (fun _ => v) (fun _ => f)) := zz_D1 (hD.2 k _ he)
  have hAA : ∀ q, zz_A [.inl N] (fun _ => v) q → A q := zz_A_of hDc
  refine zz_run (zz_runS hC' hd hw hM rfl rfl hcat hR hPc hDc hl.1) hS hAA (fun H1 locs1 hz hk hP1 _ hS1 => ?_)
  refine kk H1 locs1 ls (fun i q hi => ?_) (hD.set he) hS1 hl
  by_cases hik : i = k
  · subst hik
    have hlt := (List.getElem?_eq_some_iff.mp he).1
    rw [List.getElem?_set_self hlt] at hi
    cases hi
    have := hP1 0 (v, .inl (cI, N, .inl (M' 0))) rfl
    rwa [hg] at this
  · rw [List.getElem?_set_ne (fun z => hik z.symm)] at hi
    refine (hP i q hi).kept (hk q.1 (hP i q hi).lt (fun z => ?_))
    obtain ⟨_, _, hq⟩ := z
    exact hik (hD.1 i k q _ hi he hq)
/-- the end of a constructor -/
theorem zz_uret {h0 ci : Nat} {fs0 : List Value} {F : Nat → va_W → Prop} (C : zz_C p R s m args meth c D cI own cc nL none 0 0) (hd : decode cc pc = .ok (.return_, 1)) (hF : F h0 ws) : zz_U p l e R s m args below meth c D (va_A [(h0, .inr (ci, fs0))] s.heap.size) nL (MQ below (fun _ st oc t => oc = .returned none ∧ (∃ w, F h0 w ∧ va_P D vwCl w t.heap ∧ va_D (va_A [(h0, .inr (ci, fs0))] s.heap.size) w) ∧ va_F (va_A [(h0, .inr (ci, fs0))] s.heap.size) st t) args s kc ks (va_A [(h0, .inr (ci, fs0))] s.heap.size)) kc ks pc L [] ws := by
  intro H locs ls hP hD hS hl
  have hlk := C.2.2.2.2.2.2.2.2.1
  exact W.vret C.1 C.2.1 C.2.2.2.2.2.2.2.1 (fun t ht hW => ⟨rfl, ⟨ws, hF, by rw [ht]; exact hP, hD⟩, hS.F ht⟩) hS.2.2 hd hlk
end ZU
theorem zz_ientry {l : Launch} {D : va_G} {cI : ClassId} {R : Room} {y : MethodName} {cc : ByteArray} {maxL ci : Nat} {fs0 : List Value} {F : Nat → va_W → Prop} {own : String} (hy : plainName y.cls = true) (ho : y.cls = own) (hnm : y.name = "<init>") (hlen : 1 ≤ maxL)
    (body : ∀ (p : Program) (e : Env) (s : State) (m : MethodId) (args : Array Value) (below : List Frame) (meth : Method) (c : Code) (h0 : Nat), zz_C p R s m args meth c D cI own cc maxL none 0 0 → meth.name = "<init>" → (∀ q : Nat, s.heap.size ≤ q → va_A [(h0, .inr (ci, fs0))] s.heap.size q) → zz_U p l e R s m args below meth c D (va_A [(h0, .inr (ci, fs0))] s.heap.size) maxL (MQ below (fun _ st oc t => oc = .returned none ∧ (∃ w, F h0 w ∧ va_P D vwCl w t.heap ∧ va_D (va_A [(h0, .inr (ci, fs0))] s.heap.size) w) ∧ va_F (va_A [(h0, .inr (ci, fs0))] s.heap.size) st t) args s R.cells R.slots (va_A [(h0, .inr (ci, fs0))] s.heap.size)) 0 0 0 [(0, .ref h0)] [] [(h0, .inr (ci, fs0))]) : zz_I l D cI R y cc maxL ci fs0 F := by
  intro h0 sz
  refine Met.ofW (cc := cc) (maxL := maxL) (ret := none) hy rfl ?_
  intro p e s m args below meth c s₁ B hml hv
  obtain ⟨rfl, hsz, hP, hK, hN⟩ := hv
  subst hsz
  have hts := atoms_spec (ws := .code y cc maxL none :: zz_gW) B.pre
  have hown : s.vm.findClass own = some m.cls := by rw [← ho]; exact findClass_of_methodNamed B.named
  have hin : meth.name = "<init>" := (name_of_methodNamed B.named B.method).1.trans hnm
  rw [lg_entry_eq]
  exact body p e s m _ below meth c h0 ⟨B.exec, B.bytes, hml, hown, fun w hw => hts w (List.mem_cons_of_mem _ hw), hK, hN, B.returns, B.notSynchronized, Nat.zero_le _, Nat.zero_le _⟩ hin (fun q h => Or.inr h) s.heap [] _ hP (zz_D1 (Or.inl ⟨0, _, rfl⟩)) va_S.rf (lv_entry [.ref h0] hlen)
