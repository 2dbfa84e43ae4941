section ZC
variable {p : Program} {l : Launch} {e : Env} {R : Room} {s : State} {m : MethodId} {args : Array Value} {below : List Frame} {meth : Method} {c : Code} {D : va_G} {S : List zz_Sh} {cI : ClassId} {ad : Nat → Nat} {A : Nat → Prop} {own : String} {cc : ByteArray} {nL kc ks : Nat} {ret : Option FieldType} {Q : State → Prop} {pc : Nat} {L L' : List (Nat × Value)} {st : List Value} {M M' : zz_Mem}
/-- behind a call -/
theorem zz_run {H : Heap} {locs : List Loc} {ls : Array Slot} {st0 rest : List Value} {v : Option Value} {a : Array Value} (hr : va_Run p l e R s m args below meth c H locs kc ks 0 0 (F0 m pc ls st0) rest (zz_Q D S cI ad v M' a) (zz_A S ad)) (hS : va_S A s.heap H locs) (hA : ∀ q, zz_A S ad q → A q)
    (kk : ∀ (H1 : Heap) (locs1 : List Loc), H.size ≤ H1.size → (∀ q : Nat, q < H.size → ¬ zz_A S ad q → H1[q]? = H[q]?) → va_P D vwCl (zz_cells S cI ad M') H1 → va_D (zz_A S ad) (zz_cells S cI ad M') → va_S A s.heap H1 locs1 → W p l e R s m args below meth c H1 locs1 kc ks Q (F0 m (pc + 3) ls (v.toList ++ rest))) : W p l e R s m args below meth c H locs kc ks Q (F0 m pc ls st0) := by
  intro T hT X
  obtain ⟨w, st₀, t, T', L, h0, X', hL, e1, e2, ⟨hv, ⟨hP1, -, hD1, -⟩, hz, hk⟩, stp⟩ := hr T hT X
  cases hv
  rw [h0] at hz hk
  obtain ⟨t2, a1, b1⟩ := kk T'.heap (locs ++ L) (by rw [e1]; exact hz) (fun q h1 h2 => by rw [e1]; exact hk q h1 h2) (by rw [e1]; exact hP1) hD1
    ⟨Nat.le_trans hS.1 (by rw [e1]; exact hz), fun q h1 h2 => by rw [e1, hk q (Nat.lt_of_lt_of_le h1 hS.1) (fun z => h2 (hA q z))]; exact hS.2.1 q h1 h2, fun q hq => by
      rcases List.mem_append.mp hq with h | h
      · exact hS.2.2 q h
      · exact hA _ (hL q h)⟩ T' rfl X'
  exact ⟨t2, stp t2 a1, b1⟩
theorem zz_blind {av : List Value} : FrameBlind (va_Pc av (zz_Wd D S cI ad M)) := fun a U g mk q => by
  obtain ⟨q0, qP, qK, qD, qN⟩ := q
  exact ⟨q0, qP, va_K.moved (u := U) (U := U.calling g mk a) (Vm.Alike.refl U.vm) qK, qD, zz_N.same (u := U) rfl qN⟩
theorem zz_pre {av : List Value} {H : Heap} (hK : va_K D vwCl [(cI, .int)] s) (hN : zz_N s) (hP : va_P D vwCl (zz_cells S cI ad M) H) (hD : va_D A (zz_cells S cI ad M)) : ∀ U : State, U.heap = H → s.WarmedH U.vm → va_Pc av (zz_Wd D S cI ad M) av.toArray U :=
  fun U hU hW => ⟨rfl, by rw [hU]; exact hP, va_K.moved hW.alike hK, hD.weaken (fun k q hk _ => by
    have hlt : k < S.length := by
      have := (List.getElem?_eq_some_iff.mp hk).1
      rwa [zz_cells_len] at this
    refine ⟨k, hlt, ?_⟩
    rw [zz_cells_at (List.getElem?_eq_getElem hlt)] at hk
    cases hk
    exact zz_cel_ad), zz_N.warm hW hN⟩
/-- what a call needs of the words: an instance method, a static one -/
def zz_MV (own : String) (idx : Nat) (y : MethodName) (bytes : ByteArray) (maxL : Nat) (ret : Option FieldType) (np : Nat) : Prop :=
  (Cond.methodLink own idx y ∈ zz_gW ∨ ∃ host, (own, idx, y, host) ∈ zz_nM) ∧ Cond.instanceMethod y ∈ zz_gW ∧ Cond.selects y.cls y y ∈ zz_gW ∧ Cond.initialized y.cls ∈ zz_gW ∧ Cond.code y bytes maxL ret ∈ zz_gW ∧ (y.cls ≠ "java/lang/invoke/MethodHandle" ∧ y.cls ≠ "java/lang/invoke/VarHandle") ∧ (parseMethodDescriptor y.desc).map (fun d => d.parameters.length) = some np
def zz_MS (own : String) (idx : Nat) (y : MethodName) (bytes : ByteArray) (maxL : Nat) (ret : Option FieldType) (np : Nat) : Prop :=
  (Cond.methodLink own idx y ∈ zz_gW ∨ ∃ host, (own, idx, y, host) ∈ zz_nM) ∧ Cond.static y ∈ zz_gW ∧ Cond.initialized y.cls ∈ zz_gW ∧ Cond.code y bytes maxL ret ∈ zz_gW ∧ (y.cls ≠ "java/lang/invoke/MethodHandle" ∧ y.cls ≠ "java/lang/invoke/VarHandle") ∧ (parseMethodDescriptor y.desc).map (fun d => d.parameters.length) = some np
theorem zz_len {y : MethodName} {np : Nat} (h : (parseMethodDescriptor y.desc).map (fun d => d.parameters.length) = some np) : ∀ sig, parseMethodDescriptor y.desc = some sig → np = sig.parameters.length := fun sig hs => by
  rw [hs] at h
  exact (Option.some.inj h).symm
/-- an instance method: the run, in any world that holds the callee's -/
theorem zz_runV {y : MethodName} {bytes : ByteArray} {maxL : Nat} {rt : Option FieldType} {np dd idx q ci : Nat} {As : List Value} {rest : List Value} {v : Option Value} {H : Heap} {locs : List Loc} {ls : Array Slot} {st0 : List Value} {fs : List (Option Nat)} {vC : vw_C} (C : zz_C p R s m args meth c D cI own cc nL ret kc ks) (hd : decode cc pc = .ok (.invokevirtual idx, 3)) (hw : zz_MV own idx y bytes maxL rt np) (hM : zz_K l D S cI ad dd y bytes maxL rt (.ref (ad q) :: As) M v M')
    (hs : S[q]? = some (.inr (ci, fs))) (hc : vwCl[ci]? = some vC) (hy : vC.1 = y.cls) (hn : As.length = np) (hst : st0 = As.reverse ++ .ref (ad q) :: rest) (hcat : (rest.map fun v => v.category).sum ≤ 8) (hR : dd + 1 ≤ R.frames ∧ 8 + (maxL + 11) + 64 * dd ≤ R.locals) (hP : va_P D vwCl (zz_cells S cI ad M) H) (hD : va_D A (zz_cells S cI ad M)) (hls : ls.size = nL) :
    va_Run p l e R s m args below meth c H locs kc ks 0 0 (F0 m pc ls st0) rest (zz_Q D S cI ad v M' (Value.ref (ad q) :: As).toArray) (zz_A S ad) := by
  obtain ⟨hx, hb, hml, hown, hts, hK, hN, hr, hlk, hkc, hks⟩ := C
  obtain ⟨hlink, h1, h2, h3, h4, h5, h6⟩ := hw
  have hpre := zz_pre (av := .ref (ad q) :: As) hK hN hP hD
  have hrc : ∃ cellB : Cell, H[ad q]? = some cellB ∧ cellB.vm.isStatics = false ∧ s.vm.findClass y.cls = some cellB.cls := by
    rw [← hy]
    exact va_recv hK hP (ci := ci) (q0 := q) hc (zz_cells_at hs)
  rcases hlink with hk | ⟨host, hk⟩
  · exact va_runV (Ts := zz_gW) ⟨hx, hb, hml, hown, hts⟩ hM ⟨⟨rfl, rfl, hR.1, hR.2, pay_in hts (zz_good h4), List.mem_cons_self, hts _ h4, hts _ h3, h5, zz_len h6, hts _ hk⟩, hts _ h1, hts _ h2⟩ ⟨zz_blind, hrc, hpre⟩ rfl hn hls hst (lv_room hcat) hd ⟨hkc, hks⟩
  · exact va_runVN (Ts := zz_gW) ⟨hx, hb, hml, hown, hts⟩ hM ⟨⟨⟨rfl, rfl, hR.1, hR.2, pay_in hts (zz_good h4), List.mem_cons_self⟩, hts _ h4, hts _ h3, h5, zz_len h6, va_Nw.use rfl (hN.2 _ hk)⟩, hts _ h1, hts _ h2⟩ ⟨zz_blind, hrc, hpre⟩ rfl hn hls hst (lv_room hcat) hd ⟨hkc, hks⟩
theorem zz_runS {y : MethodName} {bytes : ByteArray} {maxL : Nat} {rt : Option FieldType} {np dd idx : Nat} {As : List Value} {rest : List Value} {v : Option Value} {H : Heap} {locs : List Loc} {ls : Array Slot} {st0 : List Value} (C : zz_C p R s m args meth c D cI own cc nL ret kc ks) (hd : decode cc pc = .ok (.invokestatic idx, 3)) (hw : zz_MS own idx y bytes maxL rt np) (hM : zz_K l D S cI ad dd y bytes maxL rt As M v M')
    (hn : As.length = np) (hst : st0 = As.reverse ++ rest) (hcat : (rest.map fun v => v.category).sum ≤ 8) (hR : dd + 1 ≤ R.frames ∧ 8 + (maxL + 11) + 64 * dd ≤ R.locals) (hP : va_P D vwCl (zz_cells S cI ad M) H) (hD : va_D A (zz_cells S cI ad M)) (hls : ls.size = nL) :
    va_Run p l e R s m args below meth c H locs kc ks 0 0 (F0 m pc ls st0) rest (zz_Q D S cI ad v M' As.toArray) (zz_A S ad) := by
  obtain ⟨hx, hb, hml, hown, hts, hK, hN, hr, hlk, hkc, hks⟩ := C
  obtain ⟨hlink, h1, h3, h4, h5, h6⟩ := hw
  have hpre := zz_pre (av := As) hK hN hP hD
  rcases hlink with hk | ⟨host, hk⟩
  · exact va_runS (Ts := zz_gW) ⟨hx, hb, hml, hown, hts⟩ hM ⟨⟨rfl, rfl, hR.1, hR.2, pay_in hts (zz_good h4), List.mem_cons_self, hts _ h4, hts _ h3, h5, zz_len h6, hts _ hk⟩, hts _ h1⟩ ⟨zz_blind, hpre⟩ rfl hn hls hst (lv_room hcat) hd ⟨hkc, hks⟩
  · exact va_runSN (Ts := zz_gW) ⟨hx, hb, hml, hown, hts⟩ hM ⟨⟨⟨rfl, rfl, hR.1, hR.2, pay_in hts (zz_good h4), List.mem_cons_self⟩, hts _ h4, hts _ h3, h5, zz_len h6, va_Nw.use rfl (hN.2 _ hk)⟩, hts _ h1, trivial⟩ ⟨zz_blind, hpre⟩ rfl hn hls hst (lv_room hcat) hd ⟨hkc, hks⟩
/-- the rows of a call: vs is what lies on the stack behind it -/
theorem zz_callV (n : Nat) {y : MethodName} {bytes : ByteArray} {maxL : Nat} {rt : Option FieldType} {np dd idx q ci : Nat} (As : List Value) {v : Option Value} {st0 vs : List Value} {fs : List (Option Nat)} {vC : vw_C} (C : zz_C p R s m args meth c D cI own cc nL ret kc ks) (hd : decode cc pc = .ok (.invokevirtual idx, 3)) (hn : pc + 3 = n) (hw : zz_MV own idx y bytes maxL rt np) (hM : zz_K l D S cI ad dd y bytes maxL rt (.ref (ad q) :: As) M v M')
    (hs : S[q]? = some (.inr (ci, fs))) (hc : vwCl[ci]? = some vC) (hy : vC.1 = y.cls) (hnp : As.length = np) (hst : st0 = As.reverse ++ .ref (ad q) :: st) (hvs : v.toList ++ st = vs) (hcat : (st.map fun v => v.category).sum ≤ 8) (hR : dd + 1 ≤ R.frames ∧ 8 + (maxL + 11) + 64 * dd ≤ R.locals)
    (kk : zz_V p l e R s m args below meth c D S cI ad A nL kc ks Q n L vs M') : zz_V p l e R s m args below meth c D S cI ad A nL kc ks Q pc L st0 M := by
  subst hn; subst hvs
  intro H locs ls hP hD hS hl
  exact zz_run (zz_runV C hd hw hM hs hc hy hnp hst hcat hR hP hD hl.1) hS (zz_A_of hD) (fun H1 locs1 _ _ hP1 _ hS1 => kk H1 locs1 ls hP1 (zz_D_mem hD) hS1 hl)
theorem zz_callS (n : Nat) {y : MethodName} {bytes : ByteArray} {maxL : Nat} {rt : Option FieldType} {np dd idx : Nat} (As : List Value) {v : Option Value} {st0 vs : List Value} (C : zz_C p R s m args meth c D cI own cc nL ret kc ks) (hd : decode cc pc = .ok (.invokestatic idx, 3)) (hn : pc + 3 = n) (hw : zz_MS own idx y bytes maxL rt np) (hM : zz_K l D S cI ad dd y bytes maxL rt As M v M')
    (hnp : As.length = np) (hst : st0 = As.reverse ++ st) (hvs : v.toList ++ st = vs) (hcat : (st.map fun v => v.category).sum ≤ 8) (hR : dd + 1 ≤ R.frames ∧ 8 + (maxL + 11) + 64 * dd ≤ R.locals)
    (kk : zz_V p l e R s m args below meth c D S cI ad A nL kc ks Q n L vs M') : zz_V p l e R s m args below meth c D S cI ad A nL kc ks Q pc L st0 M := by
  subst hn; subst hvs
  intro H locs ls hP hD hS hl
  exact zz_run (zz_runS C hd hw hM hnp hst hcat hR hP hD hl.1) hS (zz_A_of hD) (fun H1 locs1 _ _ hP1 _ hS1 => kk H1 locs1 ls hP1 (zz_D_mem hD) hS1 hl)
/-- the ends -/
theorem zz_iret {v : Int32} {w : Option Value} (C : zz_C p R s m args meth c D cI own cc nL (some .int) 0 0) (hd : decode cc pc = .ok (.ireturn, 1)) (hv : w = some (.int v)) (hM : M' = M) : zz_V p l e R s m args below meth c D S cI ad (zz_A S ad) nL 0 0 (MQ below (zz_Q D S cI ad w M') args s 0 0 (zz_A S ad)) pc L [.int v] M := by
  subst hv; subst hM
  intro H locs ls hP hD hS hl
  have hlk := C.2.2.2.2.2.2.2.2.1
  exact W.iret (v := v) C.1 C.2.1 C.2.2.2.2.2.2.2.1 (fun t ht hW => ⟨rfl, ⟨by rw [ht]; exact hP, va_K.moved hW.alike C.2.2.2.2.2.1, hD, zz_N.warm hW C.2.2.2.2.2.2.1⟩, hS.F ht⟩) hS.2.2 hd hlk
theorem zz_zret {v : Int32} {w : Option Value} (C : zz_C p R s m args meth c D cI own cc nL (some .boolean) 0 0) (hd : decode cc pc = .ok (.ireturn, 1)) (hv : w = some (.int v)) (hM : M' = M) (hz : v &&& 1 = v) : zz_V p l e R s m args below meth c D S cI ad (zz_A S ad) nL 0 0 (MQ below (zz_Q D S cI ad w M') args s 0 0 (zz_A S ad)) pc L [.int v] M := by
  subst hv; subst hM
  intro H locs ls hP hD hS hl
  have hlk := C.2.2.2.2.2.2.2.2.1
  exact W.zret (v := v) C.1 C.2.1 C.2.2.2.2.2.2.2.1 (by show Value.int (v &&& 1) = _; rw [hz]) (fun t ht hW => ⟨rfl, ⟨by rw [ht]; exact hP, va_K.moved hW.alike C.2.2.2.2.2.1, hD, zz_N.warm hW C.2.2.2.2.2.2.1⟩, hS.F ht⟩) hS.2.2 hd hlk
theorem zz_vret {w : Option Value} (C : zz_C p R s m args meth c D cI own cc nL none 0 0) (hd : decode cc pc = .ok (.return_, 1)) (hv : w = none) (hM : M' = M) : zz_V p l e R s m args below meth c D S cI ad (zz_A S ad) nL 0 0 (MQ below (zz_Q D S cI ad w M') args s 0 0 (zz_A S ad)) pc L [] M := by
  subst hv; subst hM
  intro H locs ls hP hD hS hl
  have hlk := C.2.2.2.2.2.2.2.2.1
  exact W.vret C.1 C.2.1 C.2.2.2.2.2.2.2.1 (fun t ht hW => ⟨rfl, ⟨by rw [ht]; exact hP, va_K.moved hW.alike C.2.2.2.2.2.1, hD, zz_N.warm hW C.2.2.2.2.2.2.1⟩, hS.F ht⟩) hS.2.2 hd hlk
end ZC
/-- a contract out of a walk of the body -/
theorem zz_entry {l : Launch} {D : va_G} {S : List zz_Sh} {cI : ClassId} {ad : Nat → Nat} {d : Nat} {y : MethodName} {cc : ByteArray} {maxL : Nat} {ret : Option FieldType} {av : List Value} {M : zz_Mem} {v : Option Value} {M' : zz_Mem} {own : String} {L : List (Nat × Value)} (hy : plainName y.cls = true) (ho : y.cls = own) (hlen : (lg_sl av).length ≤ maxL) (hL : lv_args 0 av = L)
    (body : ∀ (p : Program) (e : Env) (s : State) (m : MethodId) (args : Array Value) (below : List Frame) (meth : Method) (c : Code), zz_C p (zz_rm d) s m args meth c D cI own cc maxL ret 0 0 → zz_V p l e (zz_rm d) s m args below meth c D S cI ad (zz_A S ad) maxL 0 0 (MQ below (zz_Q D S cI ad v M') args s 0 0 (zz_A S ad)) 0 L [] M) : zz_K l D S cI ad d y cc maxL ret av M v M' := by
  subst hL
  refine Met.ofW (cc := cc) (maxL := maxL) (ret := ret) hy rfl ?_
  intro p e s m args below meth c s₁ B hml hv
  obtain ⟨rfl, hP, hK, hD, hN⟩ := hv
  have hts := atoms_spec (ws := .code y cc maxL ret :: zz_gW) B.pre
  have hown : s.vm.findClass own = some m.cls := by rw [← ho]; exact findClass_of_methodNamed B.named
  rw [lg_entry_eq]
  exact body p e s m _ below meth c ⟨B.exec, B.bytes, hml, hown, fun w hw => hts w (List.mem_cons_of_mem _ hw), hK, hN, B.returns, B.notSynchronized, Nat.le_refl 0, Nat.le_refl 0⟩ s.heap [] _ hP hD va_S.rf (lv_entry av hlen)
