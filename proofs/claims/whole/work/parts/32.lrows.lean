/-! THE LAW'S ROWS: two fixed worlds side by side, the script -/
theorem zz_D_adr {A : Nat → Prop} {ws ws' : va_W} (hD : va_D A ws) (h : ws'.map Prod.fst = ws.map Prod.fst) : va_D A ws' := by
  have key : ∀ (k : Nat) (q : Nat × va_E), ws'[k]? = some q → ∃ q0, ws[k]? = some q0 ∧ q0.1 = q.1 := by
    intro k q hq
    have h1 : (ws'.map Prod.fst)[k]? = some q.1 := by rw [List.getElem?_map, hq]; rfl
    rw [h, List.getElem?_map] at h1
    cases hw : ws[k]? with
    | none => rw [hw] at h1; cases h1
    | some q0 => rw [hw] at h1; exact ⟨q0, rfl, Option.some.inj h1⟩
  refine ⟨fun i j x y hx hy hxy => ?_, fun k q hq => ?_⟩
  · obtain ⟨x0, h1, h2⟩ := key i x hx
    obtain ⟨y0, h3, h4⟩ := key j y hy
    exact hD.1 i j x0 y0 h1 h3 (by rw [h2, h4, hxy])
  · obtain ⟨q0, h1, h2⟩ := key k q hq
    rw [← h2]
    exact hD.2 k q0 h1
theorem zz_adr (S : List zz_Sh) (cI : ClassId) (ad : Nat → Nat) (M M' : zz_Mem) : (zz_cells S cI ad M').map Prod.fst = (zz_cells S cI ad M).map Prod.fst := by
  apply List.ext_getElem?
  intro k
  rw [List.getElem?_map, List.getElem?_map]
  cases h : S[k]? with
  | none => simp [zz_cells, List.getElem?_mapIdx, h]
  | some sh => rw [zz_cells_at h, zz_cells_at h]; simp [zz_cel_ad]
theorem zz_P_app {D : va_G} {w1 w2 : va_W} {H : Heap} (h : va_P D vwCl (w1 ++ w2) H) : va_P D vwCl w1 H ∧ va_P D vwCl w2 H := by
  refine ⟨fun k q hk => ?_, fun k q hk => ?_⟩
  · have hl := (List.getElem?_eq_some_iff.mp hk).1
    exact h k q (by rw [List.getElem?_append_left hl]; exact hk)
  · exact h (w1.length + k) q (by rw [List.getElem?_append_right (by omega)]; simpa using hk)
theorem zz_D_app {A : Nat → Prop} {w1 w2 : va_W} (h : va_D A (w1 ++ w2)) : va_D A w1 ∧ va_D A w2 ∧ ∀ (i j : Nat) (x y : Nat × va_E), w1[i]? = some x → w2[j]? = some y → x.1 ≠ y.1 := by
  refine ⟨⟨fun i j x y hi hj hxy => ?_, fun k q hk => ?_⟩, ⟨fun i j x y hi hj hxy => ?_, fun k q hk => ?_⟩, fun i j x y hi hj hxy => ?_⟩
  · have l1 := (List.getElem?_eq_some_iff.mp hi).1
    have l2 := (List.getElem?_eq_some_iff.mp hj).1
    exact h.1 i j x y (by rw [List.getElem?_append_left l1]; exact hi) (by rw [List.getElem?_append_left l2]; exact hj) hxy
  · have hl := (List.getElem?_eq_some_iff.mp hk).1
    exact h.2 k q (by rw [List.getElem?_append_left hl]; exact hk)
  · have := h.1 (w1.length + i) (w1.length + j) x y (by rw [List.getElem?_append_right (by omega)]; simpa using hi) (by rw [List.getElem?_append_right (by omega)]; simpa using hj) hxy
    omega
  · exact h.2 (w1.length + k) q (by rw [List.getElem?_append_right (by omega)]; simpa using hk)
  · have l1 := (List.getElem?_eq_some_iff.mp hi).1
    have := h.1 i (w1.length + j) x y (by rw [List.getElem?_append_left l1]; exact hi) (by rw [List.getElem?_append_right (by omega)]; simpa using hj) hxy
    omega
theorem zz_A_in {S : List zz_Sh} {cI : ClassId} {ad : Nat → Nat} {M : zz_Mem} {q : Nat} (h : zz_A S ad q) : ∃ (k : Nat) (x : Nat × va_E), (zz_cells S cI ad M)[k]? = some x ∧ x.1 = q := by
  obtain ⟨k, hk, rfl⟩ := h
  exact ⟨k, _, zz_cells_at (List.getElem?_eq_getElem hk), zz_cel_ad⟩
section ZL
variable {p : Program} {l : Launch} {e : Env} {R : Room} {s : State} {m : MethodId} {args : Array Value} {below : List Frame} {meth : Method} {c : Code} {D : va_G} {cI : ClassId} {A : Nat → Prop} {own : String} {cc : ByteArray} {nL kc ks : Nat} {ret : Option FieldType} {Q : State → Prop} {pc : Nat} {L L' : List (Nat × Value)} {st : List Value} {ws ws' : va_W}
theorem zz_uiload (n : Nat) (C : zz_C p R s m args meth c D cI own cc nL ret 0 0) {k : Fin 4} {v : Int32} (hd : decode cc pc = .ok (.iload_n k, 1)) (hn : pc + 1 = n) (q : Nat) (hq : L[q]? = some ((k : Nat), .int v)) (kk : zz_U p l e R s m args below meth c D A nL Q kc ks n L (.int v :: st) ws) : zz_U p l e R s m args below meth c D A nL Q kc ks pc L st ws := by
  subst hn
  exact fun H locs ls hP hD hS hl => lv_iload_n C.1 C.2.1 hd rfl (lv_at hl q hq) (kk H locs ls hP hD hS hl)
theorem zz_uistore (n : Nat) (C : zz_C p R s m args meth c D cI own cc nL ret 0 0) {k : Fin 4} {v : Int32} (hd : decode cc pc = .ok (.istore_n k, 1)) (hn : pc + 1 = n) (hi : (k : Nat) < nL) (hL : ((k : Nat), Value.int v) :: L.filter (fun q : Nat × Value => !(q.1 == (k : Nat)) && !(q.1 + 1 == (k : Nat) && q.2.category == 2)) = L') (kk : zz_U p l e R s m args below meth c D A nL Q kc ks n L' st ws) : zz_U p l e R s m args below meth c D A nL Q kc ks pc L (.int v :: st) ws := by
  subst hn
  exact fun H locs ls hP hD hS hl => lv_istore_n C.1 C.2.1 hd rfl hl hi hL (fun ls' hl' => kk H locs ls' hP hD hS hl')
theorem zz_uiinc (n : Nat) (C : zz_C p R s m args meth c D cI own cc nL ret 0 0) {i : Nat} {w : Int} {v z : Int32} (hd : decode cc pc = .ok (.iinc i w, 3)) (hn : pc + 3 = n) (hz : Int32.ofInt w = z) (q : Nat) (hq : L[q]? = some (i, .int v)) (hi : i < nL) (hL : (i, Value.int (v + z)) :: L.filter (fun q : Nat × Value => !(q.1 == i) && !(q.1 + 1 == i && q.2.category == 2)) = L') (kk : zz_U p l e R s m args below meth c D A nL Q kc ks n L' st ws) : zz_U p l e R s m args below meth c D A nL Q kc ks pc L st ws := by
  subst hn; subst hz
  exact fun H locs ls hP hD hS hl => lv_iinc C.1 C.2.1 hd hl hq rfl hi hL (fun ls' hl' => kk H locs ls' hP hD hS hl')
theorem zz_uiadd (n : Nat) (C : zz_C p R s m args meth c D cI own cc nL ret 0 0) {x y : Int32} (hd : decode cc pc = .ok (.iadd, 1)) (hn : pc + 1 = n) (kk : zz_U p l e R s m args below meth c D A nL Q kc ks n L (.int (x + y) :: st) ws) : zz_U p l e R s m args below meth c D A nL Q kc ks pc L (.int y :: .int x :: st) ws := by
  subst hn
  exact fun H locs ls hP hD hS hl => lv_iadd C.1 C.2.1 hd (kk H locs ls hP hD hS hl)
theorem zz_uisub (n : Nat) (C : zz_C p R s m args meth c D cI own cc nL ret 0 0) {x y : Int32} (hd : decode cc pc = .ok (.isub, 1)) (hn : pc + 1 = n) (kk : zz_U p l e R s m args below meth c D A nL Q kc ks n L (.int (x - y) :: st) ws) : zz_U p l e R s m args below meth c D A nL Q kc ks pc L (.int y :: .int x :: st) ws := by
  subst hn
  exact fun H locs ls hP hD hS hl => lv_isub C.1 C.2.1 hd (kk H locs ls hP hD hS hl)
theorem zz_uiand (n : Nat) (C : zz_C p R s m args meth c D cI own cc nL ret 0 0) {x y : Int32} (hd : decode cc pc = .ok (.iand, 1)) (hn : pc + 1 = n) (kk : zz_U p l e R s m args below meth c D A nL Q kc ks n L (.int (x &&& y) :: st) ws) : zz_U p l e R s m args below meth c D A nL Q kc ks pc L (.int y :: .int x :: st) ws := by
  subst hn
  exact fun H locs ls hP hD hS hl => lv_iand C.1 C.2.1 hd (kk H locs ls hP hD hS hl)
theorem zz_ugoto (n : Nat) (C : zz_C p R s m args meth c D cI own cc nL ret 0 0) {off : Int} (hd : decode cc pc = .ok (.goto off, 3)) (hn : (pc : Int) + off = (n : Int)) (kk : zz_U p l e R s m args below meth c D A nL Q kc ks n L st ws) : zz_U p l e R s m args below meth c D A nL Q kc ks pc L st ws :=
  fun H locs ls hP hD hS hl => lv_goto C.1 C.2.1 hd hn (kk H locs ls hP hD hS hl)
theorem zz_uicmp_gt (n t : Nat) (C : zz_C p R s m args meth c D cI own cc nL ret 0 0) {x y : Int32} {off : Int} (hd : decode cc pc = .ok (.if_icmp .gt off, 3)) (hn : pc + 3 = n) (ht : (pc : Int) + off = (t : Int)) (kt : y < x → zz_U p l e R s m args below meth c D A nL Q kc ks t L st ws) (kf : ¬ y < x → zz_U p l e R s m args below meth c D A nL Q kc ks n L st ws) : zz_U p l e R s m args below meth c D A nL Q kc ks pc L (.int y :: .int x :: st) ws := by
  subst hn
  exact fun H locs ls hP hD hS hl => lv_icmp_gt C.1 C.2.1 hd ht (fun h => kt h H locs ls hP hD hS hl) (fun h => kf h H locs ls hP hD hS hl)
theorem zz_uicmp_eq (t : Nat) (C : zz_C p R s m args meth c D cI own cc nL ret 0 0) {x : Int32} {off : Int} (hd : decode cc pc = .ok (.if_icmp .eq off, 3)) (ht : (pc : Int) + off = (t : Int)) (kt : zz_U p l e R s m args below meth c D A nL Q kc ks t L st ws) : zz_U p l e R s m args below meth c D A nL Q kc ks pc L (.int x :: .int x :: st) ws :=
  fun H locs ls hP hD hS hl => lv_icmp_eq C.1 C.2.1 hd ht (fun _ => kt H locs ls hP hD hS hl) (fun h => absurd rfl h)
theorem zz_utabOut (t : Nat) (C : zz_C p R s m args meth c D cI own cc nL ret 0 0) {dflt lo hi : Int} {offs : Array Int} {len : Nat} {x : Int32} (hd : decode cc pc = .ok (.tableswitch dflt lo hi offs, len)) (h : x.toInt < lo ∨ hi < x.toInt) (ht : (pc : Int) + dflt = (t : Int)) (kk : zz_U p l e R s m args below meth c D A nL Q kc ks t L st ws) : zz_U p l e R s m args below meth c D A nL Q kc ks pc L (.int x :: st) ws :=
  fun H locs ls hP hD hS hl => lv_tableOut C.1 C.2.1 hd h ht (kk H locs ls hP hD hS hl)
theorem zz_utabIn (t : Nat) (C : zz_C p R s m args meth c D cI own cc nL ret 0 0) {dflt lo hi : Int} {offs : Array Int} {len : Nat} {x k : Int32} {off : Int} (hd : decode cc pc = .ok (.tableswitch dflt lo hi offs, len)) (hx : x = k) (h1 : ¬ k.toInt < lo) (h2 : ¬ hi < k.toInt) (ho : offs[(k.toInt - lo).toNat]? = some off) (ht : (pc : Int) + off = (t : Int)) (kk : zz_U p l e R s m args below meth c D A nL Q kc ks t L st ws) : zz_U p l e R s m args below meth c D A nL Q kc ks pc L (.int x :: st) ws := by
  subst hx
  exact fun H locs ls hP hD hS hl => lv_tableIn C.1 C.2.1 hd h1 h2 ho ht (kk H locs ls hP hD hS hl)
theorem zz_uld (n : Nat) (C : zz_C p R s m args meth c D cI own cc nL ret 0 0) {b N : Nat} {xs : Nat → Int32} (hX : va_X b N xs s s.heap) (hbl : b < s.heap.size) (hbA : ¬ A b) {i : Int32} (hin : vp_in i N) (hd : decode cc pc = .ok (.iaload, 1)) (hn : pc + 1 = n) (kk : zz_U p l e R s m args below meth c D A nL Q kc ks n L (.int (xs i.toNatClampNeg) :: st) ws) : zz_U p l e R s m args below meth c D A nL Q kc ks pc L (.int i :: .ref b :: st) ws := by
  subst hn
  exact fun H locs ls hP hD hS hl => va_sld C.1 C.2.1 hX hbl hbA hS hin hd (kk H locs ls hP hD hS hl)
theorem zz_ulen (n : Nat) (C : zz_C p R s m args meth c D cI own cc nL ret 0 0) {b N : Nat} {xs : Nat → Int32} (hX : va_X b N xs s s.heap) (hbl : b < s.heap.size) (hbA : ¬ A b) (hd : decode cc pc = .ok (.arraylength, 1)) (hn : pc + 1 = n) (kk : zz_U p l e R s m args below meth c D A nL Q kc ks n L (.int (Int32.ofNat N) :: st) ws) : zz_U p l e R s m args below meth c D A nL Q kc ks pc L (.ref b :: st) ws := by
  subst hn
  exact fun H locs ls hP hD hS hl => va_slen C.1 C.2.1 hX hbl hbA hS hd (kk H locs ls hP hD hS hl)
theorem zz_usub (ks' : List Nat) (hL : lv_pick L ks' = L') (kk : zz_U p l e R s m args below meth c D A nL Q kc ks pc L' st ws) : zz_U p l e R s m args below meth c D A nL Q kc ks pc L st ws :=
  fun H locs ls hP hD hS hl => kk H locs ls hP hD hS (lv_sub hl ks' hL)
/-- a call on one of the two worlds: w1 before it, w2 behind it -/
theorem zz_ucall (n : Nat) {y : MethodName} {bytes : ByteArray} {maxL : Nat} {rt : Option FieldType} {np dd idx q ci : Nat} (As : List Value) {v : Int32} {st0 : List Value} {fs : List (Option Nat)} {vC : vw_C} {S : List zz_Sh} {ad : Nat → Nat} {M M' : zz_Mem} (w1 w2 : va_W) (C : zz_C p R s m args meth c D cI own cc nL ret 0 0) (hd : decode cc pc = .ok (.invokevirtual idx, 3)) (hn : pc + 3 = n) (hw : zz_MV own idx y bytes maxL rt np) (hM : zz_K l D S cI ad dd y bytes maxL rt (.ref (ad q) :: As) M (some (.int v)) M')
    (hs : S[q]? = some (.inr (ci, fs))) (hc : vwCl[ci]? = some vC) (hy : vC.1 = y.cls) (hnp : As.length = np) (hst : st0 = As.reverse ++ .ref (ad q) :: st) (hcat : (st.map fun v => v.category).sum ≤ 8) (hR : dd + 1 ≤ R.frames ∧ 8 + (maxL + 11) + 64 * dd ≤ R.locals) (hkc : kc ≤ R.cells ∧ ks ≤ R.slots)
    (kk : zz_U p l e R s m args below meth c D A nL Q kc ks n L (.int v :: st) (w1 ++ (zz_cells S cI ad M' ++ w2))) : zz_U p l e R s m args below meth c D A nL Q kc ks pc L st0 (w1 ++ (zz_cells S cI ad M ++ w2)) := by
  subst hn
  intro H locs ls hP hD hS hl
  have hC' : zz_C p R s m args meth c D cI own cc nL ret kc ks := ⟨C.1, C.2.1, C.2.2.1, C.2.2.2.1, C.2.2.2.2.1, C.2.2.2.2.2.1, C.2.2.2.2.2.2.1, C.2.2.2.2.2.2.2.1, C.2.2.2.2.2.2.2.2.1, hkc.1, hkc.2⟩
  obtain ⟨hP1, hPr⟩ := zz_P_app hP
  obtain ⟨hPc, hP2⟩ := zz_P_app hPr
  obtain ⟨hD1, hDr, hx1⟩ := zz_D_app hD
  obtain ⟨hDc, hD2, hx2⟩ := zz_D_app hDr
  refine zz_run (zz_runV hC' hd hw hM hs hc hy hnp hst hcat hR hPc hDc hl.1) hS (zz_A_of hDc) (fun H1 locs1 hz hk hPn _ hSn => ?_)
  refine kk H1 locs1 ls (va_P.app (fun k x hx => ?_) (va_P.app hPn (fun k x hx => ?_))) (zz_D_adr hD ?_) hSn hl
  · refine (hP1 k x hx).kept (hk x.1 (hP1 k x hx).lt (fun z => ?_))
    obtain ⟨j, x2, h1, h2⟩ := zz_A_in (cI := cI) (M := M) z
    have hlt := (List.getElem?_eq_some_iff.mp h1).1
    exact hx1 k j x x2 hx (by rw [List.getElem?_append_left hlt]; exact h1) h2.symm
  · refine (hP2 k x hx).kept (hk x.1 (hP2 k x hx).lt (fun z => ?_))
    obtain ⟨j, x2, h1, h2⟩ := zz_A_in (cI := cI) (M := M) z
    exact hx2 j k x2 x h1 hx h2
  · simp only [List.map_append, zz_adr S cI ad M M']
end ZL
