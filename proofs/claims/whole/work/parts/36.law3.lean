theorem zz_nd : ∀ l : List Nat, l.Nodup → va_nd l = true
  | [], _ => rfl
  | a :: l, h => by
    rw [List.nodup_cons] at h
    simp [va_nd, h.1, zz_nd l h.2]
theorem zz_uinitE {p : Program} {l : Launch} {e : Env} {R : Room} {s : State} {m : MethodId} {args : Array Value} {below : List Frame} {meth : Method} {c : Code} {D : va_G} {cI : ClassId} {A : Nat → Prop} {own : String} {cc : ByteArray} {nL kc ks : Nat} {ret : Option FieldType} {Q : State → Prop} {pc : Nat} {L : List (Nat × Value)} {st : List Value} {wr : va_W} (n : Nat) (C : zz_C p R s m args meth c D cI own cc nL ret 0 0) {idx v ci maxL : Nat} {y : MethodName} {bytes : ByteArray} {fs0 : List Value} {F : Nat → va_W → Prop} {rm : Room} (hd : decode cc pc = .ok (.invokespecial idx, 3)) (hn : pc + 3 = n) (hM : zz_I l D cI rm y bytes maxL ci fs0 F) (hw : (Cond.methodLink own idx y ∈ zz_gW ∨ ∃ host, (own, idx, y, host) ∈ zz_nM) ∧ Cond.instanceMethod y ∈ zz_gW ∧ Cond.initialized y.cls ∈ zz_gW ∧ Cond.code y bytes maxL none ∈ zz_gW ∧ (y.cls ≠ "java/lang/invoke/MethodHandle" ∧ y.cls ≠ "java/lang/invoke/VarHandle") ∧ y.name = "<init>" ∧ (parseMethodDescriptor y.desc).map (fun d => d.parameters.length) = some 0)
    (hA : ∀ q : Nat, s.heap.size ≤ q → A q) (hcat : (st.map fun v => v.category).sum ≤ 8) (hR : rm.frames + 1 ≤ R.frames ∧ 8 + (maxL + 11) + rm.locals ≤ R.locals) (hf : kc + rm.cells ≤ R.cells ∧ ks + rm.slots ≤ R.slots)
    (kk : ∀ w, F v w → zz_U p l e R s m args below meth c D A nL Q (kc + rm.cells) (ks + rm.slots) n L st (wr ++ w)) : zz_U p l e R s m args below meth c D A nL Q kc ks pc L (.ref v :: st) (wr ++ [(v, .inr (ci, fs0))]) := by
  refine zz_uinit (wr := wr) (k := wr.length) n C hd hn hM hw (by simp) (List.range wr.length) ?_ (zz_nd _ List.nodup_range) ?_ hA hcat hR hf kk
  · apply List.ext_getElem?
    intro i
    rw [List.getElem?_map, List.getElem?_map]
    by_cases hi : i < wr.length
    · rw [List.getElem?_range hi]
      simp [List.getElem?_append_left hi, hi]
    · rw [List.getElem?_eq_none (by simpa using hi), List.getElem?_eq_none (by simpa using hi)]
      rfl
  · intro i hi
    have := List.mem_range.mp hi
    simp
    omega
set_option maxHeartbeats 4000000 in
set_option maxRecDepth 100000 in
theorem zz_start {Rel : zz_Mem → zz_Mem → Prop} (hst : zz_Step Rel) (hR0 : Rel zz_MC0 zz_MR0) {p : Program} {e : Env} {s : State} {m : MethodId} {below : List Frame} {meth : Method} {c : Code} (l : Launch) {b L : Nat} {xs : Nat → Int32} (hL : L ≤ 2048) (C0 : lw_At p s m meth c b L xs) : W p l e room_1 s m #[Value.ref b] below meth c s.heap [] 0 0 (lw_Z below #[Value.ref b] s) (entryFrame m ([Value.ref b] : List Value).toArray 4) := by
  obtain ⟨hx, hb, hr, hml, hown, hts, hX, hbl, hlocks, hgv⟩ := id C0
  have hg : ∀ w ∈ zz_gW, w.before #[Value.ref b] s = true := fun w h => hts w (List.mem_filter.mp h).1
  obtain ⟨c0, iS0, hKn0⟩ := u_known (C := RX0) (T := TX0) (N := 4) (n := 4) hg gwX0 (hg (.instantiable RX0 4) (zz_w 149 (by decide +kernel) (by decide +kernel)))
  obtain ⟨c1, iS1, hKn1⟩ := u_known (C := RX1) (T := TX1) (N := 1) (n := 1) hg gwX1 (hg (.instantiable RX1 1) (zz_w 189 (by decide +kernel) (by decide +kernel)))
  obtain ⟨c2, iS2, hKn2⟩ := u_known (C := RX2) (T := TX2) (N := 3) (n := 3) hg gwX2 (hg (.instantiable RX2 3) (zz_w 170 (by decide +kernel) (by decide +kernel)))
  obtain ⟨c3, iS3, hKn3⟩ := u_known (C := RX3) (T := TX3) (N := 12) (n := 12) hg gwX3 (hg (.instantiable RX3 12) (zz_w 82 (by decide +kernel) (by decide +kernel)))
  obtain ⟨c4, iS4, hKn4⟩ := u_known (C := RX4) (T := TX4) (N := 6) (n := 6) hg gwX4 (hg (.instantiable RX4 6) (zz_w 74 (by decide +kernel) (by decide +kernel)))
  obtain ⟨c5, iS5, hKn5⟩ := u_known (C := RX5) (T := TX5) (N := 27) (n := 27) hg gwX5 (hg (.instantiable RX5 27) (zz_w 539 (by decide +kernel) (by decide +kernel)))
  obtain ⟨dC, dI, hKc⟩ : ∃ (dC : Nat → ClassId) (dI : Nat → Nat → Nat), ∀ (k : Nat) (q : vw_C), vwCl[k]? = some q → u_Kn s q.1 q.2.1 q.2.2 (dC k) (dI k) := by
    refine ⟨fun k => if k = 0 then c0 else if k = 1 then c1 else if k = 2 then c2 else if k = 3 then c3 else if k = 4 then c4 else c5, fun k => if k = 0 then iS0 else if k = 1 then iS1 else if k = 2 then iS2 else if k = 3 then iS3 else if k = 4 then iS4 else iS5, ?_⟩
    intro k q hq
    match k, hq with
    | 0, hq => cases hq; exact hKn0
    | 1, hq => cases hq; exact hKn1
    | 2, hq => cases hq; exact hKn2
    | 3, hq => cases hq; exact hKn3
    | 4, hq => cases hq; exact hKn4
    | 5, hq => cases hq; exact hKn5
    | k + 6, hq => simp at hq
  obtain ⟨cI, hcI1, hcI2⟩ := zz_cls (hg _ zz_aw)
  have hK : va_K (dC, dI) vwCl [(cI, .int)] s := ⟨hKc, fun k q h => by
    cases k with
    | zero => cases h; exact ⟨hcI1, hcI2⟩
    | succ k => simp at h⟩
  have hA : ∀ q : Nat, s.heap.size ≤ q → (fun q : Nat => s.heap.size ≤ q) q := fun _ h => h
  have C : zz_C p room_1 s m #[Value.ref b] meth c (dC, dI) cI RL cL_law 4 ret 0 0 := ⟨hx, hb, hml, hown, hg, hK, zz_N.of hts, hr, hlocks, Nat.zero_le _, Nat.zero_le _⟩
  have key : zz_U p l e room_1 s m #[Value.ref b] below meth c (dC, dI) (fun q : Nat => s.heap.size ≤ q) 4 (lw_Z below #[Value.ref b] s) 0 0 0 [(0, .ref b)] [] [] := by
    refine zz_unew (ci := 4) (fs := [.null, .null, .int 0, .null, .null, .null]) (Cn := RX4) (T := TX4) (N := 6) 3 C dL_law_0 rfl tyX4 tyX4_ok gwX4 ⟨zz_w 73 (by decide +kernel) (by decide +kernel), zz_w 74 (by decide +kernel) (by decide +kernel), zz_w 63 (by decide +kernel) (by decide +kernel)⟩ rfl (fun j hj => by rcases (show j = 0 ∨ j = 1 ∨ j = 2 ∨ j = 3 ∨ j = 4 ∨ j = 5 by omega) with rfl | rfl | rfl | rfl | rfl | rfl <;> rfl) hA ⟨Nat.le_of_ble_eq_true rfl, Nat.le_of_ble_eq_true rfl⟩ (fun qC => ?_)
    show zz_U _ _ _ _ _ _ _ _ _ _ _ _ _ _ 1 6 _ _ _ [(qC, .inr (4, [.null, .null, .int 0, .null, .null, .null]))]
    refine zz_udup 4 C dL_law_3 rfl ?_
    refine zz_uinit (wr := []) (k := 0) 7 C dL_law_4 rfl (i_X4 (l := l)) ⟨Or.inl (zz_w 75 (by decide +kernel) (by decide +kernel)), zz_w 76 (by decide +kernel) (by decide +kernel), zz_w 63 (by decide +kernel) (by decide +kernel), zz_w 77 (by decide +kernel) (by decide +kernel), by decide +kernel, rfl, by decide +kernel⟩ rfl [] rfl (by decide) (by decide) hA (Nat.le_of_ble_eq_true rfl) ⟨Nat.le_of_ble_eq_true rfl, Nat.le_of_ble_eq_true rfl⟩ ⟨Nat.le_of_ble_eq_true rfl, Nat.le_of_ble_eq_true rfl⟩ (fun w hw => ?_)
    obtain ⟨c0, c1, c2, c3, c4, c5, c6, c7, c8, c9, c10, c11, c12, c13, c14, c15, c16, c17, c18, c19, c20, c21, c22, c23, c24, c25, c26, c27, c28, c29, rfl⟩ := hw
    rw [zz_w0C, List.nil_append]
    generalize hadC : (fun k => ([qC, c0, c1, c2, c3, c4, c5, c6, c7, c8, c9, c10, c11, c12, c13, c14, c15, c16, c17, c18, c19, c20, c21, c22, c23, c24, c25, c26, c27, c28, c29] : List Nat).getD k 0) = adC
    have ad0 : qC = adC 0 := by rw [← hadC]; rfl
    refine zz_uastore (L' := [(1, .ref qC), (0, .ref b)]) 8 C dL_law_7 rfl (Nat.le_of_ble_eq_true rfl) rfl ?_
    refine zz_unew (ci := 5) (fs := [.int 0, .null, .null, .null, .int 0, .null, .null, .null, .int 0, .null, .null, .null, .int 0, .null, .null, .null, .null, .null, .null, .int 0, .int 0, .int 0, .int 0, .null, .null, .int 0, .null]) (Cn := RX5) (T := TX5) (N := 27) 11 C dL_law_8 rfl tyX5 tyX5_ok gwX5 ⟨zz_w 538 (by decide +kernel) (by decide +kernel), zz_w 539 (by decide +kernel) (by decide +kernel), zz_w 69 (by decide +kernel) (by decide +kernel)⟩ rfl (fun j hj => by rcases (show j = 0 ∨ j = 1 ∨ j = 2 ∨ j = 3 ∨ j = 4 ∨ j = 5 ∨ j = 6 ∨ j = 7 ∨ j = 8 ∨ j = 9 ∨ j = 10 ∨ j = 11 ∨ j = 12 ∨ j = 13 ∨ j = 14 ∨ j = 15 ∨ j = 16 ∨ j = 17 ∨ j = 18 ∨ j = 19 ∨ j = 20 ∨ j = 21 ∨ j = 22 ∨ j = 23 ∨ j = 24 ∨ j = 25 ∨ j = 26 by omega) with rfl | rfl | rfl | rfl | rfl | rfl | rfl | rfl | rfl | rfl | rfl | rfl | rfl | rfl | rfl | rfl | rfl | rfl | rfl | rfl | rfl | rfl | rfl | rfl | rfl | rfl | rfl <;> rfl) hA ⟨Nat.le_of_ble_eq_true rfl, Nat.le_of_ble_eq_true rfl⟩ (fun qR => ?_)
    refine zz_udup 12 C dL_law_11 rfl ?_
    refine zz_uinitE (wr := zz_cells zz_SC cI adC zz_MC0) 15 C dL_law_12 rfl (i_X5 (l := l)) ⟨Or.inl (zz_w 540 (by decide +kernel) (by decide +kernel)), zz_w 541 (by decide +kernel) (by decide +kernel), zz_w 69 (by decide +kernel) (by decide +kernel), zz_w 542 (by decide +kernel) (by decide +kernel), by decide +kernel, rfl, by decide +kernel⟩ hA (Nat.le_of_ble_eq_true rfl) ⟨Nat.le_of_ble_eq_true rfl, Nat.le_of_ble_eq_true rfl⟩ ⟨Nat.le_of_ble_eq_true rfl, Nat.le_of_ble_eq_true rfl⟩ (fun w hw => ?_)
    obtain ⟨m0, m1, m2, m3, m4, m5, m6, m7, m8, m9, m10, m11, m12, m13, m14, m15, m16, m17, rfl⟩ := hw
    rw [zz_w0R]
    generalize hadR : (fun k => ([qR, m0, m1, m2, m3, m4, m5, m6, m7, m8, m9, m10, m11, m12, m13, m14, m15, m16, m17] : List Nat).getD k 0) = adR
    have adr0 : qR = adR 0 := by rw [← hadR]; rfl
    refine zz_uastore (L' := [(2, .ref qR), (1, .ref qC), (0, .ref b)]) 16 C dL_law_15 rfl (Nat.le_of_ble_eq_true rfl) rfl ?_
    refine zz_uiconst 17 C dL_law_16 rfl zz_i0 ?_
    refine zz_uistore (L' := [(3, .int 0), (2, .ref qR), (1, .ref qC), (0, .ref b)]) 18 C dL_law_17 rfl (Nat.le_of_ble_eq_true rfl) rfl ?_
    rw [ad0, adr0]
    refine zz_uwiden (kc' := 50) (ks' := 1302) (Nat.le_of_ble_eq_true rfl) (Nat.le_of_ble_eq_true rfl) ?_
    exact zz_usub [3, 2, 1, 0] rfl (law_loop hst C hX hbl hL hr hlocks (L + 8) 0 zz_MC0 zz_MR0 (by omega) (by omega) hR0)
  rw [lg_entry_eq]
  exact key s.heap [] _ (fun k q h => by simp at h) ⟨fun i j p q h => by simp at h, fun k q h => by simp at h⟩ va_S.rf (lv_entry [.ref b] (Nat.le_of_ble_eq_true rfl))
