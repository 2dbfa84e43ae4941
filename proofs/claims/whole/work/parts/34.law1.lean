section
variable {p : Program} {l : Launch} {e : Env} {R : Room} {s : State} {m : MethodId} {args : Array Value} {below : List Frame} {meth : Method} {c : Code} {D : va_G} {A : Nat → Prop} {nL kc ks : Nat} {Q : State → Prop} {pc : Nat} {Lv : List (Nat × Value)} {st : List Value} {w1 w2 : va_W}
theorem zz_uapp (h : zz_U p l e R s m args below meth c D A nL Q kc ks pc Lv st (w1 ++ (w2 ++ []))) : zz_U p l e R s m args below meth c D A nL Q kc ks pc Lv st (w1 ++ w2) := by rwa [List.append_nil] at h
theorem zz_uapp2 (h : zz_U p l e R s m args below meth c D A nL Q kc ks pc Lv st (w1 ++ w2)) : zz_U p l e R s m args below meth c D A nL Q kc ks pc Lv st (w1 ++ (w2 ++ [])) := by rwa [List.append_nil]
end
section
variable {p : Program} {l : Launch} {e : Env} {s : State} {m : MethodId} {args : Array Value} {below : List Frame} {meth : Method} {c : Code} {D : va_G} {cI : ClassId} {A : Nat → Prop} {own : String} {cc : ByteArray} {nL kc ks : Nat} {ret : Option FieldType} {Q : State → Prop} {pc : Nat} {L : List (Nat × Value)} {st : List Value} {ws : va_W} {y : MethodName} {bytes : ByteArray} {maxL np dd idx : Nat} {v : Int32} {st0 : List Value} {ad : Nat → Nat} {M M' : zz_Mem}
theorem zz_ucC (n : Nat) (As : List Value) (C : zz_C p room_1 s m args meth c D cI own cc nL ret 0 0) (hd : decode cc pc = .ok (.invokevirtual idx, 3)) (hn : pc + 3 = n) (hw : zz_MV own idx y bytes maxL (some .int) np) (hM : zz_K l D zz_SC cI ad dd y bytes maxL (some .int) (.ref (ad 0) :: As) M (some (.int v)) M') (hy : RX4 = y.cls) (hnp : As.length = np) (hst : st0 = As.reverse ++ .ref (ad 0) :: st) (hcat : (st.map fun v => v.category).sum ≤ 8) (hdd : dd ≤ 20 ∧ maxL ≤ 40) (hkc : kc ≤ 600000 ∧ ks ≤ 7302250)
    (kk : zz_U p l e room_1 s m args below meth c D A nL Q kc ks n L (.int v :: st) (zz_cells zz_SC cI ad M' ++ ws)) : zz_U p l e room_1 s m args below meth c D A nL Q kc ks pc L st0 (zz_cells zz_SC cI ad M ++ ws) := by
  have h := zz_ucall (p := p) (l := l) (e := e) (R := room_1) (below := below) (A := A) (Q := Q) (L := L) (kc := kc) (ks := ks) (st0 := st0) n As [] ws C hd hn hw hM sc_0 (vC := (RX4, TX4, 6)) rfl hy hnp hst hcat ⟨by show dd + 1 ≤ 2048; omega, by show _ ≤ 84000; omega⟩ hkc (by rw [List.nil_append]; exact kk)
  rw [List.nil_append] at h
  exact h
theorem zz_ucR (n : Nat) (As : List Value) (C : zz_C p room_1 s m args meth c D cI own cc nL ret 0 0) (hd : decode cc pc = .ok (.invokevirtual idx, 3)) (hn : pc + 3 = n) (hw : zz_MV own idx y bytes maxL (some .int) np) (hM : zz_K l D zz_SR cI ad dd y bytes maxL (some .int) (.ref (ad 0) :: As) M (some (.int v)) M') (hy : RX5 = y.cls) (hnp : As.length = np) (hst : st0 = As.reverse ++ .ref (ad 0) :: st) (hcat : (st.map fun v => v.category).sum ≤ 8) (hdd : dd ≤ 20 ∧ maxL ≤ 40) (hkc : kc ≤ 600000 ∧ ks ≤ 7302250)
    (kk : zz_U p l e room_1 s m args below meth c D A nL Q kc ks n L (.int v :: st) (ws ++ zz_cells zz_SR cI ad M')) : zz_U p l e room_1 s m args below meth c D A nL Q kc ks pc L st0 (ws ++ zz_cells zz_SR cI ad M) :=
  zz_uapp (zz_ucall n As ws [] C hd hn hw hM sr_0 (vC := (RX5, TX5, 27)) rfl hy hnp hst hcat ⟨by show dd + 1 ≤ 2048; omega, by show _ ≤ 84000; omega⟩ hkc (zz_uapp2 kk))
end
def zz_Step_scene (Rel : zz_Mem → zz_Mem → Prop) : Prop := ∀ MC MR : zz_Mem, Rel MC MR → ∀ a b : Int32, ∃ (r : Int32) (MC1 MR1 : zz_Mem), f_X4_scene a b MC = some (r, MC1) ∧ f_X5_scene a b MR = some (r, MR1) ∧ Rel MC1 MR1
def zz_Step_shift (Rel : zz_Mem → zz_Mem → Prop) : Prop := ∀ MC MR : zz_Mem, Rel MC MR → ∀ a b c : Int32, ∃ (r : Int32) (MC1 MR1 : zz_Mem), f_X4_shift a b c MC = some (r, MC1) ∧ f_X5_shift a b c MR = some (r, MR1) ∧ Rel MC1 MR1
def zz_Step_thing (Rel : zz_Mem → zz_Mem → Prop) : Prop := ∀ MC MR : zz_Mem, Rel MC MR → ∀ a b c : Int32, ∃ (r : Int32) (MC1 MR1 : zz_Mem), f_X4_thing a b c MC = some (r, MC1) ∧ f_X5_thing a b c MR = some (r, MR1) ∧ Rel MC1 MR1
def zz_Step_loud (Rel : zz_Mem → zz_Mem → Prop) : Prop := ∀ MC MR : zz_Mem, Rel MC MR → ∀ a b : Int32, ∃ (r : Int32) (MC1 MR1 : zz_Mem), f_X4_loud a b MC = some (r, MC1) ∧ f_X5_loud a b MR = some (r, MR1) ∧ Rel MC1 MR1
def zz_Step_take (Rel : zz_Mem → zz_Mem → Prop) : Prop := ∀ MC MR : zz_Mem, Rel MC MR → ∀ a b : Int32, ∃ (r : Int32) (MC1 MR1 : zz_Mem), f_X4_take a b MC = some (r, MC1) ∧ f_X5_take a b MR = some (r, MR1) ∧ Rel MC1 MR1
def zz_Step_show (Rel : zz_Mem → zz_Mem → Prop) : Prop := ∀ MC MR : zz_Mem, Rel MC MR → ∀ a b c : Int32, ∃ (r : Int32) (MC1 MR1 : zz_Mem), f_X4_show a b c MC = some (r, MC1) ∧ f_X5_show a b c MR = some (r, MR1) ∧ Rel MC1 MR1
def zz_Step_like (Rel : zz_Mem → zz_Mem → Prop) : Prop := ∀ MC MR : zz_Mem, Rel MC MR → ∀ a b : Int32, ∃ (r : Int32) (MC1 MR1 : zz_Mem), f_X4_like a b MC = some (r, MC1) ∧ f_X5_like a b MR = some (r, MR1) ∧ Rel MC1 MR1
def zz_Step_of (Rel : zz_Mem → zz_Mem → Prop) : Prop := ∀ MC MR : zz_Mem, Rel MC MR → ∀ a b : Int32, ∃ (r : Int32) (MC1 MR1 : zz_Mem), f_X4_of a b MC = some (r, MC1) ∧ f_X5_of a b MR = some (r, MR1) ∧ Rel MC1 MR1
def zz_Step_told (Rel : zz_Mem → zz_Mem → Prop) : Prop := ∀ MC MR : zz_Mem, Rel MC MR → ∀ a b : Int32, ∃ (r : Int32) (MC1 MR1 : zz_Mem), f_X4_told a b MC = some (r, MC1) ∧ f_X5_told a b MR = some (r, MR1) ∧ Rel MC1 MR1
def zz_Step_thingOf (Rel : zz_Mem → zz_Mem → Prop) : Prop := ∀ MC MR : zz_Mem, Rel MC MR → ∀ a b : Int32, ∃ (r : Int32) (MC1 MR1 : zz_Mem), f_X4_thingOf a b MC = some (r, MC1) ∧ f_X5_thingOf a b MR = some (r, MR1) ∧ Rel MC1 MR1
def zz_Step_ahead (Rel : zz_Mem → zz_Mem → Prop) : Prop := ∀ MC MR : zz_Mem, Rel MC MR → ∀ a b : Int32, ∃ (r : Int32) (MC1 MR1 : zz_Mem), f_X4_ahead a b MC = some (r, MC1) ∧ f_X5_ahead a b MR = some (r, MR1) ∧ Rel MC1 MR1
def zz_Step_clash (Rel : zz_Mem → zz_Mem → Prop) : Prop := ∀ MC MR : zz_Mem, Rel MC MR → ∀ a b c : Int32, ∃ (r : Int32) (MC1 MR1 : zz_Mem), f_X4_clash a b c MC = some (r, MC1) ∧ f_X5_clash a b c MR = some (r, MR1) ∧ Rel MC1 MR1
def zz_Step_noise (Rel : zz_Mem → zz_Mem → Prop) : Prop := ∀ MC MR : zz_Mem, Rel MC MR → ∀ a b : Int32, ∃ (r : Int32) (MC1 MR1 : zz_Mem), f_X4_noise a b MC = some (r, MC1) ∧ f_X5_noise a b MR = some (r, MR1) ∧ Rel MC1 MR1
def zz_Step_cost (Rel : zz_Mem → zz_Mem → Prop) : Prop := ∀ MC MR : zz_Mem, Rel MC MR → ∃ (r : Int32) (MC1 MR1 : zz_Mem), f_X4_cost MC = some (r, MC1) ∧ f_X5_cost MR = some (r, MR1) ∧ Rel MC1 MR1
def zz_Step_cut (Rel : zz_Mem → zz_Mem → Prop) : Prop := ∀ MC MR : zz_Mem, Rel MC MR → ∀ a : Int32, ∃ (r : Int32) (MC1 MR1 : zz_Mem), f_X4_cut a MC = some (r, MC1) ∧ f_X5_cut a MR = some (r, MR1) ∧ Rel MC1 MR1
def zz_Step_choose (Rel : zz_Mem → zz_Mem → Prop) : Prop := ∀ MC MR : zz_Mem, Rel MC MR → ∀ a b : Int32, ∃ (r : Int32) (MC1 MR1 : zz_Mem), f_X4_choose a b MC = some (r, MC1) ∧ f_X5_choose a b MR = some (r, MR1) ∧ Rel MC1 MR1
def zz_Step_adopt (Rel : zz_Mem → zz_Mem → Prop) : Prop := ∀ MC MR : zz_Mem, Rel MC MR → ∃ (r : Int32) (MC1 MR1 : zz_Mem), f_X4_adopt MC = some (r, MC1) ∧ f_X5_adopt MR = some (r, MR1) ∧ Rel MC1 MR1
def zz_Step_chosen (Rel : zz_Mem → zz_Mem → Prop) : Prop := ∀ MC MR : zz_Mem, Rel MC MR → ∃ (r : Int32) (MC1 MR1 : zz_Mem), f_X4_chosen MC = some (r, MC1) ∧ f_X5_chosen MR = some (r, MR1) ∧ Rel MC1 MR1
def zz_Step_span (Rel : zz_Mem → zz_Mem → Prop) : Prop := ∀ MC MR : zz_Mem, Rel MC MR → ∀ a b c : Int32, ∃ (r : Int32) (MC1 MR1 : zz_Mem), f_X4_span a b c MC = some (r, MC1) ∧ f_X5_span a b c MR = some (r, MR1) ∧ Rel MC1 MR1
def zz_Step_twin (Rel : zz_Mem → zz_Mem → Prop) : Prop := ∀ MC MR : zz_Mem, Rel MC MR → ∀ a b c : Int32, ∃ (r : Int32) (MC1 MR1 : zz_Mem), f_X4_twin a b c MC = some (r, MC1) ∧ f_X5_twin a b c MR = some (r, MR1) ∧ Rel MC1 MR1
def zz_Step_doubles (Rel : zz_Mem → zz_Mem → Prop) : Prop := ∀ MC MR : zz_Mem, Rel MC MR → ∀ a b : Int32, ∃ (r : Int32) (MC1 MR1 : zz_Mem), f_X4_doubles a b MC = some (r, MC1) ∧ f_X5_doubles a b MR = some (r, MR1) ∧ Rel MC1 MR1
def zz_Step_reshoot (Rel : zz_Mem → zz_Mem → Prop) : Prop := ∀ MC MR : zz_Mem, Rel MC MR → ∃ (r : Int32) (MC1 MR1 : zz_Mem), f_X4_reshoot MC = some (r, MC1) ∧ f_X5_reshoot MR = some (r, MR1) ∧ Rel MC1 MR1
def zz_Step_clashes (Rel : zz_Mem → zz_Mem → Prop) : Prop := ∀ MC MR : zz_Mem, Rel MC MR → ∀ a : Int32, ∃ (r : Int32) (MC1 MR1 : zz_Mem), f_X4_clashes a MC = some (r, MC1) ∧ f_X5_clashes a MR = some (r, MR1) ∧ Rel MC1 MR1
def zz_Step_many (Rel : zz_Mem → zz_Mem → Prop) : Prop := ∀ MC MR : zz_Mem, Rel MC MR → ∀ a : Int32, ∃ (r : Int32) (MC1 MR1 : zz_Mem), f_X4_many a MC = some (r, MC1) ∧ f_X5_many a MR = some (r, MR1) ∧ Rel MC1 MR1
def zz_Step_keep (Rel : zz_Mem → zz_Mem → Prop) : Prop := ∀ MC MR : zz_Mem, Rel MC MR → ∃ (r : Int32) (MC1 MR1 : zz_Mem), f_X4_keep MC = some (r, MC1) ∧ f_X5_keep MR = some (r, MR1) ∧ Rel MC1 MR1
def zz_Step_back (Rel : zz_Mem → zz_Mem → Prop) : Prop := ∀ MC MR : zz_Mem, Rel MC MR → ∃ (r : Int32) (MC1 MR1 : zz_Mem), f_X4_back MC = some (r, MC1) ∧ f_X5_back MR = some (r, MR1) ∧ Rel MC1 MR1
def zz_Step (Rel : zz_Mem → zz_Mem → Prop) : Prop := zz_Step_scene Rel ∧ zz_Step_shift Rel ∧ zz_Step_thing Rel ∧ zz_Step_loud Rel ∧ zz_Step_take Rel ∧ zz_Step_show Rel ∧ zz_Step_like Rel ∧ zz_Step_of Rel ∧ zz_Step_told Rel ∧ zz_Step_thingOf Rel ∧ zz_Step_ahead Rel ∧ zz_Step_clash Rel ∧ zz_Step_noise Rel ∧ zz_Step_cost Rel ∧ zz_Step_cut Rel ∧ zz_Step_choose Rel ∧ zz_Step_adopt Rel ∧ zz_Step_chosen Rel ∧ zz_Step_span Rel ∧ zz_Step_twin Rel ∧ zz_Step_doubles Rel ∧ zz_Step_reshoot Rel ∧ zz_Step_clashes Rel ∧ zz_Step_many Rel ∧ zz_Step_keep Rel ∧ zz_Step_back Rel
theorem zz_lend {L i : Nat} (hL : L ≤ 2048) (hi : i ≤ 4096) : Int32.ofNat L - 4 < nI i ↔ L < i + 4 := by
  have e1 : (Int32.ofNat L - 4).toInt = (L : Int) - 4 := by
    have h := nI_toInt (n := L) (by omega)
    have h' : (Int32.ofNat L).toInt = (L : Int) := h
    rw [Int32.toInt_sub, h', show (4 : Int32).toInt = 4 from by decide]
    exact Int.bmod_eq_of_le (by omega) (by omega)
  rw [Int32.lt_iff_toInt_lt, e1, nI_toInt (by omega)]
  omega
set_option maxHeartbeats 4000000 in
set_option maxRecDepth 100000 in
theorem law_scene {p : Program} {l : Launch} {e : Env} {s : State} {m : MethodId} {below : List Frame} {meth : Method} {c : Code} {D : va_G} {cI : ClassId} {adC adR : Nat → Nat} {b L : Nat} {xs : Nat → Int32} (C : zz_C p room_1 s m #[Value.ref b] meth c D cI RL cL_law 4 ret 0 0) (hX : va_X b L xs s s.heap) (hbl : b < s.heap.size) (hL : L ≤ 2048) {i : Nat} (h1 : vp_in (nI i + 1) L) (h2 : vp_in (nI i + 2) L) {r : Int32} {MC MR MC1 MR1 : zz_Mem} (e1 : f_X4_scene (xs (nI i + 1).toNatClampNeg) (xs (nI i + 2).toNatClampNeg) MC = some (r, MC1)) (e2 : f_X5_scene (xs (nI i + 1).toNatClampNeg) (xs (nI i + 2).toNatClampNeg) MR = some (r, MR1)) (kk : zz_U p l e room_1 s m #[Value.ref b] below meth c D (fun q : Nat => s.heap.size ≤ q) 4 (lw_Z below #[Value.ref b] s) 50 1302 920 [(0, .ref b), (1, .ref (adC 0)), (2, .ref (adR 0)), (3, .int (nI i))] [] (zz_cells zz_SC cI adC MC1 ++ zz_cells zz_SR cI adR MR1)) : zz_U p l e room_1 s m #[Value.ref b] below meth c D (fun q : Nat => s.heap.size ≤ q) 4 (lw_Z below #[Value.ref b] s) 50 1302 152 [(0, .ref b), (1, .ref (adC 0)), (2, .ref (adR 0)), (3, .int (nI i))] [] (zz_cells zz_SC cI adC MC ++ zz_cells zz_SR cI adR MR) := by
  refine zz_uaload 153 C dL_law_152 rfl 1 rfl ?_
  refine zz_uaload 154 C dL_law_153 rfl 0 rfl ?_
  refine zz_uiload 155 C dL_law_154 rfl 3 rfl ?_
  refine zz_uiconst 156 C dL_law_155 rfl zz_i1 ?_
  refine zz_uiadd 157 C dL_law_156 rfl ?_
  refine zz_uld 158 C hX hbl (Nat.not_le.mpr hbl) h1 dL_law_157 rfl ?_
  refine zz_uaload 159 C dL_law_158 rfl 0 rfl ?_
  refine zz_uiload 160 C dL_law_159 rfl 3 rfl ?_
  refine zz_uiconst 161 C dL_law_160 rfl zz_i2 ?_
  refine zz_uiadd 162 C dL_law_161 rfl ?_
  refine zz_uld 163 C hX hbl (Nat.not_le.mpr hbl) h2 dL_law_162 rfl ?_
  refine zz_ucC 166 [.int (xs (nI i + 1).toNatClampNeg), .int (xs (nI i + 2).toNatClampNeg)] C dL_law_163 rfl ml_L_13 (k_X4_scene e1) rfl rfl rfl (Nat.le_of_ble_eq_true rfl) ⟨Nat.le_of_ble_eq_true rfl, Nat.le_of_ble_eq_true rfl⟩ ⟨Nat.le_of_ble_eq_true rfl, Nat.le_of_ble_eq_true rfl⟩ ?_
  refine zz_uaload 167 C dL_law_166 rfl 2 rfl ?_
  refine zz_uaload 168 C dL_law_167 rfl 0 rfl ?_
  refine zz_uiload 169 C dL_law_168 rfl 3 rfl ?_
  refine zz_uiconst 170 C dL_law_169 rfl zz_i1 ?_
  refine zz_uiadd 171 C dL_law_170 rfl ?_
  refine zz_uld 172 C hX hbl (Nat.not_le.mpr hbl) h1 dL_law_171 rfl ?_
  refine zz_uaload 173 C dL_law_172 rfl 0 rfl ?_
  refine zz_uiload 174 C dL_law_173 rfl 3 rfl ?_
  refine zz_uiconst 175 C dL_law_174 rfl zz_i2 ?_
  refine zz_uiadd 176 C dL_law_175 rfl ?_
  refine zz_uld 177 C hX hbl (Nat.not_le.mpr hbl) h2 dL_law_176 rfl ?_
  refine zz_ucR 180 [.int (xs (nI i + 1).toNatClampNeg), .int (xs (nI i + 2).toNatClampNeg)] C dL_law_177 rfl ml_L_17 (k_X5_scene e2) rfl rfl rfl (Nat.le_of_ble_eq_true rfl) ⟨Nat.le_of_ble_eq_true rfl, Nat.le_of_ble_eq_true rfl⟩ ⟨Nat.le_of_ble_eq_true rfl, Nat.le_of_ble_eq_true rfl⟩ ?_
  refine zz_uicmp_eq 920 C dL_law_180 rfl ?_
  exact kk
set_option maxHeartbeats 4000000 in
set_option maxRecDepth 100000 in
theorem law_shift {p : Program} {l : Launch} {e : Env} {s : State} {m : MethodId} {below : List Frame} {meth : Method} {c : Code} {D : va_G} {cI : ClassId} {adC adR : Nat → Nat} {b L : Nat} {xs : Nat → Int32} (C : zz_C p room_1 s m #[Value.ref b] meth c D cI RL cL_law 4 ret 0 0) (hX : va_X b L xs s s.heap) (hbl : b < s.heap.size) (hL : L ≤ 2048) {i : Nat} (h1 : vp_in (nI i + 1) L) (h2 : vp_in (nI i + 2) L) (h3 : vp_in (nI i + 3) L) {r : Int32} {MC MR MC1 MR1 : zz_Mem} (e1 : f_X4_shift (xs (nI i + 1).toNatClampNeg) (xs (nI i + 2).toNatClampNeg) (xs (nI i + 3).toNatClampNeg) MC = some (r, MC1)) (e2 : f_X5_shift (xs (nI i + 1).toNatClampNeg) (xs (nI i + 2).toNatClampNeg) (xs (nI i + 3).toNatClampNeg) MR = some (r, MR1)) (kk : zz_U p l e room_1 s m #[Value.ref b] below meth c D (fun q : Nat => s.heap.size ≤ q) 4 (lw_Z below #[Value.ref b] s) 50 1302 920 [(0, .ref b), (1, .ref (adC 0)), (2, .ref (adR 0)), (3, .int (nI i))] [] (zz_cells zz_SC cI adC MC1 ++ zz_cells zz_SR cI adR MR1)) : zz_U p l e room_1 s m #[Value.ref b] below meth c D (fun q : Nat => s.heap.size ≤ q) 4 (lw_Z below #[Value.ref b] s) 50 1302 185 [(0, .ref b), (1, .ref (adC 0)), (2, .ref (adR 0)), (3, .int (nI i))] [] (zz_cells zz_SC cI adC MC ++ zz_cells zz_SR cI adR MR) := by
  refine zz_uaload 186 C dL_law_185 rfl 1 rfl ?_
  refine zz_uaload 187 C dL_law_186 rfl 0 rfl ?_
  refine zz_uiload 188 C dL_law_187 rfl 3 rfl ?_
  refine zz_uiconst 189 C dL_law_188 rfl zz_i1 ?_
  refine zz_uiadd 190 C dL_law_189 rfl ?_
  refine zz_uld 191 C hX hbl (Nat.not_le.mpr hbl) h1 dL_law_190 rfl ?_
  refine zz_uaload 192 C dL_law_191 rfl 0 rfl ?_
  refine zz_uiload 193 C dL_law_192 rfl 3 rfl ?_
  refine zz_uiconst 194 C dL_law_193 rfl zz_i2 ?_
  refine zz_uiadd 195 C dL_law_194 rfl ?_
  refine zz_uld 196 C hX hbl (Nat.not_le.mpr hbl) h2 dL_law_195 rfl ?_
  refine zz_uaload 197 C dL_law_196 rfl 0 rfl ?_
  refine zz_uiload 198 C dL_law_197 rfl 3 rfl ?_
  refine zz_uiconst 199 C dL_law_198 rfl zz_i3 ?_
  refine zz_uiadd 200 C dL_law_199 rfl ?_
  refine zz_uld 201 C hX hbl (Nat.not_le.mpr hbl) h3 dL_law_200 rfl ?_
  refine zz_ucC 204 [.int (xs (nI i + 1).toNatClampNeg), .int (xs (nI i + 2).toNatClampNeg), .int (xs (nI i + 3).toNatClampNeg)] C dL_law_201 rfl ml_L_18 (k_X4_shift e1) rfl rfl rfl (Nat.le_of_ble_eq_true rfl) ⟨Nat.le_of_ble_eq_true rfl, Nat.le_of_ble_eq_true rfl⟩ ⟨Nat.le_of_ble_eq_true rfl, Nat.le_of_ble_eq_true rfl⟩ ?_
  refine zz_uaload 205 C dL_law_204 rfl 2 rfl ?_
  refine zz_uaload 206 C dL_law_205 rfl 0 rfl ?_
  refine zz_uiload 207 C dL_law_206 rfl 3 rfl ?_
  refine zz_uiconst 208 C dL_law_207 rfl zz_i1 ?_
  refine zz_uiadd 209 C dL_law_208 rfl ?_
  refine zz_uld 210 C hX hbl (Nat.not_le.mpr hbl) h1 dL_law_209 rfl ?_
  refine zz_uaload 211 C dL_law_210 rfl 0 rfl ?_
  refine zz_uiload 212 C dL_law_211 rfl 3 rfl ?_
  refine zz_uiconst 213 C dL_law_212 rfl zz_i2 ?_
  refine zz_uiadd 214 C dL_law_213 rfl ?_
  refine zz_uld 215 C hX hbl (Nat.not_le.mpr hbl) h2 dL_law_214 rfl ?_
  refine zz_uaload 216 C dL_law_215 rfl 0 rfl ?_
  refine zz_uiload 217 C dL_law_216 rfl 3 rfl ?_
  refine zz_uiconst 218 C dL_law_217 rfl zz_i3 ?_
  refine zz_uiadd 219 C dL_law_218 rfl ?_
  refine zz_uld 220 C hX hbl (Nat.not_le.mpr hbl) h3 dL_law_219 rfl ?_
  refine zz_ucR 223 [.int (xs (nI i + 1).toNatClampNeg), .int (xs (nI i + 2).toNatClampNeg), .int (xs (nI i + 3).toNatClampNeg)] C dL_law_220 rfl ml_L_22 (k_X5_shift e2) rfl rfl rfl (Nat.le_of_ble_eq_true rfl) ⟨Nat.le_of_ble_eq_true rfl, Nat.le_of_ble_eq_true rfl⟩ ⟨Nat.le_of_ble_eq_true rfl, Nat.le_of_ble_eq_true rfl⟩ ?_
  refine zz_uicmp_eq 920 C dL_law_223 rfl ?_
  exact kk
set_option maxHeartbeats 4000000 in
set_option maxRecDepth 100000 in
theorem law_thing {p : Program} {l : Launch} {e : Env} {s : State} {m : MethodId} {below : List Frame} {meth : Method} {c : Code} {D : va_G} {cI : ClassId} {adC adR : Nat → Nat} {b L : Nat} {xs : Nat → Int32} (C : zz_C p room_1 s m #[Value.ref b] meth c D cI RL cL_law 4 ret 0 0) (hX : va_X b L xs s s.heap) (hbl : b < s.heap.size) (hL : L ≤ 2048) {i : Nat} (h1 : vp_in (nI i + 1) L) (h2 : vp_in (nI i + 2) L) (h3 : vp_in (nI i + 3) L) {r : Int32} {MC MR MC1 MR1 : zz_Mem} (e1 : f_X4_thing (xs (nI i + 1).toNatClampNeg) (xs (nI i + 2).toNatClampNeg) (xs (nI i + 3).toNatClampNeg) MC = some (r, MC1)) (e2 : f_X5_thing (xs (nI i + 1).toNatClampNeg) (xs (nI i + 2).toNatClampNeg) (xs (nI i + 3).toNatClampNeg) MR = some (r, MR1)) (kk : zz_U p l e room_1 s m #[Value.ref b] below meth c D (fun q : Nat => s.heap.size ≤ q) 4 (lw_Z below #[Value.ref b] s) 50 1302 920 [(0, .ref b), (1, .ref (adC 0)), (2, .ref (adR 0)), (3, .int (nI i))] [] (zz_cells zz_SC cI adC MC1 ++ zz_cells zz_SR cI adR MR1)) : zz_U p l e room_1 s m #[Value.ref b] below meth c D (fun q : Nat => s.heap.size ≤ q) 4 (lw_Z below #[Value.ref b] s) 50 1302 228 [(0, .ref b), (1, .ref (adC 0)), (2, .ref (adR 0)), (3, .int (nI i))] [] (zz_cells zz_SC cI adC MC ++ zz_cells zz_SR cI adR MR) := by
  refine zz_uaload 229 C dL_law_228 rfl 1 rfl ?_
  refine zz_uaload 230 C dL_law_229 rfl 0 rfl ?_
  refine zz_uiload 231 C dL_law_230 rfl 3 rfl ?_
  refine zz_uiconst 232 C dL_law_231 rfl zz_i1 ?_
  refine zz_uiadd 233 C dL_law_232 rfl ?_
  refine zz_uld 234 C hX hbl (Nat.not_le.mpr hbl) h1 dL_law_233 rfl ?_
  refine zz_uaload 235 C dL_law_234 rfl 0 rfl ?_
  refine zz_uiload 236 C dL_law_235 rfl 3 rfl ?_
  refine zz_uiconst 237 C dL_law_236 rfl zz_i2 ?_
  refine zz_uiadd 238 C dL_law_237 rfl ?_
  refine zz_uld 239 C hX hbl (Nat.not_le.mpr hbl) h2 dL_law_238 rfl ?_
  refine zz_uaload 240 C dL_law_239 rfl 0 rfl ?_
  refine zz_uiload 241 C dL_law_240 rfl 3 rfl ?_
  refine zz_uiconst 242 C dL_law_241 rfl zz_i3 ?_
  refine zz_uiadd 243 C dL_law_242 rfl ?_
  refine zz_uld 244 C hX hbl (Nat.not_le.mpr hbl) h3 dL_law_243 rfl ?_
  refine zz_ucC 247 [.int (xs (nI i + 1).toNatClampNeg), .int (xs (nI i + 2).toNatClampNeg), .int (xs (nI i + 3).toNatClampNeg)] C dL_law_244 rfl ml_L_23 (k_X4_thing e1) rfl rfl rfl (Nat.le_of_ble_eq_true rfl) ⟨Nat.le_of_ble_eq_true rfl, Nat.le_of_ble_eq_true rfl⟩ ⟨Nat.le_of_ble_eq_true rfl, Nat.le_of_ble_eq_true rfl⟩ ?_
  refine zz_uaload 248 C dL_law_247 rfl 2 rfl ?_
  refine zz_uaload 249 C dL_law_248 rfl 0 rfl ?_
  refine zz_uiload 250 C dL_law_249 rfl 3 rfl ?_
  refine zz_uiconst 251 C dL_law_250 rfl zz_i1 ?_
  refine zz_uiadd 252 C dL_law_251 rfl ?_
  refine zz_uld 253 C hX hbl (Nat.not_le.mpr hbl) h1 dL_law_252 rfl ?_
  refine zz_uaload 254 C dL_law_253 rfl 0 rfl ?_
  refine zz_uiload 255 C dL_law_254 rfl 3 rfl ?_
  refine zz_uiconst 256 C dL_law_255 rfl zz_i2 ?_
  refine zz_uiadd 257 C dL_law_256 rfl ?_
  refine zz_uld 258 C hX hbl (Nat.not_le.mpr hbl) h2 dL_law_257 rfl ?_
  refine zz_uaload 259 C dL_law_258 rfl 0 rfl ?_
  refine zz_uiload 260 C dL_law_259 rfl 3 rfl ?_
  refine zz_uiconst 261 C dL_law_260 rfl zz_i3 ?_
  refine zz_uiadd 262 C dL_law_261 rfl ?_
  refine zz_uld 263 C hX hbl (Nat.not_le.mpr hbl) h3 dL_law_262 rfl ?_
  refine zz_ucR 266 [.int (xs (nI i + 1).toNatClampNeg), .int (xs (nI i + 2).toNatClampNeg), .int (xs (nI i + 3).toNatClampNeg)] C dL_law_263 rfl ml_L_26 (k_X5_thing e2) rfl rfl rfl (Nat.le_of_ble_eq_true rfl) ⟨Nat.le_of_ble_eq_true rfl, Nat.le_of_ble_eq_true rfl⟩ ⟨Nat.le_of_ble_eq_true rfl, Nat.le_of_ble_eq_true rfl⟩ ?_
  refine zz_uicmp_eq 920 C dL_law_266 rfl ?_
  exact kk
set_option maxHeartbeats 4000000 in
set_option maxRecDepth 100000 in
theorem law_loud {p : Program} {l : Launch} {e : Env} {s : State} {m : MethodId} {below : List Frame} {meth : Method} {c : Code} {D : va_G} {cI : ClassId} {adC adR : Nat → Nat} {b L : Nat} {xs : Nat → Int32} (C : zz_C p room_1 s m #[Value.ref b] meth c D cI RL cL_law 4 ret 0 0) (hX : va_X b L xs s s.heap) (hbl : b < s.heap.size) (hL : L ≤ 2048) {i : Nat} (h1 : vp_in (nI i + 1) L) (h2 : vp_in (nI i + 2) L) {r : Int32} {MC MR MC1 MR1 : zz_Mem} (e1 : f_X4_loud (xs (nI i + 1).toNatClampNeg) (xs (nI i + 2).toNatClampNeg) MC = some (r, MC1)) (e2 : f_X5_loud (xs (nI i + 1).toNatClampNeg) (xs (nI i + 2).toNatClampNeg) MR = some (r, MR1)) (kk : zz_U p l e room_1 s m #[Value.ref b] below meth c D (fun q : Nat => s.heap.size ≤ q) 4 (lw_Z below #[Value.ref b] s) 50 1302 920 [(0, .ref b), (1, .ref (adC 0)), (2, .ref (adR 0)), (3, .int (nI i))] [] (zz_cells zz_SC cI adC MC1 ++ zz_cells zz_SR cI adR MR1)) : zz_U p l e room_1 s m #[Value.ref b] below meth c D (fun q : Nat => s.heap.size ≤ q) 4 (lw_Z below #[Value.ref b] s) 50 1302 271 [(0, .ref b), (1, .ref (adC 0)), (2, .ref (adR 0)), (3, .int (nI i))] [] (zz_cells zz_SC cI adC MC ++ zz_cells zz_SR cI adR MR) := by
  refine zz_uaload 272 C dL_law_271 rfl 1 rfl ?_
  refine zz_uaload 273 C dL_law_272 rfl 0 rfl ?_
  refine zz_uiload 274 C dL_law_273 rfl 3 rfl ?_
  refine zz_uiconst 275 C dL_law_274 rfl zz_i1 ?_
  refine zz_uiadd 276 C dL_law_275 rfl ?_
  refine zz_uld 277 C hX hbl (Nat.not_le.mpr hbl) h1 dL_law_276 rfl ?_
  refine zz_uaload 278 C dL_law_277 rfl 0 rfl ?_
  refine zz_uiload 279 C dL_law_278 rfl 3 rfl ?_
  refine zz_uiconst 280 C dL_law_279 rfl zz_i2 ?_
  refine zz_uiadd 281 C dL_law_280 rfl ?_
  refine zz_uld 282 C hX hbl (Nat.not_le.mpr hbl) h2 dL_law_281 rfl ?_
  refine zz_ucC 285 [.int (xs (nI i + 1).toNatClampNeg), .int (xs (nI i + 2).toNatClampNeg)] C dL_law_282 rfl ml_L_27 (k_X4_loud e1) rfl rfl rfl (Nat.le_of_ble_eq_true rfl) ⟨Nat.le_of_ble_eq_true rfl, Nat.le_of_ble_eq_true rfl⟩ ⟨Nat.le_of_ble_eq_true rfl, Nat.le_of_ble_eq_true rfl⟩ ?_
  refine zz_uaload 286 C dL_law_285 rfl 2 rfl ?_
  refine zz_uaload 287 C dL_law_286 rfl 0 rfl ?_
  refine zz_uiload 288 C dL_law_287 rfl 3 rfl ?_
  refine zz_uiconst 289 C dL_law_288 rfl zz_i1 ?_
  refine zz_uiadd 290 C dL_law_289 rfl ?_
  refine zz_uld 291 C hX hbl (Nat.not_le.mpr hbl) h1 dL_law_290 rfl ?_
  refine zz_uaload 292 C dL_law_291 rfl 0 rfl ?_
  refine zz_uiload 293 C dL_law_292 rfl 3 rfl ?_
  refine zz_uiconst 294 C dL_law_293 rfl zz_i2 ?_
  refine zz_uiadd 295 C dL_law_294 rfl ?_
  refine zz_uld 296 C hX hbl (Nat.not_le.mpr hbl) h2 dL_law_295 rfl ?_
  refine zz_ucR 299 [.int (xs (nI i + 1).toNatClampNeg), .int (xs (nI i + 2).toNatClampNeg)] C dL_law_296 rfl ml_L_30 (k_X5_loud e2) rfl rfl rfl (Nat.le_of_ble_eq_true rfl) ⟨Nat.le_of_ble_eq_true rfl, Nat.le_of_ble_eq_true rfl⟩ ⟨Nat.le_of_ble_eq_true rfl, Nat.le_of_ble_eq_true rfl⟩ ?_
  refine zz_uicmp_eq 920 C dL_law_299 rfl ?_
  exact kk
set_option maxHeartbeats 4000000 in
set_option maxRecDepth 100000 in
theorem law_take {p : Program} {l : Launch} {e : Env} {s : State} {m : MethodId} {below : List Frame} {meth : Method} {c : Code} {D : va_G} {cI : ClassId} {adC adR : Nat → Nat} {b L : Nat} {xs : Nat → Int32} (C : zz_C p room_1 s m #[Value.ref b] meth c D cI RL cL_law 4 ret 0 0) (hX : va_X b L xs s s.heap) (hbl : b < s.heap.size) (hL : L ≤ 2048) {i : Nat} (h1 : vp_in (nI i + 1) L) (h2 : vp_in (nI i + 2) L) {r : Int32} {MC MR MC1 MR1 : zz_Mem} (e1 : f_X4_take (xs (nI i + 1).toNatClampNeg) (xs (nI i + 2).toNatClampNeg) MC = some (r, MC1)) (e2 : f_X5_take (xs (nI i + 1).toNatClampNeg) (xs (nI i + 2).toNatClampNeg) MR = some (r, MR1)) (kk : zz_U p l e room_1 s m #[Value.ref b] below meth c D (fun q : Nat => s.heap.size ≤ q) 4 (lw_Z below #[Value.ref b] s) 50 1302 920 [(0, .ref b), (1, .ref (adC 0)), (2, .ref (adR 0)), (3, .int (nI i))] [] (zz_cells zz_SC cI adC MC1 ++ zz_cells zz_SR cI adR MR1)) : zz_U p l e room_1 s m #[Value.ref b] below meth c D (fun q : Nat => s.heap.size ≤ q) 4 (lw_Z below #[Value.ref b] s) 50 1302 304 [(0, .ref b), (1, .ref (adC 0)), (2, .ref (adR 0)), (3, .int (nI i))] [] (zz_cells zz_SC cI adC MC ++ zz_cells zz_SR cI adR MR) := by
  refine zz_uaload 305 C dL_law_304 rfl 1 rfl ?_
  refine zz_uaload 306 C dL_law_305 rfl 0 rfl ?_
  refine zz_uiload 307 C dL_law_306 rfl 3 rfl ?_
  refine zz_uiconst 308 C dL_law_307 rfl zz_i1 ?_
  refine zz_uiadd 309 C dL_law_308 rfl ?_
  refine zz_uld 310 C hX hbl (Nat.not_le.mpr hbl) h1 dL_law_309 rfl ?_
  refine zz_uaload 311 C dL_law_310 rfl 0 rfl ?_
  refine zz_uiload 312 C dL_law_311 rfl 3 rfl ?_
  refine zz_uiconst 313 C dL_law_312 rfl zz_i2 ?_
  refine zz_uiadd 314 C dL_law_313 rfl ?_
  refine zz_uld 315 C hX hbl (Nat.not_le.mpr hbl) h2 dL_law_314 rfl ?_
  refine zz_ucC 318 [.int (xs (nI i + 1).toNatClampNeg), .int (xs (nI i + 2).toNatClampNeg)] C dL_law_315 rfl ml_L_31 (k_X4_take e1) rfl rfl rfl (Nat.le_of_ble_eq_true rfl) ⟨Nat.le_of_ble_eq_true rfl, Nat.le_of_ble_eq_true rfl⟩ ⟨Nat.le_of_ble_eq_true rfl, Nat.le_of_ble_eq_true rfl⟩ ?_
  refine zz_uaload 319 C dL_law_318 rfl 2 rfl ?_
  refine zz_uaload 320 C dL_law_319 rfl 0 rfl ?_
  refine zz_uiload 321 C dL_law_320 rfl 3 rfl ?_
  refine zz_uiconst 322 C dL_law_321 rfl zz_i1 ?_
  refine zz_uiadd 323 C dL_law_322 rfl ?_
  refine zz_uld 324 C hX hbl (Nat.not_le.mpr hbl) h1 dL_law_323 rfl ?_
  refine zz_uaload 325 C dL_law_324 rfl 0 rfl ?_
  refine zz_uiload 326 C dL_law_325 rfl 3 rfl ?_
  refine zz_uiconst 327 C dL_law_326 rfl zz_i2 ?_
  refine zz_uiadd 328 C dL_law_327 rfl ?_
  refine zz_uld 329 C hX hbl (Nat.not_le.mpr hbl) h2 dL_law_328 rfl ?_
  refine zz_ucR 332 [.int (xs (nI i + 1).toNatClampNeg), .int (xs (nI i + 2).toNatClampNeg)] C dL_law_329 rfl ml_L_34 (k_X5_take e2) rfl rfl rfl (Nat.le_of_ble_eq_true rfl) ⟨Nat.le_of_ble_eq_true rfl, Nat.le_of_ble_eq_true rfl⟩ ⟨Nat.le_of_ble_eq_true rfl, Nat.le_of_ble_eq_true rfl⟩ ?_
  refine zz_uicmp_eq 920 C dL_law_332 rfl ?_
  exact kk
set_option maxHeartbeats 4000000 in
set_option maxRecDepth 100000 in
theorem law_show {p : Program} {l : Launch} {e : Env} {s : State} {m : MethodId} {below : List Frame} {meth : Method} {c : Code} {D : va_G} {cI : ClassId} {adC adR : Nat → Nat} {b L : Nat} {xs : Nat → Int32} (C : zz_C p room_1 s m #[Value.ref b] meth c D cI RL cL_law 4 ret 0 0) (hX : va_X b L xs s s.heap) (hbl : b < s.heap.size) (hL : L ≤ 2048) {i : Nat} (h1 : vp_in (nI i + 1) L) (h2 : vp_in (nI i + 2) L) (h3 : vp_in (nI i + 3) L) {r : Int32} {MC MR MC1 MR1 : zz_Mem} (e1 : f_X4_show (xs (nI i + 1).toNatClampNeg) (xs (nI i + 2).toNatClampNeg) (xs (nI i + 3).toNatClampNeg) MC = some (r, MC1)) (e2 : f_X5_show (xs (nI i + 1).toNatClampNeg) (xs (nI i + 2).toNatClampNeg) (xs (nI i + 3).toNatClampNeg) MR = some (r, MR1)) (kk : zz_U p l e room_1 s m #[Value.ref b] below meth c D (fun q : Nat => s.heap.size ≤ q) 4 (lw_Z below #[Value.ref b] s) 50 1302 920 [(0, .ref b), (1, .ref (adC 0)), (2, .ref (adR 0)), (3, .int (nI i))] [] (zz_cells zz_SC cI adC MC1 ++ zz_cells zz_SR cI adR MR1)) : zz_U p l e room_1 s m #[Value.ref b] below meth c D (fun q : Nat => s.heap.size ≤ q) 4 (lw_Z below #[Value.ref b] s) 50 1302 337 [(0, .ref b), (1, .ref (adC 0)), (2, .ref (adR 0)), (3, .int (nI i))] [] (zz_cells zz_SC cI adC MC ++ zz_cells zz_SR cI adR MR) := by
  refine zz_uaload 338 C dL_law_337 rfl 1 rfl ?_
  refine zz_uaload 339 C dL_law_338 rfl 0 rfl ?_
  refine zz_uiload 340 C dL_law_339 rfl 3 rfl ?_
  refine zz_uiconst 341 C dL_law_340 rfl zz_i1 ?_
  refine zz_uiadd 342 C dL_law_341 rfl ?_
  refine zz_uld 343 C hX hbl (Nat.not_le.mpr hbl) h1 dL_law_342 rfl ?_
  refine zz_uaload 344 C dL_law_343 rfl 0 rfl ?_
  refine zz_uiload 345 C dL_law_344 rfl 3 rfl ?_
  refine zz_uiconst 346 C dL_law_345 rfl zz_i2 ?_
  refine zz_uiadd 347 C dL_law_346 rfl ?_
  refine zz_uld 348 C hX hbl (Nat.not_le.mpr hbl) h2 dL_law_347 rfl ?_
  refine zz_uaload 349 C dL_law_348 rfl 0 rfl ?_
  refine zz_uiload 350 C dL_law_349 rfl 3 rfl ?_
  refine zz_uiconst 351 C dL_law_350 rfl zz_i3 ?_
  refine zz_uiadd 352 C dL_law_351 rfl ?_
  refine zz_uld 353 C hX hbl (Nat.not_le.mpr hbl) h3 dL_law_352 rfl ?_
  refine zz_ucC 356 [.int (xs (nI i + 1).toNatClampNeg), .int (xs (nI i + 2).toNatClampNeg), .int (xs (nI i + 3).toNatClampNeg)] C dL_law_353 rfl ml_L_35 (k_X4_show e1) rfl rfl rfl (Nat.le_of_ble_eq_true rfl) ⟨Nat.le_of_ble_eq_true rfl, Nat.le_of_ble_eq_true rfl⟩ ⟨Nat.le_of_ble_eq_true rfl, Nat.le_of_ble_eq_true rfl⟩ ?_
  refine zz_uaload 357 C dL_law_356 rfl 2 rfl ?_
  refine zz_uaload 358 C dL_law_357 rfl 0 rfl ?_
  refine zz_uiload 359 C dL_law_358 rfl 3 rfl ?_
  refine zz_uiconst 360 C dL_law_359 rfl zz_i1 ?_
  refine zz_uiadd 361 C dL_law_360 rfl ?_
  refine zz_uld 362 C hX hbl (Nat.not_le.mpr hbl) h1 dL_law_361 rfl ?_
  refine zz_uaload 363 C dL_law_362 rfl 0 rfl ?_
  refine zz_uiload 364 C dL_law_363 rfl 3 rfl ?_
  refine zz_uiconst 365 C dL_law_364 rfl zz_i2 ?_
  refine zz_uiadd 366 C dL_law_365 rfl ?_
  refine zz_uld 367 C hX hbl (Nat.not_le.mpr hbl) h2 dL_law_366 rfl ?_
  refine zz_uaload 368 C dL_law_367 rfl 0 rfl ?_
  refine zz_uiload 369 C dL_law_368 rfl 3 rfl ?_
  refine zz_uiconst 370 C dL_law_369 rfl zz_i3 ?_
  refine zz_uiadd 371 C dL_law_370 rfl ?_
  refine zz_uld 372 C hX hbl (Nat.not_le.mpr hbl) h3 dL_law_371 rfl ?_
  refine zz_ucR 375 [.int (xs (nI i + 1).toNatClampNeg), .int (xs (nI i + 2).toNatClampNeg), .int (xs (nI i + 3).toNatClampNeg)] C dL_law_372 rfl ml_L_38 (k_X5_show e2) rfl rfl rfl (Nat.le_of_ble_eq_true rfl) ⟨Nat.le_of_ble_eq_true rfl, Nat.le_of_ble_eq_true rfl⟩ ⟨Nat.le_of_ble_eq_true rfl, Nat.le_of_ble_eq_true rfl⟩ ?_
  refine zz_uicmp_eq 920 C dL_law_375 rfl ?_
  exact kk
set_option maxHeartbeats 4000000 in
set_option maxRecDepth 100000 in
theorem law_like {p : Program} {l : Launch} {e : Env} {s : State} {m : MethodId} {below : List Frame} {meth : Method} {c : Code} {D : va_G} {cI : ClassId} {adC adR : Nat → Nat} {b L : Nat} {xs : Nat → Int32} (C : zz_C p room_1 s m #[Value.ref b] meth c D cI RL cL_law 4 ret 0 0) (hX : va_X b L xs s s.heap) (hbl : b < s.heap.size) (hL : L ≤ 2048) {i : Nat} (h1 : vp_in (nI i + 1) L) (h2 : vp_in (nI i + 2) L) {r : Int32} {MC MR MC1 MR1 : zz_Mem} (e1 : f_X4_like (xs (nI i + 1).toNatClampNeg) (xs (nI i + 2).toNatClampNeg) MC = some (r, MC1)) (e2 : f_X5_like (xs (nI i + 1).toNatClampNeg) (xs (nI i + 2).toNatClampNeg) MR = some (r, MR1)) (kk : zz_U p l e room_1 s m #[Value.ref b] below meth c D (fun q : Nat => s.heap.size ≤ q) 4 (lw_Z below #[Value.ref b] s) 50 1302 920 [(0, .ref b), (1, .ref (adC 0)), (2, .ref (adR 0)), (3, .int (nI i))] [] (zz_cells zz_SC cI adC MC1 ++ zz_cells zz_SR cI adR MR1)) : zz_U p l e room_1 s m #[Value.ref b] below meth c D (fun q : Nat => s.heap.size ≤ q) 4 (lw_Z below #[Value.ref b] s) 50 1302 380 [(0, .ref b), (1, .ref (adC 0)), (2, .ref (adR 0)), (3, .int (nI i))] [] (zz_cells zz_SC cI adC MC ++ zz_cells zz_SR cI adR MR) := by
  refine zz_uaload 381 C dL_law_380 rfl 1 rfl ?_
  refine zz_uaload 382 C dL_law_381 rfl 0 rfl ?_
  refine zz_uiload 383 C dL_law_382 rfl 3 rfl ?_
  refine zz_uiconst 384 C dL_law_383 rfl zz_i1 ?_
  refine zz_uiadd 385 C dL_law_384 rfl ?_
  refine zz_uld 386 C hX hbl (Nat.not_le.mpr hbl) h1 dL_law_385 rfl ?_
  refine zz_uaload 387 C dL_law_386 rfl 0 rfl ?_
  refine zz_uiload 388 C dL_law_387 rfl 3 rfl ?_
  refine zz_uiconst 389 C dL_law_388 rfl zz_i2 ?_
  refine zz_uiadd 390 C dL_law_389 rfl ?_
  refine zz_uld 391 C hX hbl (Nat.not_le.mpr hbl) h2 dL_law_390 rfl ?_
  refine zz_ucC 394 [.int (xs (nI i + 1).toNatClampNeg), .int (xs (nI i + 2).toNatClampNeg)] C dL_law_391 rfl ml_L_39 (k_X4_like e1) rfl rfl rfl (Nat.le_of_ble_eq_true rfl) ⟨Nat.le_of_ble_eq_true rfl, Nat.le_of_ble_eq_true rfl⟩ ⟨Nat.le_of_ble_eq_true rfl, Nat.le_of_ble_eq_true rfl⟩ ?_
  refine zz_uaload 395 C dL_law_394 rfl 2 rfl ?_
  refine zz_uaload 396 C dL_law_395 rfl 0 rfl ?_
  refine zz_uiload 397 C dL_law_396 rfl 3 rfl ?_
  refine zz_uiconst 398 C dL_law_397 rfl zz_i1 ?_
  refine zz_uiadd 399 C dL_law_398 rfl ?_
  refine zz_uld 400 C hX hbl (Nat.not_le.mpr hbl) h1 dL_law_399 rfl ?_
  refine zz_uaload 401 C dL_law_400 rfl 0 rfl ?_
  refine zz_uiload 402 C dL_law_401 rfl 3 rfl ?_
  refine zz_uiconst 403 C dL_law_402 rfl zz_i2 ?_
  refine zz_uiadd 404 C dL_law_403 rfl ?_
  refine zz_uld 405 C hX hbl (Nat.not_le.mpr hbl) h2 dL_law_404 rfl ?_
  refine zz_ucR 408 [.int (xs (nI i + 1).toNatClampNeg), .int (xs (nI i + 2).toNatClampNeg)] C dL_law_405 rfl ml_L_42 (k_X5_like e2) rfl rfl rfl (Nat.le_of_ble_eq_true rfl) ⟨Nat.le_of_ble_eq_true rfl, Nat.le_of_ble_eq_true rfl⟩ ⟨Nat.le_of_ble_eq_true rfl, Nat.le_of_ble_eq_true rfl⟩ ?_
  refine zz_uicmp_eq 920 C dL_law_408 rfl ?_
  exact kk
set_option maxHeartbeats 4000000 in
set_option maxRecDepth 100000 in
theorem law_of {p : Program} {l : Launch} {e : Env} {s : State} {m : MethodId} {below : List Frame} {meth : Method} {c : Code} {D : va_G} {cI : ClassId} {adC adR : Nat → Nat} {b L : Nat} {xs : Nat → Int32} (C : zz_C p room_1 s m #[Value.ref b] meth c D cI RL cL_law 4 ret 0 0) (hX : va_X b L xs s s.heap) (hbl : b < s.heap.size) (hL : L ≤ 2048) {i : Nat} (h1 : vp_in (nI i + 1) L) (h2 : vp_in (nI i + 2) L) {r : Int32} {MC MR MC1 MR1 : zz_Mem} (e1 : f_X4_of (xs (nI i + 1).toNatClampNeg) (xs (nI i + 2).toNatClampNeg) MC = some (r, MC1)) (e2 : f_X5_of (xs (nI i + 1).toNatClampNeg) (xs (nI i + 2).toNatClampNeg) MR = some (r, MR1)) (kk : zz_U p l e room_1 s m #[Value.ref b] below meth c D (fun q : Nat => s.heap.size ≤ q) 4 (lw_Z below #[Value.ref b] s) 50 1302 920 [(0, .ref b), (1, .ref (adC 0)), (2, .ref (adR 0)), (3, .int (nI i))] [] (zz_cells zz_SC cI adC MC1 ++ zz_cells zz_SR cI adR MR1)) : zz_U p l e room_1 s m #[Value.ref b] below meth c D (fun q : Nat => s.heap.size ≤ q) 4 (lw_Z below #[Value.ref b] s) 50 1302 413 [(0, .ref b), (1, .ref (adC 0)), (2, .ref (adR 0)), (3, .int (nI i))] [] (zz_cells zz_SC cI adC MC ++ zz_cells zz_SR cI adR MR) := by
  refine zz_uaload 414 C dL_law_413 rfl 1 rfl ?_
  refine zz_uaload 415 C dL_law_414 rfl 0 rfl ?_
  refine zz_uiload 416 C dL_law_415 rfl 3 rfl ?_
  refine zz_uiconst 417 C dL_law_416 rfl zz_i1 ?_
  refine zz_uiadd 418 C dL_law_417 rfl ?_
  refine zz_uld 419 C hX hbl (Nat.not_le.mpr hbl) h1 dL_law_418 rfl ?_
  refine zz_uaload 420 C dL_law_419 rfl 0 rfl ?_
  refine zz_uiload 421 C dL_law_420 rfl 3 rfl ?_
  refine zz_uiconst 422 C dL_law_421 rfl zz_i2 ?_
  refine zz_uiadd 423 C dL_law_422 rfl ?_
  refine zz_uld 424 C hX hbl (Nat.not_le.mpr hbl) h2 dL_law_423 rfl ?_
  refine zz_ucC 427 [.int (xs (nI i + 1).toNatClampNeg), .int (xs (nI i + 2).toNatClampNeg)] C dL_law_424 rfl ml_L_43 (k_X4_of e1) rfl rfl rfl (Nat.le_of_ble_eq_true rfl) ⟨Nat.le_of_ble_eq_true rfl, Nat.le_of_ble_eq_true rfl⟩ ⟨Nat.le_of_ble_eq_true rfl, Nat.le_of_ble_eq_true rfl⟩ ?_
  refine zz_uaload 428 C dL_law_427 rfl 2 rfl ?_
  refine zz_uaload 429 C dL_law_428 rfl 0 rfl ?_
  refine zz_uiload 430 C dL_law_429 rfl 3 rfl ?_
  refine zz_uiconst 431 C dL_law_430 rfl zz_i1 ?_
  refine zz_uiadd 432 C dL_law_431 rfl ?_
  refine zz_uld 433 C hX hbl (Nat.not_le.mpr hbl) h1 dL_law_432 rfl ?_
  refine zz_uaload 434 C dL_law_433 rfl 0 rfl ?_
  refine zz_uiload 435 C dL_law_434 rfl 3 rfl ?_
  refine zz_uiconst 436 C dL_law_435 rfl zz_i2 ?_
  refine zz_uiadd 437 C dL_law_436 rfl ?_
  refine zz_uld 438 C hX hbl (Nat.not_le.mpr hbl) h2 dL_law_437 rfl ?_
  refine zz_ucR 441 [.int (xs (nI i + 1).toNatClampNeg), .int (xs (nI i + 2).toNatClampNeg)] C dL_law_438 rfl ml_L_46 (k_X5_of e2) rfl rfl rfl (Nat.le_of_ble_eq_true rfl) ⟨Nat.le_of_ble_eq_true rfl, Nat.le_of_ble_eq_true rfl⟩ ⟨Nat.le_of_ble_eq_true rfl, Nat.le_of_ble_eq_true rfl⟩ ?_
  refine zz_uicmp_eq 920 C dL_law_441 rfl ?_
  exact kk
set_option maxHeartbeats 4000000 in
set_option maxRecDepth 100000 in
theorem law_told {p : Program} {l : Launch} {e : Env} {s : State} {m : MethodId} {below : List Frame} {meth : Method} {c : Code} {D : va_G} {cI : ClassId} {adC adR : Nat → Nat} {b L : Nat} {xs : Nat → Int32} (C : zz_C p room_1 s m #[Value.ref b] meth c D cI RL cL_law 4 ret 0 0) (hX : va_X b L xs s s.heap) (hbl : b < s.heap.size) (hL : L ≤ 2048) {i : Nat} (h1 : vp_in (nI i + 1) L) (h2 : vp_in (nI i + 2) L) {r : Int32} {MC MR MC1 MR1 : zz_Mem} (e1 : f_X4_told (xs (nI i + 1).toNatClampNeg) (xs (nI i + 2).toNatClampNeg) MC = some (r, MC1)) (e2 : f_X5_told (xs (nI i + 1).toNatClampNeg) (xs (nI i + 2).toNatClampNeg) MR = some (r, MR1)) (kk : zz_U p l e room_1 s m #[Value.ref b] below meth c D (fun q : Nat => s.heap.size ≤ q) 4 (lw_Z below #[Value.ref b] s) 50 1302 920 [(0, .ref b), (1, .ref (adC 0)), (2, .ref (adR 0)), (3, .int (nI i))] [] (zz_cells zz_SC cI adC MC1 ++ zz_cells zz_SR cI adR MR1)) : zz_U p l e room_1 s m #[Value.ref b] below meth c D (fun q : Nat => s.heap.size ≤ q) 4 (lw_Z below #[Value.ref b] s) 50 1302 446 [(0, .ref b), (1, .ref (adC 0)), (2, .ref (adR 0)), (3, .int (nI i))] [] (zz_cells zz_SC cI adC MC ++ zz_cells zz_SR cI adR MR) := by
  refine zz_uaload 447 C dL_law_446 rfl 1 rfl ?_
  refine zz_uaload 448 C dL_law_447 rfl 0 rfl ?_
  refine zz_uiload 449 C dL_law_448 rfl 3 rfl ?_
  refine zz_uiconst 450 C dL_law_449 rfl zz_i1 ?_
  refine zz_uiadd 451 C dL_law_450 rfl ?_
  refine zz_uld 452 C hX hbl (Nat.not_le.mpr hbl) h1 dL_law_451 rfl ?_
  refine zz_uaload 453 C dL_law_452 rfl 0 rfl ?_
  refine zz_uiload 454 C dL_law_453 rfl 3 rfl ?_
  refine zz_uiconst 455 C dL_law_454 rfl zz_i2 ?_
  refine zz_uiadd 456 C dL_law_455 rfl ?_
  refine zz_uld 457 C hX hbl (Nat.not_le.mpr hbl) h2 dL_law_456 rfl ?_
  refine zz_ucC 460 [.int (xs (nI i + 1).toNatClampNeg), .int (xs (nI i + 2).toNatClampNeg)] C dL_law_457 rfl ml_L_47 (k_X4_told e1) rfl rfl rfl (Nat.le_of_ble_eq_true rfl) ⟨Nat.le_of_ble_eq_true rfl, Nat.le_of_ble_eq_true rfl⟩ ⟨Nat.le_of_ble_eq_true rfl, Nat.le_of_ble_eq_true rfl⟩ ?_
  refine zz_uaload 461 C dL_law_460 rfl 2 rfl ?_
  refine zz_uaload 462 C dL_law_461 rfl 0 rfl ?_
  refine zz_uiload 463 C dL_law_462 rfl 3 rfl ?_
  refine zz_uiconst 464 C dL_law_463 rfl zz_i1 ?_
  refine zz_uiadd 465 C dL_law_464 rfl ?_
  refine zz_uld 466 C hX hbl (Nat.not_le.mpr hbl) h1 dL_law_465 rfl ?_
  refine zz_uaload 467 C dL_law_466 rfl 0 rfl ?_
  refine zz_uiload 468 C dL_law_467 rfl 3 rfl ?_
  refine zz_uiconst 469 C dL_law_468 rfl zz_i2 ?_
  refine zz_uiadd 470 C dL_law_469 rfl ?_
  refine zz_uld 471 C hX hbl (Nat.not_le.mpr hbl) h2 dL_law_470 rfl ?_
  refine zz_ucR 474 [.int (xs (nI i + 1).toNatClampNeg), .int (xs (nI i + 2).toNatClampNeg)] C dL_law_471 rfl ml_L_50 (k_X5_told e2) rfl rfl rfl (Nat.le_of_ble_eq_true rfl) ⟨Nat.le_of_ble_eq_true rfl, Nat.le_of_ble_eq_true rfl⟩ ⟨Nat.le_of_ble_eq_true rfl, Nat.le_of_ble_eq_true rfl⟩ ?_
  refine zz_uicmp_eq 920 C dL_law_474 rfl ?_
  exact kk
set_option maxHeartbeats 4000000 in
set_option maxRecDepth 100000 in
theorem law_thingOf {p : Program} {l : Launch} {e : Env} {s : State} {m : MethodId} {below : List Frame} {meth : Method} {c : Code} {D : va_G} {cI : ClassId} {adC adR : Nat → Nat} {b L : Nat} {xs : Nat → Int32} (C : zz_C p room_1 s m #[Value.ref b] meth c D cI RL cL_law 4 ret 0 0) (hX : va_X b L xs s s.heap) (hbl : b < s.heap.size) (hL : L ≤ 2048) {i : Nat} (h1 : vp_in (nI i + 1) L) (h2 : vp_in (nI i + 2) L) {r : Int32} {MC MR MC1 MR1 : zz_Mem} (e1 : f_X4_thingOf (xs (nI i + 1).toNatClampNeg) (xs (nI i + 2).toNatClampNeg) MC = some (r, MC1)) (e2 : f_X5_thingOf (xs (nI i + 1).toNatClampNeg) (xs (nI i + 2).toNatClampNeg) MR = some (r, MR1)) (kk : zz_U p l e room_1 s m #[Value.ref b] below meth c D (fun q : Nat => s.heap.size ≤ q) 4 (lw_Z below #[Value.ref b] s) 50 1302 920 [(0, .ref b), (1, .ref (adC 0)), (2, .ref (adR 0)), (3, .int (nI i))] [] (zz_cells zz_SC cI adC MC1 ++ zz_cells zz_SR cI adR MR1)) : zz_U p l e room_1 s m #[Value.ref b] below meth c D (fun q : Nat => s.heap.size ≤ q) 4 (lw_Z below #[Value.ref b] s) 50 1302 479 [(0, .ref b), (1, .ref (adC 0)), (2, .ref (adR 0)), (3, .int (nI i))] [] (zz_cells zz_SC cI adC MC ++ zz_cells zz_SR cI adR MR) := by
  refine zz_uaload 480 C dL_law_479 rfl 1 rfl ?_
  refine zz_uaload 481 C dL_law_480 rfl 0 rfl ?_
  refine zz_uiload 482 C dL_law_481 rfl 3 rfl ?_
  refine zz_uiconst 483 C dL_law_482 rfl zz_i1 ?_
  refine zz_uiadd 484 C dL_law_483 rfl ?_
  refine zz_uld 485 C hX hbl (Nat.not_le.mpr hbl) h1 dL_law_484 rfl ?_
  refine zz_uaload 486 C dL_law_485 rfl 0 rfl ?_
  refine zz_uiload 487 C dL_law_486 rfl 3 rfl ?_
  refine zz_uiconst 488 C dL_law_487 rfl zz_i2 ?_
  refine zz_uiadd 489 C dL_law_488 rfl ?_
  refine zz_uld 490 C hX hbl (Nat.not_le.mpr hbl) h2 dL_law_489 rfl ?_
  refine zz_ucC 493 [.int (xs (nI i + 1).toNatClampNeg), .int (xs (nI i + 2).toNatClampNeg)] C dL_law_490 rfl ml_L_51 (k_X4_thingOf e1) rfl rfl rfl (Nat.le_of_ble_eq_true rfl) ⟨Nat.le_of_ble_eq_true rfl, Nat.le_of_ble_eq_true rfl⟩ ⟨Nat.le_of_ble_eq_true rfl, Nat.le_of_ble_eq_true rfl⟩ ?_
  refine zz_uaload 494 C dL_law_493 rfl 2 rfl ?_
  refine zz_uaload 495 C dL_law_494 rfl 0 rfl ?_
  refine zz_uiload 496 C dL_law_495 rfl 3 rfl ?_
  refine zz_uiconst 497 C dL_law_496 rfl zz_i1 ?_
  refine zz_uiadd 498 C dL_law_497 rfl ?_
  refine zz_uld 499 C hX hbl (Nat.not_le.mpr hbl) h1 dL_law_498 rfl ?_
  refine zz_uaload 500 C dL_law_499 rfl 0 rfl ?_
  refine zz_uiload 501 C dL_law_500 rfl 3 rfl ?_
  refine zz_uiconst 502 C dL_law_501 rfl zz_i2 ?_
  refine zz_uiadd 503 C dL_law_502 rfl ?_
  refine zz_uld 504 C hX hbl (Nat.not_le.mpr hbl) h2 dL_law_503 rfl ?_
  refine zz_ucR 507 [.int (xs (nI i + 1).toNatClampNeg), .int (xs (nI i + 2).toNatClampNeg)] C dL_law_504 rfl ml_L_54 (k_X5_thingOf e2) rfl rfl rfl (Nat.le_of_ble_eq_true rfl) ⟨Nat.le_of_ble_eq_true rfl, Nat.le_of_ble_eq_true rfl⟩ ⟨Nat.le_of_ble_eq_true rfl, Nat.le_of_ble_eq_true rfl⟩ ?_
  refine zz_uicmp_eq 920 C dL_law_507 rfl ?_
  exact kk
set_option maxHeartbeats 4000000 in
set_option maxRecDepth 100000 in
theorem law_ahead {p : Program} {l : Launch} {e : Env} {s : State} {m : MethodId} {below : List Frame} {meth : Method} {c : Code} {D : va_G} {cI : ClassId} {adC adR : Nat → Nat} {b L : Nat} {xs : Nat → Int32} (C : zz_C p room_1 s m #[Value.ref b] meth c D cI RL cL_law 4 ret 0 0) (hX : va_X b L xs s s.heap) (hbl : b < s.heap.size) (hL : L ≤ 2048) {i : Nat} (h1 : vp_in (nI i + 1) L) (h2 : vp_in (nI i + 2) L) {r : Int32} {MC MR MC1 MR1 : zz_Mem} (e1 : f_X4_ahead (xs (nI i + 1).toNatClampNeg) (xs (nI i + 2).toNatClampNeg) MC = some (r, MC1)) (e2 : f_X5_ahead (xs (nI i + 1).toNatClampNeg) (xs (nI i + 2).toNatClampNeg) MR = some (r, MR1)) (kk : zz_U p l e room_1 s m #[Value.ref b] below meth c D (fun q : Nat => s.heap.size ≤ q) 4 (lw_Z below #[Value.ref b] s) 50 1302 920 [(0, .ref b), (1, .ref (adC 0)), (2, .ref (adR 0)), (3, .int (nI i))] [] (zz_cells zz_SC cI adC MC1 ++ zz_cells zz_SR cI adR MR1)) : zz_U p l e room_1 s m #[Value.ref b] below meth c D (fun q : Nat => s.heap.size ≤ q) 4 (lw_Z below #[Value.ref b] s) 50 1302 512 [(0, .ref b), (1, .ref (adC 0)), (2, .ref (adR 0)), (3, .int (nI i))] [] (zz_cells zz_SC cI adC MC ++ zz_cells zz_SR cI adR MR) := by
  refine zz_uaload 513 C dL_law_512 rfl 1 rfl ?_
  refine zz_uaload 514 C dL_law_513 rfl 0 rfl ?_
  refine zz_uiload 515 C dL_law_514 rfl 3 rfl ?_
  refine zz_uiconst 516 C dL_law_515 rfl zz_i1 ?_
  refine zz_uiadd 517 C dL_law_516 rfl ?_
  refine zz_uld 518 C hX hbl (Nat.not_le.mpr hbl) h1 dL_law_517 rfl ?_
  refine zz_uaload 519 C dL_law_518 rfl 0 rfl ?_
  refine zz_uiload 520 C dL_law_519 rfl 3 rfl ?_
  refine zz_uiconst 521 C dL_law_520 rfl zz_i2 ?_
  refine zz_uiadd 522 C dL_law_521 rfl ?_
  refine zz_uld 523 C hX hbl (Nat.not_le.mpr hbl) h2 dL_law_522 rfl ?_
  refine zz_ucC 526 [.int (xs (nI i + 1).toNatClampNeg), .int (xs (nI i + 2).toNatClampNeg)] C dL_law_523 rfl ml_L_55 (k_X4_ahead e1) rfl rfl rfl (Nat.le_of_ble_eq_true rfl) ⟨Nat.le_of_ble_eq_true rfl, Nat.le_of_ble_eq_true rfl⟩ ⟨Nat.le_of_ble_eq_true rfl, Nat.le_of_ble_eq_true rfl⟩ ?_
  refine zz_uaload 527 C dL_law_526 rfl 2 rfl ?_
  refine zz_uaload 528 C dL_law_527 rfl 0 rfl ?_
  refine zz_uiload 529 C dL_law_528 rfl 3 rfl ?_
  refine zz_uiconst 530 C dL_law_529 rfl zz_i1 ?_
  refine zz_uiadd 531 C dL_law_530 rfl ?_
  refine zz_uld 532 C hX hbl (Nat.not_le.mpr hbl) h1 dL_law_531 rfl ?_
  refine zz_uaload 533 C dL_law_532 rfl 0 rfl ?_
  refine zz_uiload 534 C dL_law_533 rfl 3 rfl ?_
  refine zz_uiconst 535 C dL_law_534 rfl zz_i2 ?_
  refine zz_uiadd 536 C dL_law_535 rfl ?_
  refine zz_uld 537 C hX hbl (Nat.not_le.mpr hbl) h2 dL_law_536 rfl ?_
  refine zz_ucR 540 [.int (xs (nI i + 1).toNatClampNeg), .int (xs (nI i + 2).toNatClampNeg)] C dL_law_537 rfl ml_L_58 (k_X5_ahead e2) rfl rfl rfl (Nat.le_of_ble_eq_true rfl) ⟨Nat.le_of_ble_eq_true rfl, Nat.le_of_ble_eq_true rfl⟩ ⟨Nat.le_of_ble_eq_true rfl, Nat.le_of_ble_eq_true rfl⟩ ?_
  refine zz_uicmp_eq 920 C dL_law_540 rfl ?_
  exact kk
set_option maxHeartbeats 4000000 in
set_option maxRecDepth 100000 in
theorem law_clash {p : Program} {l : Launch} {e : Env} {s : State} {m : MethodId} {below : List Frame} {meth : Method} {c : Code} {D : va_G} {cI : ClassId} {adC adR : Nat → Nat} {b L : Nat} {xs : Nat → Int32} (C : zz_C p room_1 s m #[Value.ref b] meth c D cI RL cL_law 4 ret 0 0) (hX : va_X b L xs s s.heap) (hbl : b < s.heap.size) (hL : L ≤ 2048) {i : Nat} (h1 : vp_in (nI i + 1) L) (h2 : vp_in (nI i + 2) L) (h3 : vp_in (nI i + 3) L) {r : Int32} {MC MR MC1 MR1 : zz_Mem} (e1 : f_X4_clash (xs (nI i + 1).toNatClampNeg) (xs (nI i + 2).toNatClampNeg) (xs (nI i + 3).toNatClampNeg) MC = some (r, MC1)) (e2 : f_X5_clash (xs (nI i + 1).toNatClampNeg) (xs (nI i + 2).toNatClampNeg) (xs (nI i + 3).toNatClampNeg) MR = some (r, MR1)) (kk : zz_U p l e room_1 s m #[Value.ref b] below meth c D (fun q : Nat => s.heap.size ≤ q) 4 (lw_Z below #[Value.ref b] s) 50 1302 920 [(0, .ref b), (1, .ref (adC 0)), (2, .ref (adR 0)), (3, .int (nI i))] [] (zz_cells zz_SC cI adC MC1 ++ zz_cells zz_SR cI adR MR1)) : zz_U p l e room_1 s m #[Value.ref b] below meth c D (fun q : Nat => s.heap.size ≤ q) 4 (lw_Z below #[Value.ref b] s) 50 1302 545 [(0, .ref b), (1, .ref (adC 0)), (2, .ref (adR 0)), (3, .int (nI i))] [] (zz_cells zz_SC cI adC MC ++ zz_cells zz_SR cI adR MR) := by
  refine zz_uaload 546 C dL_law_545 rfl 1 rfl ?_
  refine zz_uaload 547 C dL_law_546 rfl 0 rfl ?_
  refine zz_uiload 548 C dL_law_547 rfl 3 rfl ?_
  refine zz_uiconst 549 C dL_law_548 rfl zz_i1 ?_
  refine zz_uiadd 550 C dL_law_549 rfl ?_
  refine zz_uld 551 C hX hbl (Nat.not_le.mpr hbl) h1 dL_law_550 rfl ?_
  refine zz_uaload 552 C dL_law_551 rfl 0 rfl ?_
  refine zz_uiload 553 C dL_law_552 rfl 3 rfl ?_
  refine zz_uiconst 554 C dL_law_553 rfl zz_i2 ?_
  refine zz_uiadd 555 C dL_law_554 rfl ?_
  refine zz_uld 556 C hX hbl (Nat.not_le.mpr hbl) h2 dL_law_555 rfl ?_
  refine zz_uaload 557 C dL_law_556 rfl 0 rfl ?_
  refine zz_uiload 558 C dL_law_557 rfl 3 rfl ?_
  refine zz_uiconst 559 C dL_law_558 rfl zz_i3 ?_
  refine zz_uiadd 560 C dL_law_559 rfl ?_
  refine zz_uld 561 C hX hbl (Nat.not_le.mpr hbl) h3 dL_law_560 rfl ?_
  refine zz_ucC 564 [.int (xs (nI i + 1).toNatClampNeg), .int (xs (nI i + 2).toNatClampNeg), .int (xs (nI i + 3).toNatClampNeg)] C dL_law_561 rfl ml_L_59 (k_X4_clash e1) rfl rfl rfl (Nat.le_of_ble_eq_true rfl) ⟨Nat.le_of_ble_eq_true rfl, Nat.le_of_ble_eq_true rfl⟩ ⟨Nat.le_of_ble_eq_true rfl, Nat.le_of_ble_eq_true rfl⟩ ?_
  refine zz_uaload 565 C dL_law_564 rfl 2 rfl ?_
  refine zz_uaload 566 C dL_law_565 rfl 0 rfl ?_
  refine zz_uiload 567 C dL_law_566 rfl 3 rfl ?_
  refine zz_uiconst 568 C dL_law_567 rfl zz_i1 ?_
  refine zz_uiadd 569 C dL_law_568 rfl ?_
  refine zz_uld 570 C hX hbl (Nat.not_le.mpr hbl) h1 dL_law_569 rfl ?_
  refine zz_uaload 571 C dL_law_570 rfl 0 rfl ?_
  refine zz_uiload 572 C dL_law_571 rfl 3 rfl ?_
  refine zz_uiconst 573 C dL_law_572 rfl zz_i2 ?_
  refine zz_uiadd 574 C dL_law_573 rfl ?_
  refine zz_uld 575 C hX hbl (Nat.not_le.mpr hbl) h2 dL_law_574 rfl ?_
  refine zz_uaload 576 C dL_law_575 rfl 0 rfl ?_
  refine zz_uiload 577 C dL_law_576 rfl 3 rfl ?_
  refine zz_uiconst 578 C dL_law_577 rfl zz_i3 ?_
  refine zz_uiadd 579 C dL_law_578 rfl ?_
  refine zz_uld 580 C hX hbl (Nat.not_le.mpr hbl) h3 dL_law_579 rfl ?_
  refine zz_ucR 583 [.int (xs (nI i + 1).toNatClampNeg), .int (xs (nI i + 2).toNatClampNeg), .int (xs (nI i + 3).toNatClampNeg)] C dL_law_580 rfl ml_L_62 (k_X5_clash e2) rfl rfl rfl (Nat.le_of_ble_eq_true rfl) ⟨Nat.le_of_ble_eq_true rfl, Nat.le_of_ble_eq_true rfl⟩ ⟨Nat.le_of_ble_eq_true rfl, Nat.le_of_ble_eq_true rfl⟩ ?_
  refine zz_uicmp_eq 920 C dL_law_583 rfl ?_
  exact kk
set_option maxHeartbeats 4000000 in
set_option maxRecDepth 100000 in
theorem law_noise {p : Program} {l : Launch} {e : Env} {s : State} {m : MethodId} {below : List Frame} {meth : Method} {c : Code} {D : va_G} {cI : ClassId} {adC adR : Nat → Nat} {b L : Nat} {xs : Nat → Int32} (C : zz_C p room_1 s m #[Value.ref b] meth c D cI RL cL_law 4 ret 0 0) (hX : va_X b L xs s s.heap) (hbl : b < s.heap.size) (hL : L ≤ 2048) {i : Nat} (h1 : vp_in (nI i + 1) L) (h2 : vp_in (nI i + 2) L) {r : Int32} {MC MR MC1 MR1 : zz_Mem} (e1 : f_X4_noise (xs (nI i + 1).toNatClampNeg) (xs (nI i + 2).toNatClampNeg) MC = some (r, MC1)) (e2 : f_X5_noise (xs (nI i + 1).toNatClampNeg) (xs (nI i + 2).toNatClampNeg) MR = some (r, MR1)) (kk : zz_U p l e room_1 s m #[Value.ref b] below meth c D (fun q : Nat => s.heap.size ≤ q) 4 (lw_Z below #[Value.ref b] s) 50 1302 920 [(0, .ref b), (1, .ref (adC 0)), (2, .ref (adR 0)), (3, .int (nI i))] [] (zz_cells zz_SC cI adC MC1 ++ zz_cells zz_SR cI adR MR1)) : zz_U p l e room_1 s m #[Value.ref b] below meth c D (fun q : Nat => s.heap.size ≤ q) 4 (lw_Z below #[Value.ref b] s) 50 1302 588 [(0, .ref b), (1, .ref (adC 0)), (2, .ref (adR 0)), (3, .int (nI i))] [] (zz_cells zz_SC cI adC MC ++ zz_cells zz_SR cI adR MR) := by
  refine zz_uaload 589 C dL_law_588 rfl 1 rfl ?_
  refine zz_uaload 590 C dL_law_589 rfl 0 rfl ?_
  refine zz_uiload 591 C dL_law_590 rfl 3 rfl ?_
  refine zz_uiconst 592 C dL_law_591 rfl zz_i1 ?_
  refine zz_uiadd 593 C dL_law_592 rfl ?_
  refine zz_uld 594 C hX hbl (Nat.not_le.mpr hbl) h1 dL_law_593 rfl ?_
  refine zz_uaload 595 C dL_law_594 rfl 0 rfl ?_
  refine zz_uiload 596 C dL_law_595 rfl 3 rfl ?_
  refine zz_uiconst 597 C dL_law_596 rfl zz_i2 ?_
  refine zz_uiadd 598 C dL_law_597 rfl ?_
  refine zz_uld 599 C hX hbl (Nat.not_le.mpr hbl) h2 dL_law_598 rfl ?_
  refine zz_ucC 602 [.int (xs (nI i + 1).toNatClampNeg), .int (xs (nI i + 2).toNatClampNeg)] C dL_law_599 rfl ml_L_63 (k_X4_noise e1) rfl rfl rfl (Nat.le_of_ble_eq_true rfl) ⟨Nat.le_of_ble_eq_true rfl, Nat.le_of_ble_eq_true rfl⟩ ⟨Nat.le_of_ble_eq_true rfl, Nat.le_of_ble_eq_true rfl⟩ ?_
  refine zz_uaload 603 C dL_law_602 rfl 2 rfl ?_
  refine zz_uaload 604 C dL_law_603 rfl 0 rfl ?_
  refine zz_uiload 605 C dL_law_604 rfl 3 rfl ?_
  refine zz_uiconst 606 C dL_law_605 rfl zz_i1 ?_
  refine zz_uiadd 607 C dL_law_606 rfl ?_
  refine zz_uld 608 C hX hbl (Nat.not_le.mpr hbl) h1 dL_law_607 rfl ?_
  refine zz_uaload 609 C dL_law_608 rfl 0 rfl ?_
  refine zz_uiload 610 C dL_law_609 rfl 3 rfl ?_
  refine zz_uiconst 611 C dL_law_610 rfl zz_i2 ?_
  refine zz_uiadd 612 C dL_law_611 rfl ?_
  refine zz_uld 613 C hX hbl (Nat.not_le.mpr hbl) h2 dL_law_612 rfl ?_
  refine zz_ucR 616 [.int (xs (nI i + 1).toNatClampNeg), .int (xs (nI i + 2).toNatClampNeg)] C dL_law_613 rfl ml_L_66 (k_X5_noise e2) rfl rfl rfl (Nat.le_of_ble_eq_true rfl) ⟨Nat.le_of_ble_eq_true rfl, Nat.le_of_ble_eq_true rfl⟩ ⟨Nat.le_of_ble_eq_true rfl, Nat.le_of_ble_eq_true rfl⟩ ?_
  refine zz_uicmp_eq 920 C dL_law_616 rfl ?_
  exact kk
set_option maxHeartbeats 4000000 in
set_option maxRecDepth 100000 in
theorem law_cost {p : Program} {l : Launch} {e : Env} {s : State} {m : MethodId} {below : List Frame} {meth : Method} {c : Code} {D : va_G} {cI : ClassId} {adC adR : Nat → Nat} {b L : Nat} {xs : Nat → Int32} (C : zz_C p room_1 s m #[Value.ref b] meth c D cI RL cL_law 4 ret 0 0) (hX : va_X b L xs s s.heap) (hbl : b < s.heap.size) (hL : L ≤ 2048) {i : Nat}  {r : Int32} {MC MR MC1 MR1 : zz_Mem} (e1 : f_X4_cost  MC = some (r, MC1)) (e2 : f_X5_cost  MR = some (r, MR1)) (kk : zz_U p l e room_1 s m #[Value.ref b] below meth c D (fun q : Nat => s.heap.size ≤ q) 4 (lw_Z below #[Value.ref b] s) 50 1302 920 [(0, .ref b), (1, .ref (adC 0)), (2, .ref (adR 0)), (3, .int (nI i))] [] (zz_cells zz_SC cI adC MC1 ++ zz_cells zz_SR cI adR MR1)) : zz_U p l e room_1 s m #[Value.ref b] below meth c D (fun q : Nat => s.heap.size ≤ q) 4 (lw_Z below #[Value.ref b] s) 50 1302 621 [(0, .ref b), (1, .ref (adC 0)), (2, .ref (adR 0)), (3, .int (nI i))] [] (zz_cells zz_SC cI adC MC ++ zz_cells zz_SR cI adR MR) := by
  refine zz_uaload 622 C dL_law_621 rfl 1 rfl ?_
  refine zz_ucC 625 [] C dL_law_622 rfl ml_L_67 (k_X4_cost e1) rfl rfl rfl (Nat.le_of_ble_eq_true rfl) ⟨Nat.le_of_ble_eq_true rfl, Nat.le_of_ble_eq_true rfl⟩ ⟨Nat.le_of_ble_eq_true rfl, Nat.le_of_ble_eq_true rfl⟩ ?_
  refine zz_uaload 626 C dL_law_625 rfl 2 rfl ?_
  refine zz_ucR 629 [] C dL_law_626 rfl ml_L_71 (k_X5_cost e2) rfl rfl rfl (Nat.le_of_ble_eq_true rfl) ⟨Nat.le_of_ble_eq_true rfl, Nat.le_of_ble_eq_true rfl⟩ ⟨Nat.le_of_ble_eq_true rfl, Nat.le_of_ble_eq_true rfl⟩ ?_
  refine zz_uicmp_eq 920 C dL_law_629 rfl ?_
  exact kk
set_option maxHeartbeats 4000000 in
set_option maxRecDepth 100000 in
theorem law_cut {p : Program} {l : Launch} {e : Env} {s : State} {m : MethodId} {below : List Frame} {meth : Method} {c : Code} {D : va_G} {cI : ClassId} {adC adR : Nat → Nat} {b L : Nat} {xs : Nat → Int32} (C : zz_C p room_1 s m #[Value.ref b] meth c D cI RL cL_law 4 ret 0 0) (hX : va_X b L xs s s.heap) (hbl : b < s.heap.size) (hL : L ≤ 2048) {i : Nat} (h1 : vp_in (nI i + 1) L) {r : Int32} {MC MR MC1 MR1 : zz_Mem} (e1 : f_X4_cut (xs (nI i + 1).toNatClampNeg) MC = some (r, MC1)) (e2 : f_X5_cut (xs (nI i + 1).toNatClampNeg) MR = some (r, MR1)) (kk : zz_U p l e room_1 s m #[Value.ref b] below meth c D (fun q : Nat => s.heap.size ≤ q) 4 (lw_Z below #[Value.ref b] s) 50 1302 920 [(0, .ref b), (1, .ref (adC 0)), (2, .ref (adR 0)), (3, .int (nI i))] [] (zz_cells zz_SC cI adC MC1 ++ zz_cells zz_SR cI adR MR1)) : zz_U p l e room_1 s m #[Value.ref b] below meth c D (fun q : Nat => s.heap.size ≤ q) 4 (lw_Z below #[Value.ref b] s) 50 1302 634 [(0, .ref b), (1, .ref (adC 0)), (2, .ref (adR 0)), (3, .int (nI i))] [] (zz_cells zz_SC cI adC MC ++ zz_cells zz_SR cI adR MR) := by
  refine zz_uaload 635 C dL_law_634 rfl 1 rfl ?_
  refine zz_uaload 636 C dL_law_635 rfl 0 rfl ?_
  refine zz_uiload 637 C dL_law_636 rfl 3 rfl ?_
  refine zz_uiconst 638 C dL_law_637 rfl zz_i1 ?_
  refine zz_uiadd 639 C dL_law_638 rfl ?_
  refine zz_uld 640 C hX hbl (Nat.not_le.mpr hbl) h1 dL_law_639 rfl ?_
  refine zz_ucC 643 [.int (xs (nI i + 1).toNatClampNeg)] C dL_law_640 rfl ml_L_72 (k_X4_cut e1) rfl rfl rfl (Nat.le_of_ble_eq_true rfl) ⟨Nat.le_of_ble_eq_true rfl, Nat.le_of_ble_eq_true rfl⟩ ⟨Nat.le_of_ble_eq_true rfl, Nat.le_of_ble_eq_true rfl⟩ ?_
  refine zz_uaload 644 C dL_law_643 rfl 2 rfl ?_
  refine zz_uaload 645 C dL_law_644 rfl 0 rfl ?_
  refine zz_uiload 646 C dL_law_645 rfl 3 rfl ?_
  refine zz_uiconst 647 C dL_law_646 rfl zz_i1 ?_
  refine zz_uiadd 648 C dL_law_647 rfl ?_
  refine zz_uld 649 C hX hbl (Nat.not_le.mpr hbl) h1 dL_law_648 rfl ?_
  refine zz_ucR 652 [.int (xs (nI i + 1).toNatClampNeg)] C dL_law_649 rfl ml_L_76 (k_X5_cut e2) rfl rfl rfl (Nat.le_of_ble_eq_true rfl) ⟨Nat.le_of_ble_eq_true rfl, Nat.le_of_ble_eq_true rfl⟩ ⟨Nat.le_of_ble_eq_true rfl, Nat.le_of_ble_eq_true rfl⟩ ?_
  refine zz_uicmp_eq 920 C dL_law_652 rfl ?_
  exact kk
set_option maxHeartbeats 4000000 in
set_option maxRecDepth 100000 in
theorem law_choose {p : Program} {l : Launch} {e : Env} {s : State} {m : MethodId} {below : List Frame} {meth : Method} {c : Code} {D : va_G} {cI : ClassId} {adC adR : Nat → Nat} {b L : Nat} {xs : Nat → Int32} (C : zz_C p room_1 s m #[Value.ref b] meth c D cI RL cL_law 4 ret 0 0) (hX : va_X b L xs s s.heap) (hbl : b < s.heap.size) (hL : L ≤ 2048) {i : Nat} (h1 : vp_in (nI i + 1) L) (h2 : vp_in (nI i + 2) L) {r : Int32} {MC MR MC1 MR1 : zz_Mem} (e1 : f_X4_choose (xs (nI i + 1).toNatClampNeg) (xs (nI i + 2).toNatClampNeg) MC = some (r, MC1)) (e2 : f_X5_choose (xs (nI i + 1).toNatClampNeg) (xs (nI i + 2).toNatClampNeg) MR = some (r, MR1)) (kk : zz_U p l e room_1 s m #[Value.ref b] below meth c D (fun q : Nat => s.heap.size ≤ q) 4 (lw_Z below #[Value.ref b] s) 50 1302 920 [(0, .ref b), (1, .ref (adC 0)), (2, .ref (adR 0)), (3, .int (nI i))] [] (zz_cells zz_SC cI adC MC1 ++ zz_cells zz_SR cI adR MR1)) : zz_U p l e room_1 s m #[Value.ref b] below meth c D (fun q : Nat => s.heap.size ≤ q) 4 (lw_Z below #[Value.ref b] s) 50 1302 657 [(0, .ref b), (1, .ref (adC 0)), (2, .ref (adR 0)), (3, .int (nI i))] [] (zz_cells zz_SC cI adC MC ++ zz_cells zz_SR cI adR MR) := by
  refine zz_uaload 658 C dL_law_657 rfl 1 rfl ?_
  refine zz_uaload 659 C dL_law_658 rfl 0 rfl ?_
  refine zz_uiload 660 C dL_law_659 rfl 3 rfl ?_
  refine zz_uiconst 661 C dL_law_660 rfl zz_i1 ?_
  refine zz_uiadd 662 C dL_law_661 rfl ?_
  refine zz_uld 663 C hX hbl (Nat.not_le.mpr hbl) h1 dL_law_662 rfl ?_
  refine zz_uaload 664 C dL_law_663 rfl 0 rfl ?_
  refine zz_uiload 665 C dL_law_664 rfl 3 rfl ?_
  refine zz_uiconst 666 C dL_law_665 rfl zz_i2 ?_
  refine zz_uiadd 667 C dL_law_666 rfl ?_
  refine zz_uld 668 C hX hbl (Nat.not_le.mpr hbl) h2 dL_law_667 rfl ?_
  refine zz_ucC 671 [.int (xs (nI i + 1).toNatClampNeg), .int (xs (nI i + 2).toNatClampNeg)] C dL_law_668 rfl ml_L_77 (k_X4_choose e1) rfl rfl rfl (Nat.le_of_ble_eq_true rfl) ⟨Nat.le_of_ble_eq_true rfl, Nat.le_of_ble_eq_true rfl⟩ ⟨Nat.le_of_ble_eq_true rfl, Nat.le_of_ble_eq_true rfl⟩ ?_
  refine zz_uaload 672 C dL_law_671 rfl 2 rfl ?_
  refine zz_uaload 673 C dL_law_672 rfl 0 rfl ?_
  refine zz_uiload 674 C dL_law_673 rfl 3 rfl ?_
  refine zz_uiconst 675 C dL_law_674 rfl zz_i1 ?_
  refine zz_uiadd 676 C dL_law_675 rfl ?_
  refine zz_uld 677 C hX hbl (Nat.not_le.mpr hbl) h1 dL_law_676 rfl ?_
  refine zz_uaload 678 C dL_law_677 rfl 0 rfl ?_
  refine zz_uiload 679 C dL_law_678 rfl 3 rfl ?_
  refine zz_uiconst 680 C dL_law_679 rfl zz_i2 ?_
  refine zz_uiadd 681 C dL_law_680 rfl ?_
  refine zz_uld 682 C hX hbl (Nat.not_le.mpr hbl) h2 dL_law_681 rfl ?_
  refine zz_ucR 685 [.int (xs (nI i + 1).toNatClampNeg), .int (xs (nI i + 2).toNatClampNeg)] C dL_law_682 rfl ml_L_80 (k_X5_choose e2) rfl rfl rfl (Nat.le_of_ble_eq_true rfl) ⟨Nat.le_of_ble_eq_true rfl, Nat.le_of_ble_eq_true rfl⟩ ⟨Nat.le_of_ble_eq_true rfl, Nat.le_of_ble_eq_true rfl⟩ ?_
  refine zz_uicmp_eq 920 C dL_law_685 rfl ?_
  exact kk
set_option maxHeartbeats 4000000 in
set_option maxRecDepth 100000 in
theorem law_adopt {p : Program} {l : Launch} {e : Env} {s : State} {m : MethodId} {below : List Frame} {meth : Method} {c : Code} {D : va_G} {cI : ClassId} {adC adR : Nat → Nat} {b L : Nat} {xs : Nat → Int32} (C : zz_C p room_1 s m #[Value.ref b] meth c D cI RL cL_law 4 ret 0 0) (hX : va_X b L xs s s.heap) (hbl : b < s.heap.size) (hL : L ≤ 2048) {i : Nat}  {r : Int32} {MC MR MC1 MR1 : zz_Mem} (e1 : f_X4_adopt  MC = some (r, MC1)) (e2 : f_X5_adopt  MR = some (r, MR1)) (kk : zz_U p l e room_1 s m #[Value.ref b] below meth c D (fun q : Nat => s.heap.size ≤ q) 4 (lw_Z below #[Value.ref b] s) 50 1302 920 [(0, .ref b), (1, .ref (adC 0)), (2, .ref (adR 0)), (3, .int (nI i))] [] (zz_cells zz_SC cI adC MC1 ++ zz_cells zz_SR cI adR MR1)) : zz_U p l e room_1 s m #[Value.ref b] below meth c D (fun q : Nat => s.heap.size ≤ q) 4 (lw_Z below #[Value.ref b] s) 50 1302 690 [(0, .ref b), (1, .ref (adC 0)), (2, .ref (adR 0)), (3, .int (nI i))] [] (zz_cells zz_SC cI adC MC ++ zz_cells zz_SR cI adR MR) := by
  refine zz_uaload 691 C dL_law_690 rfl 1 rfl ?_
  refine zz_ucC 694 [] C dL_law_691 rfl ml_L_81 (k_X4_adopt e1) rfl rfl rfl (Nat.le_of_ble_eq_true rfl) ⟨Nat.le_of_ble_eq_true rfl, Nat.le_of_ble_eq_true rfl⟩ ⟨Nat.le_of_ble_eq_true rfl, Nat.le_of_ble_eq_true rfl⟩ ?_
  refine zz_uaload 695 C dL_law_694 rfl 2 rfl ?_
  refine zz_ucR 698 [] C dL_law_695 rfl ml_L_84 (k_X5_adopt e2) rfl rfl rfl (Nat.le_of_ble_eq_true rfl) ⟨Nat.le_of_ble_eq_true rfl, Nat.le_of_ble_eq_true rfl⟩ ⟨Nat.le_of_ble_eq_true rfl, Nat.le_of_ble_eq_true rfl⟩ ?_
  refine zz_uicmp_eq 920 C dL_law_698 rfl ?_
  exact kk
set_option maxHeartbeats 4000000 in
set_option maxRecDepth 100000 in
theorem law_chosen {p : Program} {l : Launch} {e : Env} {s : State} {m : MethodId} {below : List Frame} {meth : Method} {c : Code} {D : va_G} {cI : ClassId} {adC adR : Nat → Nat} {b L : Nat} {xs : Nat → Int32} (C : zz_C p room_1 s m #[Value.ref b] meth c D cI RL cL_law 4 ret 0 0) (hX : va_X b L xs s s.heap) (hbl : b < s.heap.size) (hL : L ≤ 2048) {i : Nat}  {r : Int32} {MC MR MC1 MR1 : zz_Mem} (e1 : f_X4_chosen  MC = some (r, MC1)) (e2 : f_X5_chosen  MR = some (r, MR1)) (kk : zz_U p l e room_1 s m #[Value.ref b] below meth c D (fun q : Nat => s.heap.size ≤ q) 4 (lw_Z below #[Value.ref b] s) 50 1302 920 [(0, .ref b), (1, .ref (adC 0)), (2, .ref (adR 0)), (3, .int (nI i))] [] (zz_cells zz_SC cI adC MC1 ++ zz_cells zz_SR cI adR MR1)) : zz_U p l e room_1 s m #[Value.ref b] below meth c D (fun q : Nat => s.heap.size ≤ q) 4 (lw_Z below #[Value.ref b] s) 50 1302 703 [(0, .ref b), (1, .ref (adC 0)), (2, .ref (adR 0)), (3, .int (nI i))] [] (zz_cells zz_SC cI adC MC ++ zz_cells zz_SR cI adR MR) := by
  refine zz_uaload 704 C dL_law_703 rfl 1 rfl ?_
  refine zz_ucC 707 [] C dL_law_704 rfl ml_L_85 (k_X4_chosen e1) rfl rfl rfl (Nat.le_of_ble_eq_true rfl) ⟨Nat.le_of_ble_eq_true rfl, Nat.le_of_ble_eq_true rfl⟩ ⟨Nat.le_of_ble_eq_true rfl, Nat.le_of_ble_eq_true rfl⟩ ?_
  refine zz_uaload 708 C dL_law_707 rfl 2 rfl ?_
  refine zz_ucR 711 [] C dL_law_708 rfl ml_L_88 (k_X5_chosen e2) rfl rfl rfl (Nat.le_of_ble_eq_true rfl) ⟨Nat.le_of_ble_eq_true rfl, Nat.le_of_ble_eq_true rfl⟩ ⟨Nat.le_of_ble_eq_true rfl, Nat.le_of_ble_eq_true rfl⟩ ?_
  refine zz_uicmp_eq 920 C dL_law_711 rfl ?_
  exact kk
set_option maxHeartbeats 4000000 in
set_option maxRecDepth 100000 in
theorem law_span {p : Program} {l : Launch} {e : Env} {s : State} {m : MethodId} {below : List Frame} {meth : Method} {c : Code} {D : va_G} {cI : ClassId} {adC adR : Nat → Nat} {b L : Nat} {xs : Nat → Int32} (C : zz_C p room_1 s m #[Value.ref b] meth c D cI RL cL_law 4 ret 0 0) (hX : va_X b L xs s s.heap) (hbl : b < s.heap.size) (hL : L ≤ 2048) {i : Nat} (h1 : vp_in (nI i + 1) L) (h2 : vp_in (nI i + 2) L) (h3 : vp_in (nI i + 3) L) {r : Int32} {MC MR MC1 MR1 : zz_Mem} (e1 : f_X4_span (xs (nI i + 1).toNatClampNeg) (xs (nI i + 2).toNatClampNeg) (xs (nI i + 3).toNatClampNeg) MC = some (r, MC1)) (e2 : f_X5_span (xs (nI i + 1).toNatClampNeg) (xs (nI i + 2).toNatClampNeg) (xs (nI i + 3).toNatClampNeg) MR = some (r, MR1)) (kk : zz_U p l e room_1 s m #[Value.ref b] below meth c D (fun q : Nat => s.heap.size ≤ q) 4 (lw_Z below #[Value.ref b] s) 50 1302 920 [(0, .ref b), (1, .ref (adC 0)), (2, .ref (adR 0)), (3, .int (nI i))] [] (zz_cells zz_SC cI adC MC1 ++ zz_cells zz_SR cI adR MR1)) : zz_U p l e room_1 s m #[Value.ref b] below meth c D (fun q : Nat => s.heap.size ≤ q) 4 (lw_Z below #[Value.ref b] s) 50 1302 716 [(0, .ref b), (1, .ref (adC 0)), (2, .ref (adR 0)), (3, .int (nI i))] [] (zz_cells zz_SC cI adC MC ++ zz_cells zz_SR cI adR MR) := by
  refine zz_uaload 717 C dL_law_716 rfl 1 rfl ?_
  refine zz_uaload 718 C dL_law_717 rfl 0 rfl ?_
  refine zz_uiload 719 C dL_law_718 rfl 3 rfl ?_
  refine zz_uiconst 720 C dL_law_719 rfl zz_i1 ?_
  refine zz_uiadd 721 C dL_law_720 rfl ?_
  refine zz_uld 722 C hX hbl (Nat.not_le.mpr hbl) h1 dL_law_721 rfl ?_
  refine zz_uaload 723 C dL_law_722 rfl 0 rfl ?_
  refine zz_uiload 724 C dL_law_723 rfl 3 rfl ?_
  refine zz_uiconst 725 C dL_law_724 rfl zz_i2 ?_
  refine zz_uiadd 726 C dL_law_725 rfl ?_
  refine zz_uld 727 C hX hbl (Nat.not_le.mpr hbl) h2 dL_law_726 rfl ?_
  refine zz_uaload 728 C dL_law_727 rfl 0 rfl ?_
  refine zz_uiload 729 C dL_law_728 rfl 3 rfl ?_
  refine zz_uiconst 730 C dL_law_729 rfl zz_i3 ?_
  refine zz_uiadd 731 C dL_law_730 rfl ?_
  refine zz_uld 732 C hX hbl (Nat.not_le.mpr hbl) h3 dL_law_731 rfl ?_
  refine zz_ucC 735 [.int (xs (nI i + 1).toNatClampNeg), .int (xs (nI i + 2).toNatClampNeg), .int (xs (nI i + 3).toNatClampNeg)] C dL_law_732 rfl ml_L_89 (k_X4_span e1) rfl rfl rfl (Nat.le_of_ble_eq_true rfl) ⟨Nat.le_of_ble_eq_true rfl, Nat.le_of_ble_eq_true rfl⟩ ⟨Nat.le_of_ble_eq_true rfl, Nat.le_of_ble_eq_true rfl⟩ ?_
  refine zz_uaload 736 C dL_law_735 rfl 2 rfl ?_
  refine zz_uaload 737 C dL_law_736 rfl 0 rfl ?_
  refine zz_uiload 738 C dL_law_737 rfl 3 rfl ?_
  refine zz_uiconst 739 C dL_law_738 rfl zz_i1 ?_
  refine zz_uiadd 740 C dL_law_739 rfl ?_
  refine zz_uld 741 C hX hbl (Nat.not_le.mpr hbl) h1 dL_law_740 rfl ?_
  refine zz_uaload 742 C dL_law_741 rfl 0 rfl ?_
  refine zz_uiload 743 C dL_law_742 rfl 3 rfl ?_
  refine zz_uiconst 744 C dL_law_743 rfl zz_i2 ?_
  refine zz_uiadd 745 C dL_law_744 rfl ?_
  refine zz_uld 746 C hX hbl (Nat.not_le.mpr hbl) h2 dL_law_745 rfl ?_
  refine zz_uaload 747 C dL_law_746 rfl 0 rfl ?_
  refine zz_uiload 748 C dL_law_747 rfl 3 rfl ?_
  refine zz_uiconst 749 C dL_law_748 rfl zz_i3 ?_
  refine zz_uiadd 750 C dL_law_749 rfl ?_
  refine zz_uld 751 C hX hbl (Nat.not_le.mpr hbl) h3 dL_law_750 rfl ?_
  refine zz_ucR 754 [.int (xs (nI i + 1).toNatClampNeg), .int (xs (nI i + 2).toNatClampNeg), .int (xs (nI i + 3).toNatClampNeg)] C dL_law_751 rfl ml_L_92 (k_X5_span e2) rfl rfl rfl (Nat.le_of_ble_eq_true rfl) ⟨Nat.le_of_ble_eq_true rfl, Nat.le_of_ble_eq_true rfl⟩ ⟨Nat.le_of_ble_eq_true rfl, Nat.le_of_ble_eq_true rfl⟩ ?_
  refine zz_uicmp_eq 920 C dL_law_754 rfl ?_
  exact kk
set_option maxHeartbeats 4000000 in
set_option maxRecDepth 100000 in
theorem law_twin {p : Program} {l : Launch} {e : Env} {s : State} {m : MethodId} {below : List Frame} {meth : Method} {c : Code} {D : va_G} {cI : ClassId} {adC adR : Nat → Nat} {b L : Nat} {xs : Nat → Int32} (C : zz_C p room_1 s m #[Value.ref b] meth c D cI RL cL_law 4 ret 0 0) (hX : va_X b L xs s s.heap) (hbl : b < s.heap.size) (hL : L ≤ 2048) {i : Nat} (h1 : vp_in (nI i + 1) L) (h2 : vp_in (nI i + 2) L) (h3 : vp_in (nI i + 3) L) {r : Int32} {MC MR MC1 MR1 : zz_Mem} (e1 : f_X4_twin (xs (nI i + 1).toNatClampNeg) (xs (nI i + 2).toNatClampNeg) (xs (nI i + 3).toNatClampNeg) MC = some (r, MC1)) (e2 : f_X5_twin (xs (nI i + 1).toNatClampNeg) (xs (nI i + 2).toNatClampNeg) (xs (nI i + 3).toNatClampNeg) MR = some (r, MR1)) (kk : zz_U p l e room_1 s m #[Value.ref b] below meth c D (fun q : Nat => s.heap.size ≤ q) 4 (lw_Z below #[Value.ref b] s) 50 1302 920 [(0, .ref b), (1, .ref (adC 0)), (2, .ref (adR 0)), (3, .int (nI i))] [] (zz_cells zz_SC cI adC MC1 ++ zz_cells zz_SR cI adR MR1)) : zz_U p l e room_1 s m #[Value.ref b] below meth c D (fun q : Nat => s.heap.size ≤ q) 4 (lw_Z below #[Value.ref b] s) 50 1302 759 [(0, .ref b), (1, .ref (adC 0)), (2, .ref (adR 0)), (3, .int (nI i))] [] (zz_cells zz_SC cI adC MC ++ zz_cells zz_SR cI adR MR) := by
  refine zz_uaload 760 C dL_law_759 rfl 1 rfl ?_
  refine zz_uaload 761 C dL_law_760 rfl 0 rfl ?_
  refine zz_uiload 762 C dL_law_761 rfl 3 rfl ?_
  refine zz_uiconst 763 C dL_law_762 rfl zz_i1 ?_
  refine zz_uiadd 764 C dL_law_763 rfl ?_
  refine zz_uld 765 C hX hbl (Nat.not_le.mpr hbl) h1 dL_law_764 rfl ?_
  refine zz_uaload 766 C dL_law_765 rfl 0 rfl ?_
  refine zz_uiload 767 C dL_law_766 rfl 3 rfl ?_
  refine zz_uiconst 768 C dL_law_767 rfl zz_i2 ?_
  refine zz_uiadd 769 C dL_law_768 rfl ?_
  refine zz_uld 770 C hX hbl (Nat.not_le.mpr hbl) h2 dL_law_769 rfl ?_
  refine zz_uaload 771 C dL_law_770 rfl 0 rfl ?_
  refine zz_uiload 772 C dL_law_771 rfl 3 rfl ?_
  refine zz_uiconst 773 C dL_law_772 rfl zz_i3 ?_
  refine zz_uiadd 774 C dL_law_773 rfl ?_
  refine zz_uld 775 C hX hbl (Nat.not_le.mpr hbl) h3 dL_law_774 rfl ?_
  refine zz_ucC 778 [.int (xs (nI i + 1).toNatClampNeg), .int (xs (nI i + 2).toNatClampNeg), .int (xs (nI i + 3).toNatClampNeg)] C dL_law_775 rfl ml_L_93 (k_X4_twin e1) rfl rfl rfl (Nat.le_of_ble_eq_true rfl) ⟨Nat.le_of_ble_eq_true rfl, Nat.le_of_ble_eq_true rfl⟩ ⟨Nat.le_of_ble_eq_true rfl, Nat.le_of_ble_eq_true rfl⟩ ?_
  refine zz_uaload 779 C dL_law_778 rfl 2 rfl ?_
  refine zz_uaload 780 C dL_law_779 rfl 0 rfl ?_
  refine zz_uiload 781 C dL_law_780 rfl 3 rfl ?_
  refine zz_uiconst 782 C dL_law_781 rfl zz_i1 ?_
  refine zz_uiadd 783 C dL_law_782 rfl ?_
  refine zz_uld 784 C hX hbl (Nat.not_le.mpr hbl) h1 dL_law_783 rfl ?_
  refine zz_uaload 785 C dL_law_784 rfl 0 rfl ?_
  refine zz_uiload 786 C dL_law_785 rfl 3 rfl ?_
  refine zz_uiconst 787 C dL_law_786 rfl zz_i2 ?_
  refine zz_uiadd 788 C dL_law_787 rfl ?_
  refine zz_uld 789 C hX hbl (Nat.not_le.mpr hbl) h2 dL_law_788 rfl ?_
  refine zz_uaload 790 C dL_law_789 rfl 0 rfl ?_
  refine zz_uiload 791 C dL_law_790 rfl 3 rfl ?_
  refine zz_uiconst 792 C dL_law_791 rfl zz_i3 ?_
  refine zz_uiadd 793 C dL_law_792 rfl ?_
  refine zz_uld 794 C hX hbl (Nat.not_le.mpr hbl) h3 dL_law_793 rfl ?_
  refine zz_ucR 797 [.int (xs (nI i + 1).toNatClampNeg), .int (xs (nI i + 2).toNatClampNeg), .int (xs (nI i + 3).toNatClampNeg)] C dL_law_794 rfl ml_L_96 (k_X5_twin e2) rfl rfl rfl (Nat.le_of_ble_eq_true rfl) ⟨Nat.le_of_ble_eq_true rfl, Nat.le_of_ble_eq_true rfl⟩ ⟨Nat.le_of_ble_eq_true rfl, Nat.le_of_ble_eq_true rfl⟩ ?_
  refine zz_uicmp_eq 920 C dL_law_797 rfl ?_
  exact kk
set_option maxHeartbeats 4000000 in
set_option maxRecDepth 100000 in
theorem law_doubles {p : Program} {l : Launch} {e : Env} {s : State} {m : MethodId} {below : List Frame} {meth : Method} {c : Code} {D : va_G} {cI : ClassId} {adC adR : Nat → Nat} {b L : Nat} {xs : Nat → Int32} (C : zz_C p room_1 s m #[Value.ref b] meth c D cI RL cL_law 4 ret 0 0) (hX : va_X b L xs s s.heap) (hbl : b < s.heap.size) (hL : L ≤ 2048) {i : Nat} (h1 : vp_in (nI i + 1) L) (h2 : vp_in (nI i + 2) L) {r : Int32} {MC MR MC1 MR1 : zz_Mem} (e1 : f_X4_doubles (xs (nI i + 1).toNatClampNeg) (xs (nI i + 2).toNatClampNeg) MC = some (r, MC1)) (e2 : f_X5_doubles (xs (nI i + 1).toNatClampNeg) (xs (nI i + 2).toNatClampNeg) MR = some (r, MR1)) (kk : zz_U p l e room_1 s m #[Value.ref b] below meth c D (fun q : Nat => s.heap.size ≤ q) 4 (lw_Z below #[Value.ref b] s) 50 1302 920 [(0, .ref b), (1, .ref (adC 0)), (2, .ref (adR 0)), (3, .int (nI i))] [] (zz_cells zz_SC cI adC MC1 ++ zz_cells zz_SR cI adR MR1)) : zz_U p l e room_1 s m #[Value.ref b] below meth c D (fun q : Nat => s.heap.size ≤ q) 4 (lw_Z below #[Value.ref b] s) 50 1302 802 [(0, .ref b), (1, .ref (adC 0)), (2, .ref (adR 0)), (3, .int (nI i))] [] (zz_cells zz_SC cI adC MC ++ zz_cells zz_SR cI adR MR) := by
  refine zz_uaload 803 C dL_law_802 rfl 1 rfl ?_
  refine zz_uaload 804 C dL_law_803 rfl 0 rfl ?_
  refine zz_uiload 805 C dL_law_804 rfl 3 rfl ?_
  refine zz_uiconst 806 C dL_law_805 rfl zz_i1 ?_
  refine zz_uiadd 807 C dL_law_806 rfl ?_
  refine zz_uld 808 C hX hbl (Nat.not_le.mpr hbl) h1 dL_law_807 rfl ?_
  refine zz_uaload 809 C dL_law_808 rfl 0 rfl ?_
  refine zz_uiload 810 C dL_law_809 rfl 3 rfl ?_
  refine zz_uiconst 811 C dL_law_810 rfl zz_i2 ?_
  refine zz_uiadd 812 C dL_law_811 rfl ?_
  refine zz_uld 813 C hX hbl (Nat.not_le.mpr hbl) h2 dL_law_812 rfl ?_
  refine zz_ucC 816 [.int (xs (nI i + 1).toNatClampNeg), .int (xs (nI i + 2).toNatClampNeg)] C dL_law_813 rfl ml_L_97 (k_X4_doubles e1) rfl rfl rfl (Nat.le_of_ble_eq_true rfl) ⟨Nat.le_of_ble_eq_true rfl, Nat.le_of_ble_eq_true rfl⟩ ⟨Nat.le_of_ble_eq_true rfl, Nat.le_of_ble_eq_true rfl⟩ ?_
  refine zz_uaload 817 C dL_law_816 rfl 2 rfl ?_
  refine zz_uaload 818 C dL_law_817 rfl 0 rfl ?_
  refine zz_uiload 819 C dL_law_818 rfl 3 rfl ?_
  refine zz_uiconst 820 C dL_law_819 rfl zz_i1 ?_
  refine zz_uiadd 821 C dL_law_820 rfl ?_
  refine zz_uld 822 C hX hbl (Nat.not_le.mpr hbl) h1 dL_law_821 rfl ?_
  refine zz_uaload 823 C dL_law_822 rfl 0 rfl ?_
  refine zz_uiload 824 C dL_law_823 rfl 3 rfl ?_
  refine zz_uiconst 825 C dL_law_824 rfl zz_i2 ?_
  refine zz_uiadd 826 C dL_law_825 rfl ?_
  refine zz_uld 827 C hX hbl (Nat.not_le.mpr hbl) h2 dL_law_826 rfl ?_
  refine zz_ucR 830 [.int (xs (nI i + 1).toNatClampNeg), .int (xs (nI i + 2).toNatClampNeg)] C dL_law_827 rfl ml_L_100 (k_X5_doubles e2) rfl rfl rfl (Nat.le_of_ble_eq_true rfl) ⟨Nat.le_of_ble_eq_true rfl, Nat.le_of_ble_eq_true rfl⟩ ⟨Nat.le_of_ble_eq_true rfl, Nat.le_of_ble_eq_true rfl⟩ ?_
  refine zz_uicmp_eq 920 C dL_law_830 rfl ?_
  exact kk
set_option maxHeartbeats 4000000 in
set_option maxRecDepth 100000 in
theorem law_reshoot {p : Program} {l : Launch} {e : Env} {s : State} {m : MethodId} {below : List Frame} {meth : Method} {c : Code} {D : va_G} {cI : ClassId} {adC adR : Nat → Nat} {b L : Nat} {xs : Nat → Int32} (C : zz_C p room_1 s m #[Value.ref b] meth c D cI RL cL_law 4 ret 0 0) (hX : va_X b L xs s s.heap) (hbl : b < s.heap.size) (hL : L ≤ 2048) {i : Nat}  {r : Int32} {MC MR MC1 MR1 : zz_Mem} (e1 : f_X4_reshoot  MC = some (r, MC1)) (e2 : f_X5_reshoot  MR = some (r, MR1)) (kk : zz_U p l e room_1 s m #[Value.ref b] below meth c D (fun q : Nat => s.heap.size ≤ q) 4 (lw_Z below #[Value.ref b] s) 50 1302 920 [(0, .ref b), (1, .ref (adC 0)), (2, .ref (adR 0)), (3, .int (nI i))] [] (zz_cells zz_SC cI adC MC1 ++ zz_cells zz_SR cI adR MR1)) : zz_U p l e room_1 s m #[Value.ref b] below meth c D (fun q : Nat => s.heap.size ≤ q) 4 (lw_Z below #[Value.ref b] s) 50 1302 835 [(0, .ref b), (1, .ref (adC 0)), (2, .ref (adR 0)), (3, .int (nI i))] [] (zz_cells zz_SC cI adC MC ++ zz_cells zz_SR cI adR MR) := by
  refine zz_uaload 836 C dL_law_835 rfl 1 rfl ?_
  refine zz_ucC 839 [] C dL_law_836 rfl ml_L_101 (k_X4_reshoot e1) rfl rfl rfl (Nat.le_of_ble_eq_true rfl) ⟨Nat.le_of_ble_eq_true rfl, Nat.le_of_ble_eq_true rfl⟩ ⟨Nat.le_of_ble_eq_true rfl, Nat.le_of_ble_eq_true rfl⟩ ?_
  refine zz_uaload 840 C dL_law_839 rfl 2 rfl ?_
  refine zz_ucR 843 [] C dL_law_840 rfl ml_L_104 (k_X5_reshoot e2) rfl rfl rfl (Nat.le_of_ble_eq_true rfl) ⟨Nat.le_of_ble_eq_true rfl, Nat.le_of_ble_eq_true rfl⟩ ⟨Nat.le_of_ble_eq_true rfl, Nat.le_of_ble_eq_true rfl⟩ ?_
  refine zz_uicmp_eq 920 C dL_law_843 rfl ?_
  exact kk
set_option maxHeartbeats 4000000 in
set_option maxRecDepth 100000 in
theorem law_clashes {p : Program} {l : Launch} {e : Env} {s : State} {m : MethodId} {below : List Frame} {meth : Method} {c : Code} {D : va_G} {cI : ClassId} {adC adR : Nat → Nat} {b L : Nat} {xs : Nat → Int32} (C : zz_C p room_1 s m #[Value.ref b] meth c D cI RL cL_law 4 ret 0 0) (hX : va_X b L xs s s.heap) (hbl : b < s.heap.size) (hL : L ≤ 2048) {i : Nat} (h1 : vp_in (nI i + 1) L) {r : Int32} {MC MR MC1 MR1 : zz_Mem} (e1 : f_X4_clashes (xs (nI i + 1).toNatClampNeg) MC = some (r, MC1)) (e2 : f_X5_clashes (xs (nI i + 1).toNatClampNeg) MR = some (r, MR1)) (kk : zz_U p l e room_1 s m #[Value.ref b] below meth c D (fun q : Nat => s.heap.size ≤ q) 4 (lw_Z below #[Value.ref b] s) 50 1302 920 [(0, .ref b), (1, .ref (adC 0)), (2, .ref (adR 0)), (3, .int (nI i))] [] (zz_cells zz_SC cI adC MC1 ++ zz_cells zz_SR cI adR MR1)) : zz_U p l e room_1 s m #[Value.ref b] below meth c D (fun q : Nat => s.heap.size ≤ q) 4 (lw_Z below #[Value.ref b] s) 50 1302 848 [(0, .ref b), (1, .ref (adC 0)), (2, .ref (adR 0)), (3, .int (nI i))] [] (zz_cells zz_SC cI adC MC ++ zz_cells zz_SR cI adR MR) := by
  refine zz_uaload 849 C dL_law_848 rfl 1 rfl ?_
  refine zz_uaload 850 C dL_law_849 rfl 0 rfl ?_
  refine zz_uiload 851 C dL_law_850 rfl 3 rfl ?_
  refine zz_uiconst 852 C dL_law_851 rfl zz_i1 ?_
  refine zz_uiadd 853 C dL_law_852 rfl ?_
  refine zz_uld 854 C hX hbl (Nat.not_le.mpr hbl) h1 dL_law_853 rfl ?_
  refine zz_ucC 857 [.int (xs (nI i + 1).toNatClampNeg)] C dL_law_854 rfl ml_L_105 (k_X4_clashes e1) rfl rfl rfl (Nat.le_of_ble_eq_true rfl) ⟨Nat.le_of_ble_eq_true rfl, Nat.le_of_ble_eq_true rfl⟩ ⟨Nat.le_of_ble_eq_true rfl, Nat.le_of_ble_eq_true rfl⟩ ?_
  refine zz_uaload 858 C dL_law_857 rfl 2 rfl ?_
  refine zz_uaload 859 C dL_law_858 rfl 0 rfl ?_
  refine zz_uiload 860 C dL_law_859 rfl 3 rfl ?_
  refine zz_uiconst 861 C dL_law_860 rfl zz_i1 ?_
  refine zz_uiadd 862 C dL_law_861 rfl ?_
  refine zz_uld 863 C hX hbl (Nat.not_le.mpr hbl) h1 dL_law_862 rfl ?_
  refine zz_ucR 866 [.int (xs (nI i + 1).toNatClampNeg)] C dL_law_863 rfl ml_L_108 (k_X5_clashes e2) rfl rfl rfl (Nat.le_of_ble_eq_true rfl) ⟨Nat.le_of_ble_eq_true rfl, Nat.le_of_ble_eq_true rfl⟩ ⟨Nat.le_of_ble_eq_true rfl, Nat.le_of_ble_eq_true rfl⟩ ?_
  refine zz_uicmp_eq 920 C dL_law_866 rfl ?_
  exact kk
set_option maxHeartbeats 4000000 in
set_option maxRecDepth 100000 in
theorem law_many {p : Program} {l : Launch} {e : Env} {s : State} {m : MethodId} {below : List Frame} {meth : Method} {c : Code} {D : va_G} {cI : ClassId} {adC adR : Nat → Nat} {b L : Nat} {xs : Nat → Int32} (C : zz_C p room_1 s m #[Value.ref b] meth c D cI RL cL_law 4 ret 0 0) (hX : va_X b L xs s s.heap) (hbl : b < s.heap.size) (hL : L ≤ 2048) {i : Nat} (h1 : vp_in (nI i + 1) L) {r : Int32} {MC MR MC1 MR1 : zz_Mem} (e1 : f_X4_many (xs (nI i + 1).toNatClampNeg) MC = some (r, MC1)) (e2 : f_X5_many (xs (nI i + 1).toNatClampNeg) MR = some (r, MR1)) (kk : zz_U p l e room_1 s m #[Value.ref b] below meth c D (fun q : Nat => s.heap.size ≤ q) 4 (lw_Z below #[Value.ref b] s) 50 1302 920 [(0, .ref b), (1, .ref (adC 0)), (2, .ref (adR 0)), (3, .int (nI i))] [] (zz_cells zz_SC cI adC MC1 ++ zz_cells zz_SR cI adR MR1)) : zz_U p l e room_1 s m #[Value.ref b] below meth c D (fun q : Nat => s.heap.size ≤ q) 4 (lw_Z below #[Value.ref b] s) 50 1302 871 [(0, .ref b), (1, .ref (adC 0)), (2, .ref (adR 0)), (3, .int (nI i))] [] (zz_cells zz_SC cI adC MC ++ zz_cells zz_SR cI adR MR) := by
  refine zz_uaload 872 C dL_law_871 rfl 1 rfl ?_
  refine zz_uaload 873 C dL_law_872 rfl 0 rfl ?_
  refine zz_uiload 874 C dL_law_873 rfl 3 rfl ?_
  refine zz_uiconst 875 C dL_law_874 rfl zz_i1 ?_
  refine zz_uiadd 876 C dL_law_875 rfl ?_
  refine zz_uld 877 C hX hbl (Nat.not_le.mpr hbl) h1 dL_law_876 rfl ?_
  refine zz_ucC 880 [.int (xs (nI i + 1).toNatClampNeg)] C dL_law_877 rfl ml_L_109 (k_X4_many e1) rfl rfl rfl (Nat.le_of_ble_eq_true rfl) ⟨Nat.le_of_ble_eq_true rfl, Nat.le_of_ble_eq_true rfl⟩ ⟨Nat.le_of_ble_eq_true rfl, Nat.le_of_ble_eq_true rfl⟩ ?_
  refine zz_uaload 881 C dL_law_880 rfl 2 rfl ?_
  refine zz_uaload 882 C dL_law_881 rfl 0 rfl ?_
  refine zz_uiload 883 C dL_law_882 rfl 3 rfl ?_
  refine zz_uiconst 884 C dL_law_883 rfl zz_i1 ?_
  refine zz_uiadd 885 C dL_law_884 rfl ?_
  refine zz_uld 886 C hX hbl (Nat.not_le.mpr hbl) h1 dL_law_885 rfl ?_
  refine zz_ucR 889 [.int (xs (nI i + 1).toNatClampNeg)] C dL_law_886 rfl ml_L_112 (k_X5_many e2) rfl rfl rfl (Nat.le_of_ble_eq_true rfl) ⟨Nat.le_of_ble_eq_true rfl, Nat.le_of_ble_eq_true rfl⟩ ⟨Nat.le_of_ble_eq_true rfl, Nat.le_of_ble_eq_true rfl⟩ ?_
  refine zz_uicmp_eq 920 C dL_law_889 rfl ?_
  exact kk
set_option maxHeartbeats 4000000 in
set_option maxRecDepth 100000 in
theorem law_keep {p : Program} {l : Launch} {e : Env} {s : State} {m : MethodId} {below : List Frame} {meth : Method} {c : Code} {D : va_G} {cI : ClassId} {adC adR : Nat → Nat} {b L : Nat} {xs : Nat → Int32} (C : zz_C p room_1 s m #[Value.ref b] meth c D cI RL cL_law 4 ret 0 0) (hX : va_X b L xs s s.heap) (hbl : b < s.heap.size) (hL : L ≤ 2048) {i : Nat}  {r : Int32} {MC MR MC1 MR1 : zz_Mem} (e1 : f_X4_keep  MC = some (r, MC1)) (e2 : f_X5_keep  MR = some (r, MR1)) (kk : zz_U p l e room_1 s m #[Value.ref b] below meth c D (fun q : Nat => s.heap.size ≤ q) 4 (lw_Z below #[Value.ref b] s) 50 1302 920 [(0, .ref b), (1, .ref (adC 0)), (2, .ref (adR 0)), (3, .int (nI i))] [] (zz_cells zz_SC cI adC MC1 ++ zz_cells zz_SR cI adR MR1)) : zz_U p l e room_1 s m #[Value.ref b] below meth c D (fun q : Nat => s.heap.size ≤ q) 4 (lw_Z below #[Value.ref b] s) 50 1302 894 [(0, .ref b), (1, .ref (adC 0)), (2, .ref (adR 0)), (3, .int (nI i))] [] (zz_cells zz_SC cI adC MC ++ zz_cells zz_SR cI adR MR) := by
  refine zz_uaload 895 C dL_law_894 rfl 1 rfl ?_
  refine zz_ucC 898 [] C dL_law_895 rfl ml_L_113 (k_X4_keep e1) rfl rfl rfl (Nat.le_of_ble_eq_true rfl) ⟨Nat.le_of_ble_eq_true rfl, Nat.le_of_ble_eq_true rfl⟩ ⟨Nat.le_of_ble_eq_true rfl, Nat.le_of_ble_eq_true rfl⟩ ?_
  refine zz_uaload 899 C dL_law_898 rfl 2 rfl ?_
  refine zz_ucR 902 [] C dL_law_899 rfl ml_L_116 (k_X5_keep e2) rfl rfl rfl (Nat.le_of_ble_eq_true rfl) ⟨Nat.le_of_ble_eq_true rfl, Nat.le_of_ble_eq_true rfl⟩ ⟨Nat.le_of_ble_eq_true rfl, Nat.le_of_ble_eq_true rfl⟩ ?_
  refine zz_uicmp_eq 920 C dL_law_902 rfl ?_
  exact kk
set_option maxHeartbeats 4000000 in
set_option maxRecDepth 100000 in
theorem law_back {p : Program} {l : Launch} {e : Env} {s : State} {m : MethodId} {below : List Frame} {meth : Method} {c : Code} {D : va_G} {cI : ClassId} {adC adR : Nat → Nat} {b L : Nat} {xs : Nat → Int32} (C : zz_C p room_1 s m #[Value.ref b] meth c D cI RL cL_law 4 ret 0 0) (hX : va_X b L xs s s.heap) (hbl : b < s.heap.size) (hL : L ≤ 2048) {i : Nat}  {r : Int32} {MC MR MC1 MR1 : zz_Mem} (e1 : f_X4_back  MC = some (r, MC1)) (e2 : f_X5_back  MR = some (r, MR1)) (kk : zz_U p l e room_1 s m #[Value.ref b] below meth c D (fun q : Nat => s.heap.size ≤ q) 4 (lw_Z below #[Value.ref b] s) 50 1302 920 [(0, .ref b), (1, .ref (adC 0)), (2, .ref (adR 0)), (3, .int (nI i))] [] (zz_cells zz_SC cI adC MC1 ++ zz_cells zz_SR cI adR MR1)) : zz_U p l e room_1 s m #[Value.ref b] below meth c D (fun q : Nat => s.heap.size ≤ q) 4 (lw_Z below #[Value.ref b] s) 50 1302 907 [(0, .ref b), (1, .ref (adC 0)), (2, .ref (adR 0)), (3, .int (nI i))] [] (zz_cells zz_SC cI adC MC ++ zz_cells zz_SR cI adR MR) := by
  refine zz_uaload 908 C dL_law_907 rfl 1 rfl ?_
  refine zz_ucC 911 [] C dL_law_908 rfl ml_L_117 (k_X4_back e1) rfl rfl rfl (Nat.le_of_ble_eq_true rfl) ⟨Nat.le_of_ble_eq_true rfl, Nat.le_of_ble_eq_true rfl⟩ ⟨Nat.le_of_ble_eq_true rfl, Nat.le_of_ble_eq_true rfl⟩ ?_
  refine zz_uaload 912 C dL_law_911 rfl 2 rfl ?_
  refine zz_ucR 915 [] C dL_law_912 rfl ml_L_120 (k_X5_back e2) rfl rfl rfl (Nat.le_of_ble_eq_true rfl) ⟨Nat.le_of_ble_eq_true rfl, Nat.le_of_ble_eq_true rfl⟩ ⟨Nat.le_of_ble_eq_true rfl, Nat.le_of_ble_eq_true rfl⟩ ?_
  refine zz_uicmp_eq 920 C dL_law_915 rfl ?_
  exact kk
