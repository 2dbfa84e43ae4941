def f_X0_reckonNoises_12 (x2 : Int32) : Nat → Int32 → zz_Mem → Option (Int32 × zz_Mem)
  | 0, _, _ => none
  | n + 1, v3, M => (if x2 ≤ v3 then some (v3, M) else zz_b2 (f_X3_noiseOf x2 v3 M) (fun r5 M4 => (if zz_in ((x2 * 16) + v3) 256 then (if zz_in ((v3 * 16) + x2) 256 then f_X0_reckonNoises_12 x2 n (v3 + 1) (zz_up (zz_up M4 26 (((x2 * 16) + v3).toNatClampNeg) r5) 26 (((v3 * 16) + x2).toNatClampNeg) r5) else none) else none)))
set_option maxHeartbeats 4000000 in
set_option maxRecDepth 100000 in
theorem l_X0_reckonNoises_12 {p : Program} {l : Launch} {e : Env} {s : State} {m : MethodId} {args : Array Value} {below : List Frame} {meth : Method} {c : Code} {D : va_G} {cI : ClassId} {ad : Nat → Nat} {x2 : Int32} {w : Option Value} {Mf : zz_Mem} (C : zz_C p (zz_rm 4) s m args meth c D cI RX0 cX0_reckonNoises 5 none 0 0) {w3 : Int32} {M1 : zz_Mem} : ∀ {n : Nat} {v3 : Int32} {M : zz_Mem}, f_X0_reckonNoises_12 x2 n v3 M = some (w3, M1) → zz_V p l e (zz_rm 4) s m args below meth c D zz_SC cI ad (zz_A zz_SC ad) 5 0 0 (MQ below (zz_Q D zz_SC cI ad w Mf) args s 0 0 (zz_A zz_SC ad)) 57 [(0, .ref (ad 3)), (1, .ref (ad 1)), (2, .int x2), (3, .int w3)] [] M1 → zz_V p l e (zz_rm 4) s m args below meth c D zz_SC cI ad (zz_A zz_SC ad) 5 0 0 (MQ below (zz_Q D zz_SC cI ad w Mf) args s 0 0 (zz_A zz_SC ad)) 12 [(0, .ref (ad 3)), (1, .ref (ad 1)), (2, .int x2), (3, .int v3)] [] M := by
  intro n
  induction n with
  | zero =>
    intro v3 M hf
    simp [f_X0_reckonNoises_12] at hf
  | succ n ih0 =>
    intro v3 M hf hex
    have ih := fun v3 M hf => @ih0 v3 M hf
    rw [f_X0_reckonNoises_12] at hf
    refine zz_iload_n 13 C dX0_reckonNoises_12 rfl 3 rfl ?_
    refine zz_iload_n 14 C dX0_reckonNoises_13 rfl 2 rfl ?_
    refine zz_icmp_ge 17 57 C dX0_reckonNoises_14 rfl rfl hf (fun h2 hf => ?_) (fun h2 hf => ?_)
    · cases hf
      exact zz_sub [0, 1, 2, 3] rfl hex
    · refine zz_aload_n 18 C dX0_reckonNoises_17 rfl 1 rfl ?_
      refine zz_iload_n 19 C dX0_reckonNoises_18 rfl 2 rfl ?_
      refine zz_iload_n 20 C dX0_reckonNoises_19 rfl 3 rfl ?_
      obtain ⟨r5, M4, hc3, hf⟩ := zz_b2E hf
      refine zz_callV 23 [.int x2, .int v3] C dX0_reckonNoises_20 rfl ml_X0_39 (k_X3_noiseOf hc3) sc_1 (vC := vwCl[3]) rfl rfl rfl rfl rfl (Nat.le_of_ble_eq_true rfl) (zz_hR (Nat.le_of_ble_eq_true rfl) (Nat.le_of_ble_eq_true rfl)) ?_
      refine zz_istore (L' := [(4, .int r5), (0, .ref (ad 3)), (1, .ref (ad 1)), (2, .int x2), (3, .int v3)]) 25 C dX0_reckonNoises_23 rfl (Nat.le_of_ble_eq_true rfl) rfl ?_
      refine zz_aload_n 26 C dX0_reckonNoises_25 rfl 1 rfl ?_
      refine zz_getR 29 C dX0_reckonNoises_26 rfl fl_X0_22 sc_3 rfl ?_
      refine zz_iload_n 30 C dX0_reckonNoises_29 rfl 3 rfl ?_
      refine zz_bipush 32 C dX0_reckonNoises_30 rfl zz_bp16 ?_
      refine zz_imul 33 C dX0_reckonNoises_32 rfl ?_
      refine zz_iload_n 34 C dX0_reckonNoises_33 rfl 4 rfl ?_
      refine zz_iadd 35 C dX0_reckonNoises_34 rfl ?_
      refine zz_iload 37 C dX0_reckonNoises_35 rfl 0 rfl ?_
      obtain ⟨hi6, hf⟩ := zz_chk hf
      refine zz_iast 38 C sc_26 dX0_reckonNoises_37 rfl hi6 ?_
      refine zz_aload_n 39 C dX0_reckonNoises_38 rfl 1 rfl ?_
      refine zz_getR 42 C dX0_reckonNoises_39 rfl fl_X0_22 sc_3 rfl ?_
      refine zz_iload_n 43 C dX0_reckonNoises_42 rfl 4 rfl ?_
      refine zz_bipush 45 C dX0_reckonNoises_43 rfl zz_bp16 ?_
      refine zz_imul 46 C dX0_reckonNoises_45 rfl ?_
      refine zz_iload_n 47 C dX0_reckonNoises_46 rfl 3 rfl ?_
      refine zz_iadd 48 C dX0_reckonNoises_47 rfl ?_
      refine zz_iload 50 C dX0_reckonNoises_48 rfl 0 rfl ?_
      obtain ⟨hi7, hf⟩ := zz_chk hf
      refine zz_iast 51 C sc_26 dX0_reckonNoises_50 rfl hi7 ?_
      refine zz_iinc (L' := [(3, .int (v3 + 1)), (4, .int r5), (0, .ref (ad 3)), (1, .ref (ad 1)), (2, .int x2)]) 54 C dX0_reckonNoises_51 rfl zz_i1 4 rfl (Nat.le_of_ble_eq_true rfl) rfl ?_
      refine zz_goto 12 C dX0_reckonNoises_54 rfl ?_
      exact zz_sub [2, 3, 4, 0] rfl (ih _ _ hf hex)
def f_X0_reckonNoises_2 : Nat → Int32 → zz_Mem → Option (Int32 × zz_Mem)
  | 0, _, _ => none
  | n + 1, v2, M => (if (M 1 8) ≤ v2 then some (v2, M) else zz_b2 (f_X0_reckonNoises_12 v2 5000 0 M) (fun w8 M9 => f_X0_reckonNoises_2 n (v2 + 1) M9))
set_option maxHeartbeats 4000000 in
set_option maxRecDepth 100000 in
theorem l_X0_reckonNoises_2 {p : Program} {l : Launch} {e : Env} {s : State} {m : MethodId} {args : Array Value} {below : List Frame} {meth : Method} {c : Code} {D : va_G} {cI : ClassId} {ad : Nat → Nat} {w : Option Value} {Mf : zz_Mem} (C : zz_C p (zz_rm 4) s m args meth c D cI RX0 cX0_reckonNoises 5 none 0 0) {w2 : Int32} {M1 : zz_Mem} : ∀ {n : Nat} {v2 : Int32} {M : zz_Mem}, f_X0_reckonNoises_2 n v2 M = some (w2, M1) → zz_V p l e (zz_rm 4) s m args below meth c D zz_SC cI ad (zz_A zz_SC ad) 5 0 0 (MQ below (zz_Q D zz_SC cI ad w Mf) args s 0 0 (zz_A zz_SC ad)) 63 [(0, .ref (ad 3)), (1, .ref (ad 1)), (2, .int w2)] [] M1 → zz_V p l e (zz_rm 4) s m args below meth c D zz_SC cI ad (zz_A zz_SC ad) 5 0 0 (MQ below (zz_Q D zz_SC cI ad w Mf) args s 0 0 (zz_A zz_SC ad)) 2 [(0, .ref (ad 3)), (1, .ref (ad 1)), (2, .int v2)] [] M := by
  intro n
  induction n with
  | zero =>
    intro v2 M hf
    simp [f_X0_reckonNoises_2] at hf
  | succ n ih0 =>
    intro v2 M hf hex
    have ih := fun v2 M hf => @ih0 v2 M hf
    rw [f_X0_reckonNoises_2] at hf
    refine zz_iload_n 3 C dX0_reckonNoises_2 rfl 2 rfl ?_
    refine zz_aload_n 4 C dX0_reckonNoises_3 rfl 1 rfl ?_
    refine zz_getI 7 C dX0_reckonNoises_4 rfl fl_X0_34 sc_1 rfl ?_
    refine zz_icmp_ge 10 63 C dX0_reckonNoises_7 rfl rfl hf (fun h1 hf => ?_) (fun h1 hf => ?_)
    · cases hf
      exact zz_sub [0, 1, 2] rfl hex
    · refine zz_iconst 11 C dX0_reckonNoises_10 rfl zz_i0 ?_
      refine zz_istore_n (L' := [(3, .int 0), (0, .ref (ad 3)), (1, .ref (ad 1)), (2, .int v2)]) 12 C dX0_reckonNoises_11 rfl (Nat.le_of_ble_eq_true rfl) rfl ?_
      obtain ⟨w8, M9, hc10, hf⟩ := zz_b2E hf
      refine zz_sub [1, 2, 3, 0] rfl (l_X0_reckonNoises_12 C  hc10 ?_)
      refine zz_iinc (L' := [(2, .int (v2 + 1)), (0, .ref (ad 3)), (1, .ref (ad 1)), (3, .int w8)]) 60 C dX0_reckonNoises_57 rfl zz_i1 2 rfl (Nat.le_of_ble_eq_true rfl) rfl ?_
      refine zz_goto 2 C dX0_reckonNoises_60 rfl ?_
      exact zz_sub [1, 2, 0] rfl (ih _ _ hf hex)
def f_X0_reckonNoises (M : zz_Mem) : Option (zz_Mem) := zz_b2 (f_X0_reckonNoises_2 5000 0 M) (fun w11 M12 => some M12)
set_option maxHeartbeats 4000000 in
set_option maxRecDepth 100000 in
theorem k_X0_reckonNoises {l : Launch} {D : va_G} {cI : ClassId} {ad : Nat → Nat} {M M1 : zz_Mem} (hf : f_X0_reckonNoises M = some M1) : zz_K l D zz_SC cI ad 4 yX0_reckonNoises cX0_reckonNoises 5 none [.ref (ad 3), .ref (ad 1)] M none M1 := by
  unfold f_X0_reckonNoises at hf
  refine zz_entry (own := RX0) (L := [(0, .ref (ad 3)), (1, .ref (ad 1))]) (by decide +kernel) rfl (Nat.le_of_ble_eq_true rfl) rfl (fun p e s m args below meth c C => ?_)
  refine zz_iconst 1 C dX0_reckonNoises_0 rfl zz_i0 ?_
  refine zz_istore_n (L' := [(2, .int 0), (0, .ref (ad 3)), (1, .ref (ad 1))]) 2 C dX0_reckonNoises_1 rfl (Nat.le_of_ble_eq_true rfl) rfl ?_
  obtain ⟨w11, M12, hc13, hf⟩ := zz_b2E hf
  refine zz_sub [1, 2, 0] rfl (l_X0_reckonNoises_2 C  hc13 ?_)
  cases hf
  exact zz_vret C dX0_reckonNoises_63 rfl rfl
def f_X0_noiseWithEarlier_5 (x1 x2 : Int32) : Nat → Int32 → Int32 → zz_Mem → Option (Int32 × Int32 × zz_Mem)
  | 0, _, _, _ => none
  | n + 1, v3, v4, M => (if x1 ≤ v4 then some (v3, v4, M) else (if zz_in v4 6 then (if (M 25 v4.toNatClampNeg) = (-1) then f_X0_noiseWithEarlier_5 x1 x2 n v3 (v4 + 1) M else (if zz_in ((x2 * 16) + (M 25 v4.toNatClampNeg)) 256 then f_X0_noiseWithEarlier_5 x1 x2 n (v3 + (M 26 (((x2 * 16) + (M 25 v4.toNatClampNeg)).toNatClampNeg))) (v4 + 1) M else none)) else none))
set_option maxHeartbeats 4000000 in
set_option maxRecDepth 100000 in
theorem l_X0_noiseWithEarlier_5 {p : Program} {l : Launch} {e : Env} {s : State} {m : MethodId} {args : Array Value} {below : List Frame} {meth : Method} {c : Code} {D : va_G} {cI : ClassId} {ad : Nat → Nat} {x1 x2 : Int32} {w : Option Value} {Mf : zz_Mem} (C : zz_C p (zz_rm 0) s m args meth c D cI RX0 cX0_noiseWithEarlier 5 (some .int) 0 0) {w3 w4 : Int32} {M1 : zz_Mem} : ∀ {n : Nat} {v3 v4 : Int32} {M : zz_Mem}, f_X0_noiseWithEarlier_5 x1 x2 n v3 v4 M = some (w3, w4, M1) → zz_V p l e (zz_rm 0) s m args below meth c D zz_SC cI ad (zz_A zz_SC ad) 5 0 0 (MQ below (zz_Q D zz_SC cI ad w Mf) args s 0 0 (zz_A zz_SC ad)) 48 [(0, .ref (ad 3)), (1, .int x1), (2, .int x2), (3, .int w3), (4, .int w4)] [] M1 → zz_V p l e (zz_rm 0) s m args below meth c D zz_SC cI ad (zz_A zz_SC ad) 5 0 0 (MQ below (zz_Q D zz_SC cI ad w Mf) args s 0 0 (zz_A zz_SC ad)) 5 [(0, .ref (ad 3)), (1, .int x1), (2, .int x2), (3, .int v3), (4, .int v4)] [] M := by
  intro n
  induction n with
  | zero =>
    intro v3 v4 M hf
    simp [f_X0_noiseWithEarlier_5] at hf
  | succ n ih0 =>
    intro v3 v4 M hf hex
    have ih := fun v3 v4 M hf => @ih0 v3 v4 M hf
    rw [f_X0_noiseWithEarlier_5] at hf
    refine zz_iload 7 C dX0_noiseWithEarlier_5 rfl 4 rfl ?_
    refine zz_iload_n 8 C dX0_noiseWithEarlier_7 rfl 1 rfl ?_
    refine zz_icmp_ge 11 48 C dX0_noiseWithEarlier_8 rfl rfl hf (fun h1 hf => ?_) (fun h1 hf => ?_)
    · cases hf
      exact zz_sub [0, 1, 2, 3, 4] rfl hex
    · refine zz_aload_n 12 C dX0_noiseWithEarlier_11 rfl 0 rfl ?_
      refine zz_getR 15 C dX0_noiseWithEarlier_12 rfl fl_X0_19 sc_3 rfl ?_
      refine zz_iload 17 C dX0_noiseWithEarlier_15 rfl 4 rfl ?_
      obtain ⟨hi2, hf⟩ := zz_chk hf
      refine zz_iald 18 C sc_25 dX0_noiseWithEarlier_17 rfl hi2 ?_
      refine zz_iconst 19 C dX0_noiseWithEarlier_18 rfl zz_im1 ?_
      refine zz_icmp_eq 22 42 C dX0_noiseWithEarlier_19 rfl rfl hf (fun h3 hf => ?_) (fun h3 hf => ?_)
      · refine zz_iinc (L' := [(4, .int (v4 + 1)), (0, .ref (ad 3)), (1, .int x1), (2, .int x2), (3, .int v3)]) 45 C dX0_noiseWithEarlier_42 rfl zz_i1 4 rfl (Nat.le_of_ble_eq_true rfl) rfl ?_
        refine zz_goto 5 C dX0_noiseWithEarlier_45 rfl ?_
        exact zz_sub [1, 2, 3, 4, 0] rfl (ih _ _ _ hf hex)
      · refine zz_iload_n 23 C dX0_noiseWithEarlier_22 rfl 3 rfl ?_
        refine zz_aload_n 24 C dX0_noiseWithEarlier_23 rfl 0 rfl ?_
        refine zz_getR 27 C dX0_noiseWithEarlier_24 rfl fl_X0_22 sc_3 rfl ?_
        refine zz_iload_n 28 C dX0_noiseWithEarlier_27 rfl 2 rfl ?_
        refine zz_bipush 30 C dX0_noiseWithEarlier_28 rfl zz_bp16 ?_
        refine zz_imul 31 C dX0_noiseWithEarlier_30 rfl ?_
        refine zz_aload_n 32 C dX0_noiseWithEarlier_31 rfl 0 rfl ?_
        refine zz_getR 35 C dX0_noiseWithEarlier_32 rfl fl_X0_19 sc_3 rfl ?_
        refine zz_iload 37 C dX0_noiseWithEarlier_35 rfl 4 rfl ?_
        refine zz_iald 38 C sc_25 dX0_noiseWithEarlier_37 rfl hi2 ?_
        refine zz_iadd 39 C dX0_noiseWithEarlier_38 rfl ?_
        obtain ⟨hi4, hf⟩ := zz_chk hf
        refine zz_iald 40 C sc_26 dX0_noiseWithEarlier_39 rfl hi4 ?_
        refine zz_iadd 41 C dX0_noiseWithEarlier_40 rfl ?_
        refine zz_istore_n (L' := [(3, .int (v3 + (M 26 (((x2 * 16) + (M 25 v4.toNatClampNeg)).toNatClampNeg)))), (0, .ref (ad 3)), (1, .int x1), (2, .int x2), (4, .int v4)]) 42 C dX0_noiseWithEarlier_41 rfl (Nat.le_of_ble_eq_true rfl) rfl ?_
        refine zz_iinc (L' := [(4, .int (v4 + 1)), (3, .int (v3 + (M 26 (((x2 * 16) + (M 25 v4.toNatClampNeg)).toNatClampNeg)))), (0, .ref (ad 3)), (1, .int x1), (2, .int x2)]) 45 C dX0_noiseWithEarlier_42 rfl zz_i1 4 rfl (Nat.le_of_ble_eq_true rfl) rfl ?_
        refine zz_goto 5 C dX0_noiseWithEarlier_45 rfl ?_
        exact zz_sub [2, 3, 4, 1, 0] rfl (ih _ _ _ hf hex)
def f_X0_noiseWithEarlier (a1 a2 : Int32) (M : zz_Mem) : Option (Int32 × zz_Mem) := zz_b3 (f_X0_noiseWithEarlier_5 a1 a2 5000 0 0 M) (fun w5 w6 M7 => some (w5, M7))
set_option maxHeartbeats 4000000 in
set_option maxRecDepth 100000 in
theorem k_X0_noiseWithEarlier {l : Launch} {D : va_G} {cI : ClassId} {ad : Nat → Nat} {a1 a2 : Int32} {r : Int32} {M M1 : zz_Mem} (hf : f_X0_noiseWithEarlier a1 a2 M = some (r, M1)) : zz_K l D zz_SC cI ad 0 yX0_noiseWithEarlier cX0_noiseWithEarlier 5 (some .int) [.ref (ad 3), .int a1, .int a2] M (some (.int r)) M1 := by
  unfold f_X0_noiseWithEarlier at hf
  refine zz_entry (own := RX0) (L := [(0, .ref (ad 3)), (1, .int a1), (2, .int a2)]) (by decide +kernel) rfl (Nat.le_of_ble_eq_true rfl) rfl (fun p e s m args below meth c C => ?_)
  refine zz_iconst 1 C dX0_noiseWithEarlier_0 rfl zz_i0 ?_
  refine zz_istore_n (L' := [(3, .int 0), (0, .ref (ad 3)), (1, .int a1), (2, .int a2)]) 2 C dX0_noiseWithEarlier_1 rfl (Nat.le_of_ble_eq_true rfl) rfl ?_
  refine zz_iconst 3 C dX0_noiseWithEarlier_2 rfl zz_i0 ?_
  refine zz_istore (L' := [(4, .int 0), (3, .int 0), (0, .ref (ad 3)), (1, .int a1), (2, .int a2)]) 5 C dX0_noiseWithEarlier_3 rfl (Nat.le_of_ble_eq_true rfl) rfl ?_
  obtain ⟨w5, w6, M7, hc8, hf⟩ := zz_b3E hf
  refine zz_sub [2, 3, 4, 1, 0] rfl (l_X0_noiseWithEarlier_5 C  hc8 ?_)
  refine zz_iload_n 49 C dX0_noiseWithEarlier_48 rfl 3 rfl ?_
  cases hf
  exact zz_iret C dX0_noiseWithEarlier_49 rfl rfl
