def f_X5_costOf_15 (ka nka : Nat) (x3 : Int32) : Nat → Int32 → Int32 → zz_Mem → Option (Int32 × Int32 × zz_Mem)
  | 0, _, _, _ => none
  | n + 1, v2, v4, M => (if x3 ≤ v4 then some (v2, v4, M) else (if zz_in x3 nka then (if (M ka x3.toNatClampNeg) < 0 then some (v2, v4, M) else (if zz_in v4 nka then (if 0 ≤ (M ka v4.toNatClampNeg) then (if zz_in ((16 * (M ka x3.toNatClampNeg)) + (M ka v4.toNatClampNeg)) 256 then f_X5_costOf_15 ka nka x3 n (v2 + (M 15 (((16 * (M ka x3.toNatClampNeg)) + (M ka v4.toNatClampNeg)).toNatClampNeg))) (v4 + 1) M else none) else f_X5_costOf_15 ka nka x3 n (v2 + 0) (v4 + 1) M) else none)) else none))
set_option maxHeartbeats 4000000 in
set_option maxRecDepth 100000 in
theorem l_X5_costOf_15 {p : Program} {l : Launch} {e : Env} {s : State} {m : MethodId} {args : Array Value} {below : List Frame} {meth : Method} {c : Code} {D : va_G} {cI : ClassId} {ad : Nat → Nat} {ka nka : Nat} {hka : zz_SR[ka]? = some (.inl nka)} {x3 : Int32} {w : Option Value} {Mf : zz_Mem} (C : zz_C p (zz_rm 0) s m args meth c D cI RX5 cX5_costOf 5 (some .int) 0 0) {w2 w4 : Int32} {M1 : zz_Mem} : ∀ {n : Nat} {v2 v4 : Int32} {M : zz_Mem}, f_X5_costOf_15 ka nka x3 n v2 v4 M = some (w2, w4, M1) → zz_V p l e (zz_rm 0) s m args below meth c D zz_SR cI ad (zz_A zz_SR ad) 5 0 0 (MQ below (zz_Q D zz_SR cI ad w Mf) args s 0 0 (zz_A zz_SR ad)) 63 [(0, .ref (ad 0)), (1, .ref (ad ka)), (2, .int w2), (3, .int x3), (4, .int w4)] [] M1 → zz_V p l e (zz_rm 0) s m args below meth c D zz_SR cI ad (zz_A zz_SR ad) 5 0 0 (MQ below (zz_Q D zz_SR cI ad w Mf) args s 0 0 (zz_A zz_SR ad)) 15 [(0, .ref (ad 0)), (1, .ref (ad ka)), (2, .int v2), (3, .int x3), (4, .int v4)] [] M := by
  intro n
  induction n with
  | zero =>
    intro v2 v4 M hf
    simp [f_X5_costOf_15] at hf
  | succ n ih0 =>
    intro v2 v4 M hf hex
    have ih := fun v2 v4 M hf => @ih0 v2 v4 M hf
    rw [f_X5_costOf_15] at hf
    refine zz_iload 17 C dX5_costOf_15 rfl 4 rfl ?_
    refine zz_iload_n 18 C dX5_costOf_17 rfl 3 rfl ?_
    refine zz_icmp_ge 21 63 C dX5_costOf_18 rfl rfl hf (fun h2 hf => ?_) (fun h2 hf => ?_)
    · cases hf
      exact zz_sub [0, 1, 2, 3, 4] rfl hex
    · refine zz_aload_n 22 C dX5_costOf_21 rfl 1 rfl ?_
      refine zz_iload_n 23 C dX5_costOf_22 rfl 3 rfl ?_
      obtain ⟨hi3, hf⟩ := zz_chk hf
      refine zz_iald 24 C hka dX5_costOf_23 rfl hi3 ?_
      refine zz_if_lt 27 63 C dX5_costOf_24 rfl rfl hf (fun h4 hf => ?_) (fun h4 hf => ?_)
      · cases hf
        exact zz_sub [0, 1, 2, 3, 4] rfl hex
      · refine zz_iload_n 28 C dX5_costOf_27 rfl 2 rfl ?_
        refine zz_aload_n 29 C dX5_costOf_28 rfl 1 rfl ?_
        refine zz_iload 31 C dX5_costOf_29 rfl 4 rfl ?_
        obtain ⟨hi5, hf⟩ := zz_chk hf
        refine zz_iald 32 C hka dX5_costOf_31 rfl hi5 ?_
        refine zz_if_ge 35 39 C dX5_costOf_32 rfl rfl hf (fun h6 hf => ?_) (fun h6 hf => ?_)
        · refine zz_aload_n 40 C dX5_costOf_39 rfl 0 rfl ?_
          refine zz_getR 43 C dX5_costOf_40 rfl fl_X5_52 sr_0 rfl ?_
          refine zz_bipush 45 C dX5_costOf_43 rfl zz_bp16 ?_
          refine zz_aload_n 46 C dX5_costOf_45 rfl 1 rfl ?_
          refine zz_iload_n 47 C dX5_costOf_46 rfl 3 rfl ?_
          refine zz_iald 48 C hka dX5_costOf_47 rfl hi3 ?_
          refine zz_imul 49 C dX5_costOf_48 rfl ?_
          refine zz_aload_n 50 C dX5_costOf_49 rfl 1 rfl ?_
          refine zz_iload 52 C dX5_costOf_50 rfl 4 rfl ?_
          refine zz_iald 53 C hka dX5_costOf_52 rfl hi5 ?_
          refine zz_iadd 54 C dX5_costOf_53 rfl ?_
          obtain ⟨hi7, hf⟩ := zz_chk hf
          refine zz_iald 55 C sr_15 dX5_costOf_54 rfl hi7 ?_
          refine zz_iadd 56 C dX5_costOf_55 rfl ?_
          refine zz_istore_n (L' := [(2, .int (v2 + (M 15 (((16 * (M ka x3.toNatClampNeg)) + (M ka v4.toNatClampNeg)).toNatClampNeg)))), (0, .ref (ad 0)), (1, .ref (ad ka)), (3, .int x3), (4, .int v4)]) 57 C dX5_costOf_56 rfl (Nat.le_of_ble_eq_true rfl) rfl ?_
          refine zz_iinc (L' := [(4, .int (v4 + 1)), (2, .int (v2 + (M 15 (((16 * (M ka x3.toNatClampNeg)) + (M ka v4.toNatClampNeg)).toNatClampNeg)))), (0, .ref (ad 0)), (1, .ref (ad ka)), (3, .int x3)]) 60 C dX5_costOf_57 rfl zz_i1 4 rfl (Nat.le_of_ble_eq_true rfl) rfl ?_
          refine zz_goto 15 C dX5_costOf_60 rfl ?_
          exact zz_sub [2, 3, 1, 4, 0] rfl (ih _ _ _ hf hex)
        · refine zz_iconst 36 C dX5_costOf_35 rfl zz_i0 ?_
          refine zz_goto 55 C dX5_costOf_36 rfl ?_
          refine zz_iadd 56 C dX5_costOf_55 rfl ?_
          refine zz_istore_n (L' := [(2, .int (v2 + 0)), (0, .ref (ad 0)), (1, .ref (ad ka)), (3, .int x3), (4, .int v4)]) 57 C dX5_costOf_56 rfl (Nat.le_of_ble_eq_true rfl) rfl ?_
          refine zz_iinc (L' := [(4, .int (v4 + 1)), (2, .int (v2 + 0)), (0, .ref (ad 0)), (1, .ref (ad ka)), (3, .int x3)]) 60 C dX5_costOf_57 rfl zz_i1 4 rfl (Nat.le_of_ble_eq_true rfl) rfl ?_
          refine zz_goto 15 C dX5_costOf_60 rfl ?_
          exact zz_sub [2, 3, 1, 4, 0] rfl (ih _ _ _ hf hex)
def f_X5_costOf_4 (ka nka : Nat) : Nat → Int32 → Int32 → zz_Mem → Option (Int32 × Int32 × zz_Mem)
  | 0, _, _, _ => none
  | n + 1, v2, v3, M => (if (M 0 0) ≤ v3 then some (v2, v3, M) else zz_b3 (f_X5_costOf_15 ka nka v3 5000 v2 0 M) (fun w8 w9 M10 => (if zz_in v3 nka then (if 0 ≤ (M10 ka v3.toNatClampNeg) then (if zz_in (M10 ka v3.toNatClampNeg) 16 then f_X5_costOf_4 ka nka n (w8 + (M10 8 ((M10 ka v3.toNatClampNeg).toNatClampNeg))) (v3 + 1) M10 else none) else f_X5_costOf_4 ka nka n (w8 + 0) (v3 + 1) M10) else none)))
set_option maxHeartbeats 4000000 in
set_option maxRecDepth 100000 in
theorem l_X5_costOf_4 {p : Program} {l : Launch} {e : Env} {s : State} {m : MethodId} {args : Array Value} {below : List Frame} {meth : Method} {c : Code} {D : va_G} {cI : ClassId} {ad : Nat → Nat} {ka nka : Nat} {hka : zz_SR[ka]? = some (.inl nka)} {w : Option Value} {Mf : zz_Mem} (C : zz_C p (zz_rm 0) s m args meth c D cI RX5 cX5_costOf 5 (some .int) 0 0) {w2 w3 : Int32} {M1 : zz_Mem} : ∀ {n : Nat} {v2 v3 : Int32} {M : zz_Mem}, f_X5_costOf_4 ka nka n v2 v3 M = some (w2, w3, M1) → zz_V p l e (zz_rm 0) s m args below meth c D zz_SR cI ad (zz_A zz_SR ad) 5 0 0 (MQ below (zz_Q D zz_SR cI ad w Mf) args s 0 0 (zz_A zz_SR ad)) 90 [(0, .ref (ad 0)), (1, .ref (ad ka)), (2, .int w2), (3, .int w3)] [] M1 → zz_V p l e (zz_rm 0) s m args below meth c D zz_SR cI ad (zz_A zz_SR ad) 5 0 0 (MQ below (zz_Q D zz_SR cI ad w Mf) args s 0 0 (zz_A zz_SR ad)) 4 [(0, .ref (ad 0)), (1, .ref (ad ka)), (2, .int v2), (3, .int v3)] [] M := by
  intro n
  induction n with
  | zero =>
    intro v2 v3 M hf
    simp [f_X5_costOf_4] at hf
  | succ n ih0 =>
    intro v2 v3 M hf hex
    have ih := fun v2 v3 M hf => @ih0 v2 v3 M hf
    rw [f_X5_costOf_4] at hf
    refine zz_iload_n 5 C dX5_costOf_4 rfl 3 rfl ?_
    refine zz_aload_n 6 C dX5_costOf_5 rfl 0 rfl ?_
    refine zz_getI 9 C dX5_costOf_6 rfl fl_X5_64 sr_0 rfl ?_
    refine zz_icmp_ge 12 90 C dX5_costOf_9 rfl rfl hf (fun h1 hf => ?_) (fun h1 hf => ?_)
    · cases hf
      exact zz_sub [0, 1, 2, 3] rfl hex
    · refine zz_iconst 13 C dX5_costOf_12 rfl zz_i0 ?_
      refine zz_istore (L' := [(4, .int 0), (0, .ref (ad 0)), (1, .ref (ad ka)), (2, .int v2), (3, .int v3)]) 15 C dX5_costOf_13 rfl (Nat.le_of_ble_eq_true rfl) rfl ?_
      obtain ⟨w8, w9, M10, hc11, hf⟩ := zz_b3E hf
      refine zz_sub [1, 2, 3, 4, 0] rfl (l_X5_costOf_15 (hka := hka) C  hc11 ?_)
      refine zz_iload_n 64 C dX5_costOf_63 rfl 2 rfl ?_
      refine zz_aload_n 65 C dX5_costOf_64 rfl 1 rfl ?_
      refine zz_iload_n 66 C dX5_costOf_65 rfl 3 rfl ?_
      obtain ⟨hi12, hf⟩ := zz_chk hf
      refine zz_iald 67 C hka dX5_costOf_66 rfl hi12 ?_
      refine zz_if_ge 70 74 C dX5_costOf_67 rfl rfl hf (fun h13 hf => ?_) (fun h13 hf => ?_)
      · refine zz_aload_n 75 C dX5_costOf_74 rfl 0 rfl ?_
        refine zz_getR 78 C dX5_costOf_75 rfl fl_X5_31 sr_0 rfl ?_
        refine zz_aload_n 79 C dX5_costOf_78 rfl 1 rfl ?_
        refine zz_iload_n 80 C dX5_costOf_79 rfl 3 rfl ?_
        refine zz_iald 81 C hka dX5_costOf_80 rfl hi12 ?_
        obtain ⟨hi14, hf⟩ := zz_chk hf
        refine zz_iald 82 C sr_8 dX5_costOf_81 rfl hi14 ?_
        refine zz_iadd 83 C dX5_costOf_82 rfl ?_
        refine zz_istore_n (L' := [(2, .int (w8 + (M10 8 ((M10 ka v3.toNatClampNeg).toNatClampNeg)))), (0, .ref (ad 0)), (1, .ref (ad ka)), (3, .int v3), (4, .int w9)]) 84 C dX5_costOf_83 rfl (Nat.le_of_ble_eq_true rfl) rfl ?_
        refine zz_iinc (L' := [(3, .int (v3 + 1)), (2, .int (w8 + (M10 8 ((M10 ka v3.toNatClampNeg).toNatClampNeg)))), (0, .ref (ad 0)), (1, .ref (ad ka)), (4, .int w9)]) 87 C dX5_costOf_84 rfl zz_i1 3 rfl (Nat.le_of_ble_eq_true rfl) rfl ?_
        refine zz_goto 4 C dX5_costOf_87 rfl ?_
        exact zz_sub [2, 3, 1, 0] rfl (ih _ _ _ hf hex)
      · refine zz_iconst 71 C dX5_costOf_70 rfl zz_i0 ?_
        refine zz_goto 82 C dX5_costOf_71 rfl ?_
        refine zz_iadd 83 C dX5_costOf_82 rfl ?_
        refine zz_istore_n (L' := [(2, .int (w8 + 0)), (0, .ref (ad 0)), (1, .ref (ad ka)), (3, .int v3), (4, .int w9)]) 84 C dX5_costOf_83 rfl (Nat.le_of_ble_eq_true rfl) rfl ?_
        refine zz_iinc (L' := [(3, .int (v3 + 1)), (2, .int (w8 + 0)), (0, .ref (ad 0)), (1, .ref (ad ka)), (4, .int w9)]) 87 C dX5_costOf_84 rfl zz_i1 3 rfl (Nat.le_of_ble_eq_true rfl) rfl ?_
        refine zz_goto 4 C dX5_costOf_87 rfl ?_
        exact zz_sub [2, 3, 1, 0] rfl (ih _ _ _ hf hex)
def f_X5_costOf (ka nka : Nat) (M : zz_Mem) : Option (Int32 × zz_Mem) := zz_b3 (f_X5_costOf_4 ka nka 5000 0 0 M) (fun w15 w16 M17 => some (w15, M17))
set_option maxHeartbeats 4000000 in
set_option maxRecDepth 100000 in
theorem k_X5_costOf {l : Launch} {D : va_G} {cI : ClassId} {ad : Nat → Nat} {ka nka : Nat} {hka : zz_SR[ka]? = some (.inl nka)} {r : Int32} {M M1 : zz_Mem} (hf : f_X5_costOf ka nka M = some (r, M1)) : zz_K l D zz_SR cI ad 0 yX5_costOf cX5_costOf 5 (some .int) [.ref (ad 0), .ref (ad ka)] M (some (.int r)) M1 := by
  unfold f_X5_costOf at hf
  refine zz_entry (own := RX5) (L := [(0, .ref (ad 0)), (1, .ref (ad ka))]) (by decide +kernel) rfl (Nat.le_of_ble_eq_true rfl) rfl (fun p e s m args below meth c C => ?_)
  refine zz_iconst 1 C dX5_costOf_0 rfl zz_i0 ?_
  refine zz_istore_n (L' := [(2, .int 0), (0, .ref (ad 0)), (1, .ref (ad ka))]) 2 C dX5_costOf_1 rfl (Nat.le_of_ble_eq_true rfl) rfl ?_
  refine zz_iconst 3 C dX5_costOf_2 rfl zz_i0 ?_
  refine zz_istore_n (L' := [(3, .int 0), (2, .int 0), (0, .ref (ad 0)), (1, .ref (ad ka))]) 4 C dX5_costOf_3 rfl (Nat.le_of_ble_eq_true rfl) rfl ?_
  obtain ⟨w15, w16, M17, hc18, hf⟩ := zz_b3E hf
  refine zz_sub [2, 3, 1, 0] rfl (l_X5_costOf_4 (hka := hka) C  hc18 ?_)
  refine zz_iload_n 91 C dX5_costOf_90 rfl 2 rfl ?_
  cases hf
  exact zz_iret C dX5_costOf_91 rfl rfl
def f_X5_findNoises_12 (x1 : Int32) : Nat → Int32 → zz_Mem → Option (Int32 × zz_Mem)
  | 0, _, _ => none
  | n + 1, v2, M => (if (M 0 8) ≤ v2 then some (v2, M) else zz_b2 (f_X5_noiseOf x1 v2 M) (fun r5 M4 => (if zz_in ((16 * x1) + v2) 256 then f_X5_findNoises_12 x1 n (v2 + 1) (zz_up M4 15 (((16 * x1) + v2).toNatClampNeg) r5) else none)))
set_option maxHeartbeats 4000000 in
set_option maxRecDepth 100000 in
theorem l_X5_findNoises_12 {p : Program} {l : Launch} {e : Env} {s : State} {m : MethodId} {args : Array Value} {below : List Frame} {meth : Method} {c : Code} {D : va_G} {cI : ClassId} {ad : Nat → Nat} {x1 : Int32} {w : Option Value} {Mf : zz_Mem} (C : zz_C p (zz_rm 4) s m args meth c D cI RX5 cX5_findNoises 3 none 0 0) {w2 : Int32} {M1 : zz_Mem} : ∀ {n : Nat} {v2 : Int32} {M : zz_Mem}, f_X5_findNoises_12 x1 n v2 M = some (w2, M1) → zz_V p l e (zz_rm 4) s m args below meth c D zz_SR cI ad (zz_A zz_SR ad) 3 0 0 (MQ below (zz_Q D zz_SR cI ad w Mf) args s 0 0 (zz_A zz_SR ad)) 43 [(0, .ref (ad 0)), (1, .int x1), (2, .int w2)] [] M1 → zz_V p l e (zz_rm 4) s m args below meth c D zz_SR cI ad (zz_A zz_SR ad) 3 0 0 (MQ below (zz_Q D zz_SR cI ad w Mf) args s 0 0 (zz_A zz_SR ad)) 12 [(0, .ref (ad 0)), (1, .int x1), (2, .int v2)] [] M := by
  intro n
  induction n with
  | zero =>
    intro v2 M hf
    simp [f_X5_findNoises_12] at hf
  | succ n ih0 =>
    intro v2 M hf hex
    have ih := fun v2 M hf => @ih0 v2 M hf
    rw [f_X5_findNoises_12] at hf
    refine zz_iload_n 13 C dX5_findNoises_12 rfl 2 rfl ?_
    refine zz_aload_n 14 C dX5_findNoises_13 rfl 0 rfl ?_
    refine zz_getI 17 C dX5_findNoises_14 rfl fl_X5_75 sr_0 rfl ?_
    refine zz_icmp_ge 20 43 C dX5_findNoises_17 rfl rfl hf (fun h2 hf => ?_) (fun h2 hf => ?_)
    · cases hf
      exact zz_sub [0, 1, 2] rfl hex
    · refine zz_aload_n 21 C dX5_findNoises_20 rfl 0 rfl ?_
      refine zz_getR 24 C dX5_findNoises_21 rfl fl_X5_52 sr_0 rfl ?_
      refine zz_bipush 26 C dX5_findNoises_24 rfl zz_bp16 ?_
      refine zz_iload_n 27 C dX5_findNoises_26 rfl 1 rfl ?_
      refine zz_imul 28 C dX5_findNoises_27 rfl ?_
      refine zz_iload_n 29 C dX5_findNoises_28 rfl 2 rfl ?_
      refine zz_iadd 30 C dX5_findNoises_29 rfl ?_
      refine zz_aload_n 31 C dX5_findNoises_30 rfl 0 rfl ?_
      refine zz_iload_n 32 C dX5_findNoises_31 rfl 1 rfl ?_
      refine zz_iload_n 33 C dX5_findNoises_32 rfl 2 rfl ?_
      obtain ⟨r5, M4, hc3, hf⟩ := zz_b2E hf
      refine zz_callV 36 [.int x1, .int v2] C dX5_findNoises_33 rfl ml_X5_107 (k_X5_noiseOf hc3) sr_0 (vC := vwCl[5]) rfl rfl rfl rfl rfl (Nat.le_of_ble_eq_true rfl) (zz_hR (Nat.le_of_ble_eq_true rfl) (Nat.le_of_ble_eq_true rfl)) ?_
      obtain ⟨hi6, hf⟩ := zz_chk hf
      refine zz_iast 37 C sr_15 dX5_findNoises_36 rfl hi6 ?_
      refine zz_iinc (L' := [(2, .int (v2 + 1)), (0, .ref (ad 0)), (1, .int x1)]) 40 C dX5_findNoises_37 rfl zz_i1 2 rfl (Nat.le_of_ble_eq_true rfl) rfl ?_
      refine zz_goto 12 C dX5_findNoises_40 rfl ?_
      exact zz_sub [1, 2, 0] rfl (ih _ _ hf hex)
def f_X5_findNoises_2 : Nat → Int32 → zz_Mem → Option (Int32 × zz_Mem)
  | 0, _, _ => none
  | n + 1, v1, M => (if (M 0 8) ≤ v1 then some (v1, M) else zz_b2 (f_X5_findNoises_12 v1 5000 0 M) (fun w7 M8 => f_X5_findNoises_2 n (v1 + 1) M8))
set_option maxHeartbeats 4000000 in
set_option maxRecDepth 100000 in
theorem l_X5_findNoises_2 {p : Program} {l : Launch} {e : Env} {s : State} {m : MethodId} {args : Array Value} {below : List Frame} {meth : Method} {c : Code} {D : va_G} {cI : ClassId} {ad : Nat → Nat} {w : Option Value} {Mf : zz_Mem} (C : zz_C p (zz_rm 4) s m args meth c D cI RX5 cX5_findNoises 3 none 0 0) {w1 : Int32} {M1 : zz_Mem} : ∀ {n : Nat} {v1 : Int32} {M : zz_Mem}, f_X5_findNoises_2 n v1 M = some (w1, M1) → zz_V p l e (zz_rm 4) s m args below meth c D zz_SR cI ad (zz_A zz_SR ad) 3 0 0 (MQ below (zz_Q D zz_SR cI ad w Mf) args s 0 0 (zz_A zz_SR ad)) 49 [(0, .ref (ad 0)), (1, .int w1)] [] M1 → zz_V p l e (zz_rm 4) s m args below meth c D zz_SR cI ad (zz_A zz_SR ad) 3 0 0 (MQ below (zz_Q D zz_SR cI ad w Mf) args s 0 0 (zz_A zz_SR ad)) 2 [(0, .ref (ad 0)), (1, .int v1)] [] M := by
  intro n
  induction n with
  | zero =>
    intro v1 M hf
    simp [f_X5_findNoises_2] at hf
  | succ n ih0 =>
    intro v1 M hf hex
    have ih := fun v1 M hf => @ih0 v1 M hf
    rw [f_X5_findNoises_2] at hf
    refine zz_iload_n 3 C dX5_findNoises_2 rfl 1 rfl ?_
    refine zz_aload_n 4 C dX5_findNoises_3 rfl 0 rfl ?_
    refine zz_getI 7 C dX5_findNoises_4 rfl fl_X5_75 sr_0 rfl ?_
    refine zz_icmp_ge 10 49 C dX5_findNoises_7 rfl rfl hf (fun h1 hf => ?_) (fun h1 hf => ?_)
    · cases hf
      exact zz_sub [0, 1] rfl hex
    · refine zz_iconst 11 C dX5_findNoises_10 rfl zz_i0 ?_
      refine zz_istore_n (L' := [(2, .int 0), (0, .ref (ad 0)), (1, .int v1)]) 12 C dX5_findNoises_11 rfl (Nat.le_of_ble_eq_true rfl) rfl ?_
      obtain ⟨w7, M8, hc9, hf⟩ := zz_b2E hf
      refine zz_sub [1, 2, 0] rfl (l_X5_findNoises_12 C  hc9 ?_)
      refine zz_iinc (L' := [(1, .int (v1 + 1)), (0, .ref (ad 0)), (2, .int w7)]) 46 C dX5_findNoises_43 rfl zz_i1 1 rfl (Nat.le_of_ble_eq_true rfl) rfl ?_
      refine zz_goto 2 C dX5_findNoises_46 rfl ?_
      exact zz_sub [1, 0] rfl (ih _ _ hf hex)
def f_X5_findNoises (M : zz_Mem) : Option (zz_Mem) := zz_b2 (f_X5_findNoises_2 5000 0 M) (fun w10 M11 => some M11)
set_option maxHeartbeats 4000000 in
set_option maxRecDepth 100000 in
theorem k_X5_findNoises {l : Launch} {D : va_G} {cI : ClassId} {ad : Nat → Nat} {M M1 : zz_Mem} (hf : f_X5_findNoises M = some M1) : zz_K l D zz_SR cI ad 4 yX5_findNoises cX5_findNoises 3 none [.ref (ad 0)] M none M1 := by
  unfold f_X5_findNoises at hf
  refine zz_entry (own := RX5) (L := [(0, .ref (ad 0))]) (by decide +kernel) rfl (Nat.le_of_ble_eq_true rfl) rfl (fun p e s m args below meth c C => ?_)
  refine zz_iconst 1 C dX5_findNoises_0 rfl zz_i0 ?_
  refine zz_istore_n (L' := [(1, .int 0), (0, .ref (ad 0))]) 2 C dX5_findNoises_1 rfl (Nat.le_of_ble_eq_true rfl) rfl ?_
  obtain ⟨w10, M11, hc12, hf⟩ := zz_b2E hf
  refine zz_sub [1, 0] rfl (l_X5_findNoises_2 C  hc12 ?_)
  cases hf
  exact zz_vret C dX5_findNoises_49 rfl rfl
def f_X5_nextTake_4 (x1 x2 : Int32) : Nat → Int32 → zz_Mem → Option (Sum (Int32 × zz_Mem) (Int32 × zz_Mem))
  | 0, _, _ => none
  | n + 1, v3, M => (if (M 0 8) ≤ v3 then some (.inr (v3, M)) else (if zz_in v3 16 then (if (M 7 v3.toNatClampNeg) = x1 then some (.inl (v3, M)) else f_X5_nextTake_4 x1 x2 n (v3 + 1) M) else none))
set_option maxHeartbeats 4000000 in
set_option maxRecDepth 100000 in
theorem l_X5_nextTake_4 {p : Program} {l : Launch} {e : Env} {s : State} {m : MethodId} {args : Array Value} {below : List Frame} {meth : Method} {c : Code} {D : va_G} {cI : ClassId} {ad : Nat → Nat} {x1 x2 : Int32} {w : Option Value} {Mf : zz_Mem} (C : zz_C p (zz_rm 0) s m args meth c D cI RX5 cX5_nextTake 4 (some .int) 0 0) : ∀ {n : Nat} {v3 : Int32} {M : zz_Mem} {z : Sum (Int32 × zz_Mem) (Int32 × zz_Mem)}, f_X5_nextTake_4 x1 x2 n v3 M = some z → (∀ r0 M0, z = .inl (r0, M0) → w = some (.int r0) ∧ Mf = M0) → (∀ w3 M1, z = .inr (w3, M1) → zz_V p l e (zz_rm 0) s m args below meth c D zz_SR cI ad (zz_A zz_SR ad) 4 0 0 (MQ below (zz_Q D zz_SR cI ad w Mf) args s 0 0 (zz_A zz_SR ad)) 30 [(0, .ref (ad 0)), (1, .int x1), (2, .int x2), (3, .int w3)] [] M1) → zz_V p l e (zz_rm 0) s m args below meth c D zz_SR cI ad (zz_A zz_SR ad) 4 0 0 (MQ below (zz_Q D zz_SR cI ad w Mf) args s 0 0 (zz_A zz_SR ad)) 4 [(0, .ref (ad 0)), (1, .int x1), (2, .int x2), (3, .int v3)] [] M := by
  intro n
  induction n with
  | zero =>
    intro v3 M z hf
    simp [f_X5_nextTake_4] at hf
  | succ n ih0 =>
    intro v3 M z hf hret hex
    have ih := fun v3 M hf => @ih0 v3 M z hf
    rw [f_X5_nextTake_4] at hf
    refine zz_iload_n 5 C dX5_nextTake_4 rfl 3 rfl ?_
    refine zz_aload_n 6 C dX5_nextTake_5 rfl 0 rfl ?_
    refine zz_getI 9 C dX5_nextTake_6 rfl fl_X5_75 sr_0 rfl ?_
    refine zz_icmp_ge 12 30 C dX5_nextTake_9 rfl rfl hf (fun h1 hf => ?_) (fun h1 hf => ?_)
    · cases hf
      exact zz_sub [0, 1, 2, 3] rfl (hex _ _ rfl)
    · refine zz_aload_n 13 C dX5_nextTake_12 rfl 0 rfl ?_
      refine zz_getR 16 C dX5_nextTake_13 rfl fl_X5_28 sr_0 rfl ?_
      refine zz_iload_n 17 C dX5_nextTake_16 rfl 3 rfl ?_
      obtain ⟨hi2, hf⟩ := zz_chk hf
      refine zz_iald 18 C sr_7 dX5_nextTake_17 rfl hi2 ?_
      refine zz_iload_n 19 C dX5_nextTake_18 rfl 1 rfl ?_
      refine zz_icmp_ne 22 24 C dX5_nextTake_19 rfl rfl hf (fun h3 hf => ?_) (fun h3 hf => ?_)
      · refine zz_iinc (L' := [(3, .int (v3 + 1)), (0, .ref (ad 0)), (1, .int x1), (2, .int x2)]) 27 C dX5_nextTake_24 rfl zz_i1 3 rfl (Nat.le_of_ble_eq_true rfl) rfl ?_
        refine zz_goto 4 C dX5_nextTake_27 rfl ?_
        exact zz_sub [1, 2, 3, 0] rfl (ih _ _ hf hret hex)
      · refine zz_iload_n 23 C dX5_nextTake_22 rfl 3 rfl ?_
        cases hf
        exact zz_iret C dX5_nextTake_23 (hret _ _ rfl).1 (hret _ _ rfl).2
def f_X5_nextTake (a1 a2 : Int32) (M : zz_Mem) : Option (Int32 × zz_Mem) := zz_bs2 (f_X5_nextTake_4 a1 a2 5000 (a2 + 1) M) (fun w4 M5 => some ((-1), M5))
set_option maxHeartbeats 4000000 in
set_option maxRecDepth 100000 in
theorem k_X5_nextTake {l : Launch} {D : va_G} {cI : ClassId} {ad : Nat → Nat} {a1 a2 : Int32} {r : Int32} {M M1 : zz_Mem} (hf : f_X5_nextTake a1 a2 M = some (r, M1)) : zz_K l D zz_SR cI ad 0 yX5_nextTake cX5_nextTake 4 (some .int) [.ref (ad 0), .int a1, .int a2] M (some (.int r)) M1 := by
  unfold f_X5_nextTake at hf
  refine zz_entry (own := RX5) (L := [(0, .ref (ad 0)), (1, .int a1), (2, .int a2)]) (by decide +kernel) rfl (Nat.le_of_ble_eq_true rfl) rfl (fun p e s m args below meth c C => ?_)
  refine zz_iload_n 1 C dX5_nextTake_0 rfl 2 rfl ?_
  refine zz_iconst 2 C dX5_nextTake_1 rfl zz_i1 ?_
  refine zz_iadd 3 C dX5_nextTake_2 rfl ?_
  refine zz_istore_n (L' := [(3, .int (a2 + 1)), (0, .ref (ad 0)), (1, .int a1), (2, .int a2)]) 4 C dX5_nextTake_3 rfl (Nat.le_of_ble_eq_true rfl) rfl ?_
  obtain ⟨z7, hc6, e8, e9⟩ := zz_bs2E hf
  refine zz_sub [1, 2, 3, 0] rfl (l_X5_nextTake_4 C  hc6 e8 (fun w4 M5 hz => ?_))
  replace hf := e9 _ _ hz
  refine zz_iconst 31 C dX5_nextTake_30 rfl zz_im1 ?_
  cases hf
  exact zz_iret C dX5_nextTake_31 rfl rfl
def f_X5_findCut_6 : Nat → Int32 → zz_Mem → Option (Int32 × zz_Mem)
  | 0, _, _ => none
  | n + 1, v1, M => (if (M 0 0) ≤ v1 then some (v1, M) else zz_b2 (f_X5_nextTake v1 (-1) M) (fun r6 M5 => (if zz_in v1 6 then f_X5_findCut_6 n (v1 + 1) (zz_up M5 13 v1.toNatClampNeg r6) else none)))
set_option maxHeartbeats 4000000 in
set_option maxRecDepth 100000 in
theorem l_X5_findCut_6 {p : Program} {l : Launch} {e : Env} {s : State} {m : MethodId} {args : Array Value} {below : List Frame} {meth : Method} {c : Code} {D : va_G} {cI : ClassId} {ad : Nat → Nat} {w : Option Value} {Mf : zz_Mem} (C : zz_C p (zz_rm 5) s m args meth c D cI RX5 cX5_findCut 4 none 0 0) {w1 : Int32} {M1 : zz_Mem} : ∀ {n : Nat} {v1 : Int32} {M : zz_Mem}, f_X5_findCut_6 n v1 M = some (w1, M1) → zz_V p l e (zz_rm 5) s m args below meth c D zz_SR cI ad (zz_A zz_SR ad) 4 0 0 (MQ below (zz_Q D zz_SR cI ad w Mf) args s 0 0 (zz_A zz_SR ad)) 32 [(0, .ref (ad 0)), (1, .int w1)] [] M1 → zz_V p l e (zz_rm 5) s m args below meth c D zz_SR cI ad (zz_A zz_SR ad) 4 0 0 (MQ below (zz_Q D zz_SR cI ad w Mf) args s 0 0 (zz_A zz_SR ad)) 6 [(0, .ref (ad 0)), (1, .int v1)] [] M := by
  intro n
  induction n with
  | zero =>
    intro v1 M hf
    simp [f_X5_findCut_6] at hf
  | succ n ih0 =>
    intro v1 M hf hex
    have ih := fun v1 M hf => @ih0 v1 M hf
    rw [f_X5_findCut_6] at hf
    refine zz_iload_n 7 C dX5_findCut_6 rfl 1 rfl ?_
    refine zz_aload_n 8 C dX5_findCut_7 rfl 0 rfl ?_
    refine zz_getI 11 C dX5_findCut_8 rfl fl_X5_64 sr_0 rfl ?_
    refine zz_icmp_ge 14 32 C dX5_findCut_11 rfl rfl hf (fun h3 hf => ?_) (fun h3 hf => ?_)
    · cases hf
      exact zz_sub [0, 1] rfl hex
    · refine zz_aload_n 15 C dX5_findCut_14 rfl 0 rfl ?_
      refine zz_getR 18 C dX5_findCut_15 rfl fl_X5_46 sr_0 rfl ?_
      refine zz_iload_n 19 C dX5_findCut_18 rfl 1 rfl ?_
      refine zz_aload_n 20 C dX5_findCut_19 rfl 0 rfl ?_
      refine zz_iload_n 21 C dX5_findCut_20 rfl 1 rfl ?_
      refine zz_iconst 22 C dX5_findCut_21 rfl zz_im1 ?_
      obtain ⟨r6, M5, hc4, hf⟩ := zz_b2E hf
      refine zz_callV 25 [.int v1, .int (-1)] C dX5_findCut_22 rfl ml_X5_114 (k_X5_nextTake hc4) sr_0 (vC := vwCl[5]) rfl rfl rfl rfl rfl (Nat.le_of_ble_eq_true rfl) (zz_hR (Nat.le_of_ble_eq_true rfl) (Nat.le_of_ble_eq_true rfl)) ?_
      obtain ⟨hi7, hf⟩ := zz_chk hf
      refine zz_iast 26 C sr_13 dX5_findCut_25 rfl hi7 ?_
      refine zz_iinc (L' := [(1, .int (v1 + 1)), (0, .ref (ad 0))]) 29 C dX5_findCut_26 rfl zz_i1 1 rfl (Nat.le_of_ble_eq_true rfl) rfl ?_
      refine zz_goto 6 C dX5_findCut_29 rfl ?_
      exact zz_sub [1, 0] rfl (ih _ _ hf hex)
def f_X5_findCut_74 (x1 x2 : Int32) : Nat → Int32 → zz_Mem → Option (Int32 × zz_Mem)
  | 0, _, _ => none
  | n + 1, v3, M => (if (M 0 0) ≤ v3 then some (v3, M) else (if zz_in v3 6 then f_X5_findCut_74 x1 x2 n (v3 + 1) (zz_up M 14 v3.toNatClampNeg (M 13 v3.toNatClampNeg)) else none))
set_option maxHeartbeats 4000000 in
set_option maxRecDepth 100000 in
theorem l_X5_findCut_74 {p : Program} {l : Launch} {e : Env} {s : State} {m : MethodId} {args : Array Value} {below : List Frame} {meth : Method} {c : Code} {D : va_G} {cI : ClassId} {ad : Nat → Nat} {x1 x2 : Int32} {w : Option Value} {Mf : zz_Mem} (C : zz_C p (zz_rm 5) s m args meth c D cI RX5 cX5_findCut 4 none 0 0) {w3 : Int32} {M1 : zz_Mem} : ∀ {n : Nat} {v3 : Int32} {M : zz_Mem}, f_X5_findCut_74 x1 x2 n v3 M = some (w3, M1) → zz_V p l e (zz_rm 5) s m args below meth c D zz_SR cI ad (zz_A zz_SR ad) 4 0 0 (MQ below (zz_Q D zz_SR cI ad w Mf) args s 0 0 (zz_A zz_SR ad)) 100 [(0, .ref (ad 0)), (1, .int x1), (2, .int x2), (3, .int w3)] [] M1 → zz_V p l e (zz_rm 5) s m args below meth c D zz_SR cI ad (zz_A zz_SR ad) 4 0 0 (MQ below (zz_Q D zz_SR cI ad w Mf) args s 0 0 (zz_A zz_SR ad)) 74 [(0, .ref (ad 0)), (1, .int x1), (2, .int x2), (3, .int v3)] [] M := by
  intro n
  induction n with
  | zero =>
    intro v3 M hf
    simp [f_X5_findCut_74] at hf
  | succ n ih0 =>
    intro v3 M hf hex
    have ih := fun v3 M hf => @ih0 v3 M hf
    rw [f_X5_findCut_74] at hf
    refine zz_iload_n 75 C dX5_findCut_74 rfl 3 rfl ?_
    refine zz_aload_n 76 C dX5_findCut_75 rfl 0 rfl ?_
    refine zz_getI 79 C dX5_findCut_76 rfl fl_X5_64 sr_0 rfl ?_
    refine zz_icmp_ge 82 100 C dX5_findCut_79 rfl rfl hf (fun h16 hf => ?_) (fun h16 hf => ?_)
    · cases hf
      exact zz_sub [0, 1, 2, 3] rfl hex
    · refine zz_aload_n 83 C dX5_findCut_82 rfl 0 rfl ?_
      refine zz_getR 86 C dX5_findCut_83 rfl fl_X5_49 sr_0 rfl ?_
      refine zz_iload_n 87 C dX5_findCut_86 rfl 3 rfl ?_
      refine zz_aload_n 88 C dX5_findCut_87 rfl 0 rfl ?_
      refine zz_getR 91 C dX5_findCut_88 rfl fl_X5_46 sr_0 rfl ?_
      refine zz_iload_n 92 C dX5_findCut_91 rfl 3 rfl ?_
      obtain ⟨hi17, hf⟩ := zz_chk hf
      refine zz_iald 93 C sr_13 dX5_findCut_92 rfl hi17 ?_
      refine zz_iast 94 C sr_14 dX5_findCut_93 rfl hi17 ?_
      refine zz_iinc (L' := [(3, .int (v3 + 1)), (0, .ref (ad 0)), (1, .int x1), (2, .int x2)]) 97 C dX5_findCut_94 rfl zz_i1 3 rfl (Nat.le_of_ble_eq_true rfl) rfl ?_
      refine zz_goto 74 C dX5_findCut_97 rfl ?_
      exact zz_sub [1, 2, 3, 0] rfl (ih _ _ hf hex)
def f_X5_findCut_107 (x1 x2 : Int32) : Nat → Int32 → zz_Mem → Option (Int32 × zz_Mem)
  | 0, _, _ => none
  | n + 1, v3, M => (if v3 < 0 then some (v3, M) else (if zz_in v3 6 then (if (M 13 v3.toNatClampNeg) < 0 then zz_b2 (f_X5_nextTake v3 (-1) M) (fun r26 M25 => f_X5_findCut_107 x1 x2 n (v3 + (-1)) (zz_up M25 13 v3.toNatClampNeg r26)) else zz_b2 (f_X5_nextTake v3 (M 13 v3.toNatClampNeg) M) (fun r29 M28 => (if 0 ≤ r29 then some (v3, M28) else zz_b2 (f_X5_nextTake v3 (-1) M28) (fun r33 M32 => f_X5_findCut_107 x1 x2 n (v3 + (-1)) (zz_up M32 13 v3.toNatClampNeg r33))))) else none))
set_option maxHeartbeats 4000000 in
set_option maxRecDepth 100000 in
theorem l_X5_findCut_107 {p : Program} {l : Launch} {e : Env} {s : State} {m : MethodId} {args : Array Value} {below : List Frame} {meth : Method} {c : Code} {D : va_G} {cI : ClassId} {ad : Nat → Nat} {x1 x2 : Int32} {w : Option Value} {Mf : zz_Mem} (C : zz_C p (zz_rm 5) s m args meth c D cI RX5 cX5_findCut 4 none 0 0) {w3 : Int32} {M1 : zz_Mem} : ∀ {n : Nat} {v3 : Int32} {M : zz_Mem}, f_X5_findCut_107 x1 x2 n v3 M = some (w3, M1) → zz_V p l e (zz_rm 5) s m args below meth c D zz_SR cI ad (zz_A zz_SR ad) 4 0 0 (MQ below (zz_Q D zz_SR cI ad w Mf) args s 0 0 (zz_A zz_SR ad)) 152 [(0, .ref (ad 0)), (1, .int x1), (2, .int x2), (3, .int w3)] [] M1 → zz_V p l e (zz_rm 5) s m args below meth c D zz_SR cI ad (zz_A zz_SR ad) 4 0 0 (MQ below (zz_Q D zz_SR cI ad w Mf) args s 0 0 (zz_A zz_SR ad)) 107 [(0, .ref (ad 0)), (1, .int x1), (2, .int x2), (3, .int v3)] [] M := by
  intro n
  induction n with
  | zero =>
    intro v3 M hf
    simp [f_X5_findCut_107] at hf
  | succ n ih0 =>
    intro v3 M hf hex
    have ih := fun v3 M hf => @ih0 v3 M hf
    rw [f_X5_findCut_107] at hf
    refine zz_iload_n 108 C dX5_findCut_107 rfl 3 rfl ?_
    refine zz_if_lt 111 152 C dX5_findCut_108 rfl rfl hf (fun h21 hf => ?_) (fun h21 hf => ?_)
    · cases hf
      exact zz_sub [0, 1, 2, 3] rfl hex
    · refine zz_aload_n 112 C dX5_findCut_111 rfl 0 rfl ?_
      refine zz_getR 115 C dX5_findCut_112 rfl fl_X5_46 sr_0 rfl ?_
      refine zz_iload_n 116 C dX5_findCut_115 rfl 3 rfl ?_
      obtain ⟨hi22, hf⟩ := zz_chk hf
      refine zz_iald 117 C sr_13 dX5_findCut_116 rfl hi22 ?_
      refine zz_if_lt 120 134 C dX5_findCut_117 rfl rfl hf (fun h23 hf => ?_) (fun h23 hf => ?_)
      · refine zz_aload_n 135 C dX5_findCut_134 rfl 0 rfl ?_
        refine zz_getR 138 C dX5_findCut_135 rfl fl_X5_46 sr_0 rfl ?_
        refine zz_iload_n 139 C dX5_findCut_138 rfl 3 rfl ?_
        refine zz_aload_n 140 C dX5_findCut_139 rfl 0 rfl ?_
        refine zz_iload_n 141 C dX5_findCut_140 rfl 3 rfl ?_
        refine zz_iconst 142 C dX5_findCut_141 rfl zz_im1 ?_
        obtain ⟨r26, M25, hc24, hf⟩ := zz_b2E hf
        refine zz_callV 145 [.int v3, .int (-1)] C dX5_findCut_142 rfl ml_X5_114 (k_X5_nextTake hc24) sr_0 (vC := vwCl[5]) rfl rfl rfl rfl rfl (Nat.le_of_ble_eq_true rfl) (zz_hR (Nat.le_of_ble_eq_true rfl) (Nat.le_of_ble_eq_true rfl)) ?_
        refine zz_iast 146 C sr_13 dX5_findCut_145 rfl hi22 ?_
        refine zz_iinc (L' := [(3, .int (v3 + (-1))), (0, .ref (ad 0)), (1, .int x1), (2, .int x2)]) 149 C dX5_findCut_146 rfl zz_im1 3 rfl (Nat.le_of_ble_eq_true rfl) rfl ?_
        refine zz_goto 107 C dX5_findCut_149 rfl ?_
        exact zz_sub [1, 2, 3, 0] rfl (ih _ _ hf hex)
      · refine zz_aload_n 121 C dX5_findCut_120 rfl 0 rfl ?_
        refine zz_iload_n 122 C dX5_findCut_121 rfl 3 rfl ?_
        refine zz_aload_n 123 C dX5_findCut_122 rfl 0 rfl ?_
        refine zz_getR 126 C dX5_findCut_123 rfl fl_X5_46 sr_0 rfl ?_
        refine zz_iload_n 127 C dX5_findCut_126 rfl 3 rfl ?_
        refine zz_iald 128 C sr_13 dX5_findCut_127 rfl hi22 ?_
        obtain ⟨r29, M28, hc27, hf⟩ := zz_b2E hf
        refine zz_callV 131 [.int v3, .int (M 13 v3.toNatClampNeg)] C dX5_findCut_128 rfl ml_X5_114 (k_X5_nextTake hc27) sr_0 (vC := vwCl[5]) rfl rfl rfl rfl rfl (Nat.le_of_ble_eq_true rfl) (zz_hR (Nat.le_of_ble_eq_true rfl) (Nat.le_of_ble_eq_true rfl)) ?_
        refine zz_if_ge 134 152 C dX5_findCut_131 rfl rfl hf (fun h30 hf => ?_) (fun h30 hf => ?_)
        · cases hf
          exact zz_sub [0, 1, 2, 3] rfl hex
        · refine zz_aload_n 135 C dX5_findCut_134 rfl 0 rfl ?_
          refine zz_getR 138 C dX5_findCut_135 rfl fl_X5_46 sr_0 rfl ?_
          refine zz_iload_n 139 C dX5_findCut_138 rfl 3 rfl ?_
          refine zz_aload_n 140 C dX5_findCut_139 rfl 0 rfl ?_
          refine zz_iload_n 141 C dX5_findCut_140 rfl 3 rfl ?_
          refine zz_iconst 142 C dX5_findCut_141 rfl zz_im1 ?_
          obtain ⟨r33, M32, hc31, hf⟩ := zz_b2E hf
          refine zz_callV 145 [.int v3, .int (-1)] C dX5_findCut_142 rfl ml_X5_114 (k_X5_nextTake hc31) sr_0 (vC := vwCl[5]) rfl rfl rfl rfl rfl (Nat.le_of_ble_eq_true rfl) (zz_hR (Nat.le_of_ble_eq_true rfl) (Nat.le_of_ble_eq_true rfl)) ?_
          refine zz_iast 146 C sr_13 dX5_findCut_145 rfl hi22 ?_
          refine zz_iinc (L' := [(3, .int (v3 + (-1))), (0, .ref (ad 0)), (1, .int x1), (2, .int x2)]) 149 C dX5_findCut_146 rfl zz_im1 3 rfl (Nat.le_of_ble_eq_true rfl) rfl ?_
          refine zz_goto 107 C dX5_findCut_149 rfl ?_
          exact zz_sub [1, 2, 3, 0] rfl (ih _ _ hf hex)
def f_X5_findCut_39 : Nat → Int32 → zz_Mem → Option (Int32 × zz_Mem)
  | 0, _, _ => none
  | n + 1, v1, M => (if v1 = 0 then some (v1, M) else zz_b2 (f_X5_costOf 13 6 M) (fun r14 M13 => (if (M13 0 19) < 0 then zz_b2 (f_X5_findCut_74 v1 r14 5000 0 (zz_up M13 0 19 r14)) (fun w18 M19 => zz_b2 (f_X5_findCut_107 v1 r14 5000 ((M19 0 0) - 1) M19) (fun w34 M35 => (if w34 < 0 then f_X5_findCut_39 n 0 M35 else (if zz_in w34 6 then zz_b2 (f_X5_nextTake w34 (M35 13 w34.toNatClampNeg) M35) (fun r41 M40 => f_X5_findCut_39 n 1 (zz_up M40 13 w34.toNatClampNeg r41)) else none)))) else (if (M13 0 19) ≤ r14 then zz_b2 (f_X5_findCut_107 v1 r14 5000 ((M13 0 0) - 1) M13) (fun w43 M44 => (if w43 < 0 then f_X5_findCut_39 n 0 M44 else (if zz_in w43 6 then zz_b2 (f_X5_nextTake w43 (M44 13 w43.toNatClampNeg) M44) (fun r50 M49 => f_X5_findCut_39 n 1 (zz_up M49 13 w43.toNatClampNeg r50)) else none))) else zz_b2 (f_X5_findCut_74 v1 r14 5000 0 (zz_up M13 0 19 r14)) (fun w51 M52 => zz_b2 (f_X5_findCut_107 v1 r14 5000 ((M52 0 0) - 1) M52) (fun w54 M55 => (if w54 < 0 then f_X5_findCut_39 n 0 M55 else (if zz_in w54 6 then zz_b2 (f_X5_nextTake w54 (M55 13 w54.toNatClampNeg) M55) (fun r61 M60 => f_X5_findCut_39 n 1 (zz_up M60 13 w54.toNatClampNeg r61)) else none))))))))
set_option maxHeartbeats 4000000 in
set_option maxRecDepth 100000 in
theorem l_X5_findCut_39 {p : Program} {l : Launch} {e : Env} {s : State} {m : MethodId} {args : Array Value} {below : List Frame} {meth : Method} {c : Code} {D : va_G} {cI : ClassId} {ad : Nat → Nat} {w : Option Value} {Mf : zz_Mem} (C : zz_C p (zz_rm 5) s m args meth c D cI RX5 cX5_findCut 4 none 0 0) {w1 : Int32} {M1 : zz_Mem} : ∀ {n : Nat} {v1 : Int32} {M : zz_Mem}, f_X5_findCut_39 n v1 M = some (w1, M1) → zz_V p l e (zz_rm 5) s m args below meth c D zz_SR cI ad (zz_A zz_SR ad) 4 0 0 (MQ below (zz_Q D zz_SR cI ad w Mf) args s 0 0 (zz_A zz_SR ad)) 186 [(0, .ref (ad 0)), (1, .int w1)] [] M1 → zz_V p l e (zz_rm 5) s m args below meth c D zz_SR cI ad (zz_A zz_SR ad) 4 0 0 (MQ below (zz_Q D zz_SR cI ad w Mf) args s 0 0 (zz_A zz_SR ad)) 39 [(0, .ref (ad 0)), (1, .int v1)] [] M := by
  intro n
  induction n with
  | zero =>
    intro v1 M hf
    simp [f_X5_findCut_39] at hf
  | succ n ih0 =>
    intro v1 M hf hex
    have ih := fun v1 M hf => @ih0 v1 M hf
    rw [f_X5_findCut_39] at hf
    refine zz_iload_n 40 C dX5_findCut_39 rfl 1 rfl ?_
    refine zz_if_eq 43 186 C dX5_findCut_40 rfl rfl hf (fun h11 hf => ?_) (fun h11 hf => ?_)
    · cases hf
      exact zz_sub [0, 1] rfl hex
    · refine zz_aload_n 44 C dX5_findCut_43 rfl 0 rfl ?_
      refine zz_aload_n 45 C dX5_findCut_44 rfl 0 rfl ?_
      refine zz_getR 48 C dX5_findCut_45 rfl fl_X5_46 sr_0 rfl ?_
      obtain ⟨r14, M13, hc12, hf⟩ := zz_b2E hf
      refine zz_callV 51 [.ref (ad 13)] C dX5_findCut_48 rfl ml_X5_120 (k_X5_costOf (hka := sr_13) hc12) sr_0 (vC := vwCl[5]) rfl rfl rfl rfl rfl (Nat.le_of_ble_eq_true rfl) (zz_hR (Nat.le_of_ble_eq_true rfl) (Nat.le_of_ble_eq_true rfl)) ?_
      refine zz_istore_n (L' := [(2, .int r14), (0, .ref (ad 0)), (1, .int v1)]) 52 C dX5_findCut_51 rfl (Nat.le_of_ble_eq_true rfl) rfl ?_
      refine zz_aload_n 53 C dX5_findCut_52 rfl 1 rfl ?_
      refine zz_getI 56 C dX5_findCut_53 rfl fl_X5_117 sr_0 rfl ?_
      refine zz_if_lt 59 67 C dX5_findCut_56 rfl rfl hf (fun h15 hf => ?_) (fun h15 hf => ?_)
      · refine zz_aload_n 68 C dX5_findCut_67 rfl 1 rfl ?_
        refine zz_iload_n 69 C dX5_findCut_68 rfl 0 rfl ?_
        refine zz_putI 72 C dX5_findCut_69 rfl fl_X5_117 fs_X5_19 rfl rfl sr_0 rfl ?_
        refine zz_iconst 73 C dX5_findCut_72 rfl zz_i0 ?_
        refine zz_istore_n (L' := [(3, .int 0), (2, .int r14), (0, .ref (ad 0)), (1, .int v1)]) 74 C dX5_findCut_73 rfl (Nat.le_of_ble_eq_true rfl) rfl ?_
        obtain ⟨w18, M19, hc20, hf⟩ := zz_b2E hf
        refine zz_sub [2, 3, 1, 0] rfl (l_X5_findCut_74 C  hc20 ?_)
        refine zz_aload_n 101 C dX5_findCut_100 rfl 0 rfl ?_
        refine zz_getI 104 C dX5_findCut_101 rfl fl_X5_64 sr_0 rfl ?_
        refine zz_iconst 105 C dX5_findCut_104 rfl zz_i1 ?_
        refine zz_isub 106 C dX5_findCut_105 rfl ?_
        refine zz_istore_n (L' := [(3, .int ((M19 0 0) - 1)), (0, .ref (ad 0)), (1, .int v1), (2, .int r14)]) 107 C dX5_findCut_106 rfl (Nat.le_of_ble_eq_true rfl) rfl ?_
        obtain ⟨w34, M35, hc36, hf⟩ := zz_b2E hf
        refine zz_sub [1, 2, 3, 0] rfl (l_X5_findCut_107 C  hc36 ?_)
        refine zz_iload_n 153 C dX5_findCut_152 rfl 3 rfl ?_
        refine zz_if_lt 156 160 C dX5_findCut_153 rfl rfl hf (fun h37 hf => ?_) (fun h37 hf => ?_)
        · refine zz_iconst 161 C dX5_findCut_160 rfl zz_i0 ?_
          refine zz_istore_n (L' := [(1, .int 0), (0, .ref (ad 0)), (2, .int r14), (3, .int w34)]) 162 C dX5_findCut_161 rfl (Nat.le_of_ble_eq_true rfl) rfl ?_
          refine zz_iload_n 163 C dX5_findCut_162 rfl 0 rfl ?_
          refine zz_if_eqT 183 C dX5_findCut_163 rfl (by decide) ?_
          refine zz_goto 39 C dX5_findCut_183 rfl ?_
          exact zz_sub [1, 0] rfl (ih _ _ hf hex)
        · refine zz_iconst 157 C dX5_findCut_156 rfl zz_i1 ?_
          refine zz_goto 161 C dX5_findCut_157 rfl ?_
          refine zz_istore_n (L' := [(1, .int 1), (0, .ref (ad 0)), (2, .int r14), (3, .int w34)]) 162 C dX5_findCut_161 rfl (Nat.le_of_ble_eq_true rfl) rfl ?_
          refine zz_iload_n 163 C dX5_findCut_162 rfl 0 rfl ?_
          refine zz_if_eqF 166 183 C dX5_findCut_163 rfl rfl (by decide) ?_
          refine zz_aload_n 167 C dX5_findCut_166 rfl 1 rfl ?_
          refine zz_getR 170 C dX5_findCut_167 rfl fl_X5_46 sr_0 rfl ?_
          refine zz_iload_n 171 C dX5_findCut_170 rfl 3 rfl ?_
          refine zz_aload_n 172 C dX5_findCut_171 rfl 1 rfl ?_
          refine zz_iload_n 173 C dX5_findCut_172 rfl 3 rfl ?_
          refine zz_aload_n 174 C dX5_findCut_173 rfl 1 rfl ?_
          refine zz_getR 177 C dX5_findCut_174 rfl fl_X5_46 sr_0 rfl ?_
          refine zz_iload_n 178 C dX5_findCut_177 rfl 3 rfl ?_
          obtain ⟨hi38, hf⟩ := zz_chk hf
          refine zz_iald 179 C sr_13 dX5_findCut_178 rfl hi38 ?_
          obtain ⟨r41, M40, hc39, hf⟩ := zz_b2E hf
          refine zz_callV 182 [.int w34, .int (M35 13 w34.toNatClampNeg)] C dX5_findCut_179 rfl ml_X5_114 (k_X5_nextTake hc39) sr_0 (vC := vwCl[5]) rfl rfl rfl rfl rfl (Nat.le_of_ble_eq_true rfl) (zz_hR (Nat.le_of_ble_eq_true rfl) (Nat.le_of_ble_eq_true rfl)) ?_
          refine zz_iast 183 C sr_13 dX5_findCut_182 rfl hi38 ?_
          refine zz_goto 39 C dX5_findCut_183 rfl ?_
          exact zz_sub [1, 0] rfl (ih _ _ hf hex)
      · refine zz_iload_n 60 C dX5_findCut_59 rfl 0 rfl ?_
        refine zz_aload_n 61 C dX5_findCut_60 rfl 1 rfl ?_
        refine zz_getI 64 C dX5_findCut_61 rfl fl_X5_117 sr_0 rfl ?_
        refine zz_icmp_ge 67 100 C dX5_findCut_64 rfl rfl hf (fun h42 hf => ?_) (fun h42 hf => ?_)
        · refine zz_aload_n 101 C dX5_findCut_100 rfl 1 rfl ?_
          refine zz_getI 104 C dX5_findCut_101 rfl fl_X5_64 sr_0 rfl ?_
          refine zz_iconst 105 C dX5_findCut_104 rfl zz_i1 ?_
          refine zz_isub 106 C dX5_findCut_105 rfl ?_
          refine zz_istore_n (L' := [(3, .int ((M13 0 0) - 1)), (2, .int r14), (0, .ref (ad 0)), (1, .int v1)]) 107 C dX5_findCut_106 rfl (Nat.le_of_ble_eq_true rfl) rfl ?_
          obtain ⟨w43, M44, hc45, hf⟩ := zz_b2E hf
          refine zz_sub [2, 3, 1, 0] rfl (l_X5_findCut_107 C  hc45 ?_)
          refine zz_iload_n 153 C dX5_findCut_152 rfl 3 rfl ?_
          refine zz_if_lt 156 160 C dX5_findCut_153 rfl rfl hf (fun h46 hf => ?_) (fun h46 hf => ?_)
          · refine zz_iconst 161 C dX5_findCut_160 rfl zz_i0 ?_
            refine zz_istore_n (L' := [(1, .int 0), (0, .ref (ad 0)), (2, .int r14), (3, .int w43)]) 162 C dX5_findCut_161 rfl (Nat.le_of_ble_eq_true rfl) rfl ?_
            refine zz_iload_n 163 C dX5_findCut_162 rfl 0 rfl ?_
            refine zz_if_eqT 183 C dX5_findCut_163 rfl (by decide) ?_
            refine zz_goto 39 C dX5_findCut_183 rfl ?_
            exact zz_sub [1, 0] rfl (ih _ _ hf hex)
          · refine zz_iconst 157 C dX5_findCut_156 rfl zz_i1 ?_
            refine zz_goto 161 C dX5_findCut_157 rfl ?_
            refine zz_istore_n (L' := [(1, .int 1), (0, .ref (ad 0)), (2, .int r14), (3, .int w43)]) 162 C dX5_findCut_161 rfl (Nat.le_of_ble_eq_true rfl) rfl ?_
            refine zz_iload_n 163 C dX5_findCut_162 rfl 0 rfl ?_
            refine zz_if_eqF 166 183 C dX5_findCut_163 rfl rfl (by decide) ?_
            refine zz_aload_n 167 C dX5_findCut_166 rfl 1 rfl ?_
            refine zz_getR 170 C dX5_findCut_167 rfl fl_X5_46 sr_0 rfl ?_
            refine zz_iload_n 171 C dX5_findCut_170 rfl 3 rfl ?_
            refine zz_aload_n 172 C dX5_findCut_171 rfl 1 rfl ?_
            refine zz_iload_n 173 C dX5_findCut_172 rfl 3 rfl ?_
            refine zz_aload_n 174 C dX5_findCut_173 rfl 1 rfl ?_
            refine zz_getR 177 C dX5_findCut_174 rfl fl_X5_46 sr_0 rfl ?_
            refine zz_iload_n 178 C dX5_findCut_177 rfl 3 rfl ?_
            obtain ⟨hi47, hf⟩ := zz_chk hf
            refine zz_iald 179 C sr_13 dX5_findCut_178 rfl hi47 ?_
            obtain ⟨r50, M49, hc48, hf⟩ := zz_b2E hf
            refine zz_callV 182 [.int w43, .int (M44 13 w43.toNatClampNeg)] C dX5_findCut_179 rfl ml_X5_114 (k_X5_nextTake hc48) sr_0 (vC := vwCl[5]) rfl rfl rfl rfl rfl (Nat.le_of_ble_eq_true rfl) (zz_hR (Nat.le_of_ble_eq_true rfl) (Nat.le_of_ble_eq_true rfl)) ?_
            refine zz_iast 183 C sr_13 dX5_findCut_182 rfl hi47 ?_
            refine zz_goto 39 C dX5_findCut_183 rfl ?_
            exact zz_sub [1, 0] rfl (ih _ _ hf hex)
        · refine zz_aload_n 68 C dX5_findCut_67 rfl 1 rfl ?_
          refine zz_iload_n 69 C dX5_findCut_68 rfl 0 rfl ?_
          refine zz_putI 72 C dX5_findCut_69 rfl fl_X5_117 fs_X5_19 rfl rfl sr_0 rfl ?_
          refine zz_iconst 73 C dX5_findCut_72 rfl zz_i0 ?_
          refine zz_istore_n (L' := [(3, .int 0), (2, .int r14), (0, .ref (ad 0)), (1, .int v1)]) 74 C dX5_findCut_73 rfl (Nat.le_of_ble_eq_true rfl) rfl ?_
          obtain ⟨w51, M52, hc53, hf⟩ := zz_b2E hf
          refine zz_sub [2, 3, 1, 0] rfl (l_X5_findCut_74 C  hc53 ?_)
          refine zz_aload_n 101 C dX5_findCut_100 rfl 0 rfl ?_
          refine zz_getI 104 C dX5_findCut_101 rfl fl_X5_64 sr_0 rfl ?_
          refine zz_iconst 105 C dX5_findCut_104 rfl zz_i1 ?_
          refine zz_isub 106 C dX5_findCut_105 rfl ?_
          refine zz_istore_n (L' := [(3, .int ((M52 0 0) - 1)), (0, .ref (ad 0)), (1, .int v1), (2, .int r14)]) 107 C dX5_findCut_106 rfl (Nat.le_of_ble_eq_true rfl) rfl ?_
          obtain ⟨w54, M55, hc56, hf⟩ := zz_b2E hf
          refine zz_sub [1, 2, 3, 0] rfl (l_X5_findCut_107 C  hc56 ?_)
          refine zz_iload_n 153 C dX5_findCut_152 rfl 3 rfl ?_
          refine zz_if_lt 156 160 C dX5_findCut_153 rfl rfl hf (fun h57 hf => ?_) (fun h57 hf => ?_)
          · refine zz_iconst 161 C dX5_findCut_160 rfl zz_i0 ?_
            refine zz_istore_n (L' := [(1, .int 0), (0, .ref (ad 0)), (2, .int r14), (3, .int w54)]) 162 C dX5_findCut_161 rfl (Nat.le_of_ble_eq_true rfl) rfl ?_
            refine zz_iload_n 163 C dX5_findCut_162 rfl 0 rfl ?_
            refine zz_if_eqT 183 C dX5_findCut_163 rfl (by decide) ?_
            refine zz_goto 39 C dX5_findCut_183 rfl ?_
            exact zz_sub [1, 0] rfl (ih _ _ hf hex)
          · refine zz_iconst 157 C dX5_findCut_156 rfl zz_i1 ?_
            refine zz_goto 161 C dX5_findCut_157 rfl ?_
            refine zz_istore_n (L' := [(1, .int 1), (0, .ref (ad 0)), (2, .int r14), (3, .int w54)]) 162 C dX5_findCut_161 rfl (Nat.le_of_ble_eq_true rfl) rfl ?_
            refine zz_iload_n 163 C dX5_findCut_162 rfl 0 rfl ?_
            refine zz_if_eqF 166 183 C dX5_findCut_163 rfl rfl (by decide) ?_
            refine zz_aload_n 167 C dX5_findCut_166 rfl 1 rfl ?_
            refine zz_getR 170 C dX5_findCut_167 rfl fl_X5_46 sr_0 rfl ?_
            refine zz_iload_n 171 C dX5_findCut_170 rfl 3 rfl ?_
            refine zz_aload_n 172 C dX5_findCut_171 rfl 1 rfl ?_
            refine zz_iload_n 173 C dX5_findCut_172 rfl 3 rfl ?_
            refine zz_aload_n 174 C dX5_findCut_173 rfl 1 rfl ?_
            refine zz_getR 177 C dX5_findCut_174 rfl fl_X5_46 sr_0 rfl ?_
            refine zz_iload_n 178 C dX5_findCut_177 rfl 3 rfl ?_
            obtain ⟨hi58, hf⟩ := zz_chk hf
            refine zz_iald 179 C sr_13 dX5_findCut_178 rfl hi58 ?_
            obtain ⟨r61, M60, hc59, hf⟩ := zz_b2E hf
            refine zz_callV 182 [.int w54, .int (M55 13 w54.toNatClampNeg)] C dX5_findCut_179 rfl ml_X5_114 (k_X5_nextTake hc59) sr_0 (vC := vwCl[5]) rfl rfl rfl rfl rfl (Nat.le_of_ble_eq_true rfl) (zz_hR (Nat.le_of_ble_eq_true rfl) (Nat.le_of_ble_eq_true rfl)) ?_
            refine zz_iast 183 C sr_13 dX5_findCut_182 rfl hi58 ?_
            refine zz_goto 39 C dX5_findCut_183 rfl ?_
            exact zz_sub [1, 0] rfl (ih _ _ hf hex)
def f_X5_findCut (M : zz_Mem) : Option (zz_Mem) := zz_b1 (f_X5_findNoises M) (fun M2 => zz_b2 (f_X5_findCut_6 5000 0 M2) (fun w8 M9 => zz_b2 (f_X5_findCut_39 5000 1 (zz_up M9 0 19 (-1))) (fun w62 M63 => some M63)))
set_option maxHeartbeats 4000000 in
set_option maxRecDepth 100000 in
theorem k_X5_findCut {l : Launch} {D : va_G} {cI : ClassId} {ad : Nat → Nat} {M M1 : zz_Mem} (hf : f_X5_findCut M = some M1) : zz_K l D zz_SR cI ad 5 yX5_findCut cX5_findCut 4 none [.ref (ad 0)] M none M1 := by
  unfold f_X5_findCut at hf
  refine zz_entry (own := RX5) (L := [(0, .ref (ad 0))]) (by decide +kernel) rfl (Nat.le_of_ble_eq_true rfl) rfl (fun p e s m args below meth c C => ?_)
  refine zz_aload_n 1 C dX5_findCut_0 rfl 0 rfl ?_
  obtain ⟨M2, hc1, hf⟩ := zz_b1E hf
  refine zz_callV 4 [] C dX5_findCut_1 rfl ml_X5_111 (k_X5_findNoises hc1) sr_0 (vC := vwCl[5]) rfl rfl rfl rfl rfl (Nat.le_of_ble_eq_true rfl) (zz_hR (Nat.le_of_ble_eq_true rfl) (Nat.le_of_ble_eq_true rfl)) ?_
  refine zz_iconst 5 C dX5_findCut_4 rfl zz_i0 ?_
  refine zz_istore_n (L' := [(1, .int 0), (0, .ref (ad 0))]) 6 C dX5_findCut_5 rfl (Nat.le_of_ble_eq_true rfl) rfl ?_
  obtain ⟨w8, M9, hc10, hf⟩ := zz_b2E hf
  refine zz_sub [1, 0] rfl (l_X5_findCut_6 C  hc10 ?_)
  refine zz_aload_n 33 C dX5_findCut_32 rfl 0 rfl ?_
  refine zz_iconst 34 C dX5_findCut_33 rfl zz_im1 ?_
  refine zz_putI 37 C dX5_findCut_34 rfl fl_X5_117 fs_X5_19 rfl rfl sr_0 rfl ?_
  refine zz_iconst 38 C dX5_findCut_37 rfl zz_i1 ?_
  refine zz_istore_n (L' := [(1, .int 1), (0, .ref (ad 0))]) 39 C dX5_findCut_38 rfl (Nat.le_of_ble_eq_true rfl) rfl ?_
  obtain ⟨w62, M63, hc64, hf⟩ := zz_b2E hf
  refine zz_sub [1, 0] rfl (l_X5_findCut_39 C  hc64 ?_)
  cases hf
  exact zz_vret C dX5_findCut_186 rfl rfl
def f_X5_cost (M : zz_Mem) : Option (Int32 × zz_Mem) := zz_b1 (f_X5_findCut M) (fun M2 => some (M2 0 19, M2))
set_option maxHeartbeats 4000000 in
set_option maxRecDepth 100000 in
theorem k_X5_cost {l : Launch} {D : va_G} {cI : ClassId} {ad : Nat → Nat} {r : Int32} {M M1 : zz_Mem} (hf : f_X5_cost M = some (r, M1)) : zz_K l D zz_SR cI ad 6 yX5_cost cX5_cost 1 (some .int) [.ref (ad 0)] M (some (.int r)) M1 := by
  unfold f_X5_cost at hf
  refine zz_entry (own := RX5) (L := [(0, .ref (ad 0))]) (by decide +kernel) rfl (Nat.le_of_ble_eq_true rfl) rfl (fun p e s m args below meth c C => ?_)
  refine zz_aload_n 1 C dX5_cost_0 rfl 0 rfl ?_
  obtain ⟨M2, hc1, hf⟩ := zz_b1E hf
  refine zz_callV 4 [] C dX5_cost_1 rfl ml_X5_124 (k_X5_findCut hc1) sr_0 (vC := vwCl[5]) rfl rfl rfl rfl rfl (Nat.le_of_ble_eq_true rfl) (zz_hR (Nat.le_of_ble_eq_true rfl) (Nat.le_of_ble_eq_true rfl)) ?_
  refine zz_aload_n 5 C dX5_cost_4 rfl 0 rfl ?_
  refine zz_getI 8 C dX5_cost_5 rfl fl_X5_117 sr_0 rfl ?_
  cases hf
  exact zz_iret C dX5_cost_8 rfl rfl
def f_X5_cut (a1 : Int32) (M : zz_Mem) : Option (Int32 × zz_Mem) := zz_b2 (f_X5_isScene a1 M) (fun r3 M2 => (if r3 = 0 then some ((-1), M2) else zz_b1 (f_X5_findCut M2) (fun M6 => (if zz_in a1 6 then (if 0 ≤ (M6 14 a1.toNatClampNeg) then some (M6 14 a1.toNatClampNeg, M6) else some ((-4), M6)) else none))))
set_option maxHeartbeats 4000000 in
set_option maxRecDepth 100000 in
theorem k_X5_cut {l : Launch} {D : va_G} {cI : ClassId} {ad : Nat → Nat} {a1 : Int32} {r : Int32} {M M1 : zz_Mem} (hf : f_X5_cut a1 M = some (r, M1)) : zz_K l D zz_SR cI ad 6 yX5_cut cX5_cut 2 (some .int) [.ref (ad 0), .int a1] M (some (.int r)) M1 := by
  unfold f_X5_cut at hf
  refine zz_entry (own := RX5) (L := [(0, .ref (ad 0)), (1, .int a1)]) (by decide +kernel) rfl (Nat.le_of_ble_eq_true rfl) rfl (fun p e s m args below meth c C => ?_)
  refine zz_aload_n 1 C dX5_cut_0 rfl 0 rfl ?_
  refine zz_iload_n 2 C dX5_cut_1 rfl 1 rfl ?_
  obtain ⟨r3, M2, hc1, hf⟩ := zz_b2E hf
  refine zz_callV 5 [.int a1] C dX5_cut_2 rfl ml_X5_78 (k_X5_isScene hc1) sr_0 (vC := vwCl[5]) rfl rfl rfl rfl rfl (Nat.le_of_ble_eq_true rfl) (zz_hR (Nat.le_of_ble_eq_true rfl) (Nat.le_of_ble_eq_true rfl)) ?_
  refine zz_if_ne 8 10 C dX5_cut_5 rfl rfl hf (fun h4 hf => ?_) (fun h4 hf => ?_)
  · refine zz_aload_n 11 C dX5_cut_10 rfl 0 rfl ?_
    obtain ⟨M6, hc5, hf⟩ := zz_b1E hf
    refine zz_callV 14 [] C dX5_cut_11 rfl ml_X5_124 (k_X5_findCut hc5) sr_0 (vC := vwCl[5]) rfl rfl rfl rfl rfl (Nat.le_of_ble_eq_true rfl) (zz_hR (Nat.le_of_ble_eq_true rfl) (Nat.le_of_ble_eq_true rfl)) ?_
    refine zz_aload_n 15 C dX5_cut_14 rfl 0 rfl ?_
    refine zz_getR 18 C dX5_cut_15 rfl fl_X5_49 sr_0 rfl ?_
    refine zz_iload_n 19 C dX5_cut_18 rfl 1 rfl ?_
    obtain ⟨hi7, hf⟩ := zz_chk hf
    refine zz_iald 20 C sr_14 dX5_cut_19 rfl hi7 ?_
    refine zz_if_ge 23 28 C dX5_cut_20 rfl rfl hf (fun h8 hf => ?_) (fun h8 hf => ?_)
    · refine zz_aload_n 29 C dX5_cut_28 rfl 0 rfl ?_
      refine zz_getR 32 C dX5_cut_29 rfl fl_X5_49 sr_0 rfl ?_
      refine zz_iload_n 33 C dX5_cut_32 rfl 1 rfl ?_
      refine zz_iald 34 C sr_14 dX5_cut_33 rfl hi7 ?_
      cases hf
      exact zz_iret C dX5_cut_34 rfl rfl
    · refine zz_bipush 25 C dX5_cut_23 rfl zz_bpm4 ?_
      refine zz_goto 34 C dX5_cut_25 rfl ?_
      cases hf
      exact zz_iret C dX5_cut_34 rfl rfl
  · refine zz_iconst 9 C dX5_cut_8 rfl zz_im1 ?_
    cases hf
    exact zz_iret C dX5_cut_9 rfl rfl
def f_X5_choose (a1 a2 : Int32) (M : zz_Mem) : Option (Int32 × zz_Mem) := zz_b2 (f_X5_isScene a1 M) (fun r3 M2 => (if r3 = 0 then some ((-5), M2) else zz_b2 (f_X5_in a2 (-1) ((M2 0 8) - 1) M2) (fun r7 M6 => (if r7 = 0 then some ((-5), M6) else (if a2 < 0 then (if zz_in a1 6 then some (M6 3 a1.toNatClampNeg, zz_up M6 3 a1.toNatClampNeg a2) else none) else (if zz_in a2 16 then (if (M6 7 a2.toNatClampNeg) = a1 then (if zz_in a1 6 then some (M6 3 a1.toNatClampNeg, zz_up M6 3 a1.toNatClampNeg a2) else none) else some ((-3), M6)) else none))))))
set_option maxHeartbeats 4000000 in
set_option maxRecDepth 100000 in
theorem k_X5_choose {l : Launch} {D : va_G} {cI : ClassId} {ad : Nat → Nat} {a1 a2 : Int32} {r : Int32} {M M1 : zz_Mem} (hf : f_X5_choose a1 a2 M = some (r, M1)) : zz_K l D zz_SR cI ad 2 yX5_choose cX5_choose 4 (some .int) [.ref (ad 0), .int a1, .int a2] M (some (.int r)) M1 := by
  unfold f_X5_choose at hf
  refine zz_entry (own := RX5) (L := [(0, .ref (ad 0)), (1, .int a1), (2, .int a2)]) (by decide +kernel) rfl (Nat.le_of_ble_eq_true rfl) rfl (fun p e s m args below meth c C => ?_)
  refine zz_aload_n 1 C dX5_choose_0 rfl 0 rfl ?_
  refine zz_iload_n 2 C dX5_choose_1 rfl 1 rfl ?_
  obtain ⟨r3, M2, hc1, hf⟩ := zz_b2E hf
  refine zz_callV 5 [.int a1] C dX5_choose_2 rfl ml_X5_78 (k_X5_isScene hc1) sr_0 (vC := vwCl[5]) rfl rfl rfl rfl rfl (Nat.le_of_ble_eq_true rfl) (zz_hR (Nat.le_of_ble_eq_true rfl) (Nat.le_of_ble_eq_true rfl)) ?_
  refine zz_if_eq 8 22 C dX5_choose_5 rfl rfl hf (fun h4 hf => ?_) (fun h4 hf => ?_)
  · refine zz_bipush 24 C dX5_choose_22 rfl zz_bpm5 ?_
    cases hf
    exact zz_iret C dX5_choose_24 rfl rfl
  · refine zz_iload_n 9 C dX5_choose_8 rfl 2 rfl ?_
    refine zz_iconst 10 C dX5_choose_9 rfl zz_im1 ?_
    refine zz_aload_n 11 C dX5_choose_10 rfl 0 rfl ?_
    refine zz_getI 14 C dX5_choose_11 rfl fl_X5_75 sr_0 rfl ?_
    refine zz_iconst 15 C dX5_choose_14 rfl zz_i1 ?_
    refine zz_isub 16 C dX5_choose_15 rfl ?_
    obtain ⟨r7, M6, hc5, hf⟩ := zz_b2E hf
    refine zz_callS 19 [.int a2, .int (-1), .int ((M2 0 8) - 1)] C dX5_choose_16 rfl ml_X5_68 (k_X5_in hc5) rfl rfl rfl (Nat.le_of_ble_eq_true rfl) (zz_hR (Nat.le_of_ble_eq_true rfl) (Nat.le_of_ble_eq_true rfl)) ?_
    refine zz_if_ne 22 25 C dX5_choose_19 rfl rfl hf (fun h8 hf => ?_) (fun h8 hf => ?_)
    · refine zz_iload_n 26 C dX5_choose_25 rfl 2 rfl ?_
      refine zz_if_lt 29 42 C dX5_choose_26 rfl rfl hf (fun h9 hf => ?_) (fun h9 hf => ?_)
      · refine zz_aload_n 43 C dX5_choose_42 rfl 0 rfl ?_
        refine zz_getR 46 C dX5_choose_43 rfl fl_X5_16 sr_0 rfl ?_
        refine zz_iload_n 47 C dX5_choose_46 rfl 1 rfl ?_
        obtain ⟨hi10, hf⟩ := zz_chk hf
        refine zz_iald 48 C sr_3 dX5_choose_47 rfl hi10 ?_
        refine zz_istore_n (L' := [(3, .int (M6 3 a1.toNatClampNeg)), (0, .ref (ad 0)), (1, .int a1), (2, .int a2)]) 49 C dX5_choose_48 rfl (Nat.le_of_ble_eq_true rfl) rfl ?_
        refine zz_aload_n 50 C dX5_choose_49 rfl 1 rfl ?_
        refine zz_getR 53 C dX5_choose_50 rfl fl_X5_16 sr_0 rfl ?_
        refine zz_iload_n 54 C dX5_choose_53 rfl 2 rfl ?_
        refine zz_iload_n 55 C dX5_choose_54 rfl 3 rfl ?_
        refine zz_iast 56 C sr_3 dX5_choose_55 rfl hi10 ?_
        refine zz_iload_n 57 C dX5_choose_56 rfl 0 rfl ?_
        cases hf
        exact zz_iret C dX5_choose_57 rfl rfl
      · refine zz_aload_n 30 C dX5_choose_29 rfl 0 rfl ?_
        refine zz_getR 33 C dX5_choose_30 rfl fl_X5_28 sr_0 rfl ?_
        refine zz_iload_n 34 C dX5_choose_33 rfl 2 rfl ?_
        obtain ⟨hi11, hf⟩ := zz_chk hf
        refine zz_iald 35 C sr_7 dX5_choose_34 rfl hi11 ?_
        refine zz_iload_n 36 C dX5_choose_35 rfl 1 rfl ?_
        refine zz_icmp_eq 39 42 C dX5_choose_36 rfl rfl hf (fun h12 hf => ?_) (fun h12 hf => ?_)
        · refine zz_aload_n 43 C dX5_choose_42 rfl 0 rfl ?_
          refine zz_getR 46 C dX5_choose_43 rfl fl_X5_16 sr_0 rfl ?_
          refine zz_iload_n 47 C dX5_choose_46 rfl 1 rfl ?_
          obtain ⟨hi13, hf⟩ := zz_chk hf
          refine zz_iald 48 C sr_3 dX5_choose_47 rfl hi13 ?_
          refine zz_istore_n (L' := [(3, .int (M6 3 a1.toNatClampNeg)), (0, .ref (ad 0)), (1, .int a1), (2, .int a2)]) 49 C dX5_choose_48 rfl (Nat.le_of_ble_eq_true rfl) rfl ?_
          refine zz_aload_n 50 C dX5_choose_49 rfl 1 rfl ?_
          refine zz_getR 53 C dX5_choose_50 rfl fl_X5_16 sr_0 rfl ?_
          refine zz_iload_n 54 C dX5_choose_53 rfl 2 rfl ?_
          refine zz_iload_n 55 C dX5_choose_54 rfl 3 rfl ?_
          refine zz_iast 56 C sr_3 dX5_choose_55 rfl hi13 ?_
          refine zz_iload_n 57 C dX5_choose_56 rfl 0 rfl ?_
          cases hf
          exact zz_iret C dX5_choose_57 rfl rfl
        · refine zz_bipush 41 C dX5_choose_39 rfl zz_bpm3 ?_
          cases hf
          exact zz_iret C dX5_choose_41 rfl rfl
    · refine zz_bipush 24 C dX5_choose_22 rfl zz_bpm5 ?_
      cases hf
      exact zz_iret C dX5_choose_24 rfl rfl
def f_X5_adopt_8 : Nat → Int32 → Int32 → zz_Mem → Option (Int32 × Int32 × zz_Mem)
  | 0, _, _, _ => none
  | n + 1, v1, v2, M => (if (M 0 0) ≤ v2 then some (v1, v2, M) else (if zz_in v2 6 then (if (M 3 v2.toNatClampNeg) = (M 14 v2.toNatClampNeg) then f_X5_adopt_8 n (v1 + 0) (v2 + 1) (zz_up M 3 v2.toNatClampNeg (M 14 v2.toNatClampNeg)) else f_X5_adopt_8 n (v1 + 1) (v2 + 1) (zz_up M 3 v2.toNatClampNeg (M 14 v2.toNatClampNeg))) else none))
set_option maxHeartbeats 4000000 in
set_option maxRecDepth 100000 in
theorem l_X5_adopt_8 {p : Program} {l : Launch} {e : Env} {s : State} {m : MethodId} {args : Array Value} {below : List Frame} {meth : Method} {c : Code} {D : va_G} {cI : ClassId} {ad : Nat → Nat} {w : Option Value} {Mf : zz_Mem} (C : zz_C p (zz_rm 6) s m args meth c D cI RX5 cX5_adopt 3 (some .int) 0 0) {w1 w2 : Int32} {M1 : zz_Mem} : ∀ {n : Nat} {v1 v2 : Int32} {M : zz_Mem}, f_X5_adopt_8 n v1 v2 M = some (w1, w2, M1) → zz_V p l e (zz_rm 6) s m args below meth c D zz_SR cI ad (zz_A zz_SR ad) 3 0 0 (MQ below (zz_Q D zz_SR cI ad w Mf) args s 0 0 (zz_A zz_SR ad)) 57 [(0, .ref (ad 0)), (1, .int w1), (2, .int w2)] [] M1 → zz_V p l e (zz_rm 6) s m args below meth c D zz_SR cI ad (zz_A zz_SR ad) 3 0 0 (MQ below (zz_Q D zz_SR cI ad w Mf) args s 0 0 (zz_A zz_SR ad)) 8 [(0, .ref (ad 0)), (1, .int v1), (2, .int v2)] [] M := by
  intro n
  induction n with
  | zero =>
    intro v1 v2 M hf
    simp [f_X5_adopt_8] at hf
  | succ n ih0 =>
    intro v1 v2 M hf hex
    have ih := fun v1 v2 M hf => @ih0 v1 v2 M hf
    rw [f_X5_adopt_8] at hf
    refine zz_iload_n 9 C dX5_adopt_8 rfl 2 rfl ?_
    refine zz_aload_n 10 C dX5_adopt_9 rfl 0 rfl ?_
    refine zz_getI 13 C dX5_adopt_10 rfl fl_X5_64 sr_0 rfl ?_
    refine zz_icmp_ge 16 57 C dX5_adopt_13 rfl rfl hf (fun h3 hf => ?_) (fun h3 hf => ?_)
    · cases hf
      exact zz_sub [0, 1, 2] rfl hex
    · refine zz_iload_n 17 C dX5_adopt_16 rfl 1 rfl ?_
      refine zz_aload_n 18 C dX5_adopt_17 rfl 0 rfl ?_
      refine zz_getR 21 C dX5_adopt_18 rfl fl_X5_16 sr_0 rfl ?_
      refine zz_iload_n 22 C dX5_adopt_21 rfl 2 rfl ?_
      obtain ⟨hi4, hf⟩ := zz_chk hf
      refine zz_iald 23 C sr_3 dX5_adopt_22 rfl hi4 ?_
      refine zz_aload_n 24 C dX5_adopt_23 rfl 0 rfl ?_
      refine zz_getR 27 C dX5_adopt_24 rfl fl_X5_49 sr_0 rfl ?_
      refine zz_iload_n 28 C dX5_adopt_27 rfl 2 rfl ?_
      refine zz_iald 29 C sr_14 dX5_adopt_28 rfl hi4 ?_
      refine zz_icmp_eq 32 36 C dX5_adopt_29 rfl rfl hf (fun h5 hf => ?_) (fun h5 hf => ?_)
      · refine zz_iconst 37 C dX5_adopt_36 rfl zz_i0 ?_
        refine zz_iadd 38 C dX5_adopt_37 rfl ?_
        refine zz_istore_n (L' := [(1, .int (v1 + 0)), (0, .ref (ad 0)), (2, .int v2)]) 39 C dX5_adopt_38 rfl (Nat.le_of_ble_eq_true rfl) rfl ?_
        refine zz_aload_n 40 C dX5_adopt_39 rfl 1 rfl ?_
        refine zz_getR 43 C dX5_adopt_40 rfl fl_X5_16 sr_0 rfl ?_
        refine zz_iload_n 44 C dX5_adopt_43 rfl 2 rfl ?_
        refine zz_aload_n 45 C dX5_adopt_44 rfl 1 rfl ?_
        refine zz_getR 48 C dX5_adopt_45 rfl fl_X5_49 sr_0 rfl ?_
        refine zz_iload_n 49 C dX5_adopt_48 rfl 2 rfl ?_
        refine zz_iald 50 C sr_14 dX5_adopt_49 rfl hi4 ?_
        refine zz_iast 51 C sr_3 dX5_adopt_50 rfl hi4 ?_
        refine zz_iinc (L' := [(2, .int (v2 + 1)), (1, .int (v1 + 0)), (0, .ref (ad 0))]) 54 C dX5_adopt_51 rfl zz_i1 2 rfl (Nat.le_of_ble_eq_true rfl) rfl ?_
        refine zz_goto 8 C dX5_adopt_54 rfl ?_
        exact zz_sub [2, 1, 0] rfl (ih _ _ _ hf hex)
      · refine zz_iconst 33 C dX5_adopt_32 rfl zz_i1 ?_
        refine zz_goto 37 C dX5_adopt_33 rfl ?_
        refine zz_iadd 38 C dX5_adopt_37 rfl ?_
        refine zz_istore_n (L' := [(1, .int (v1 + 1)), (0, .ref (ad 0)), (2, .int v2)]) 39 C dX5_adopt_38 rfl (Nat.le_of_ble_eq_true rfl) rfl ?_
        refine zz_aload_n 40 C dX5_adopt_39 rfl 1 rfl ?_
        refine zz_getR 43 C dX5_adopt_40 rfl fl_X5_16 sr_0 rfl ?_
        refine zz_iload_n 44 C dX5_adopt_43 rfl 2 rfl ?_
        refine zz_aload_n 45 C dX5_adopt_44 rfl 1 rfl ?_
        refine zz_getR 48 C dX5_adopt_45 rfl fl_X5_49 sr_0 rfl ?_
        refine zz_iload_n 49 C dX5_adopt_48 rfl 2 rfl ?_
        refine zz_iald 50 C sr_14 dX5_adopt_49 rfl hi4 ?_
        refine zz_iast 51 C sr_3 dX5_adopt_50 rfl hi4 ?_
        refine zz_iinc (L' := [(2, .int (v2 + 1)), (1, .int (v1 + 1)), (0, .ref (ad 0))]) 54 C dX5_adopt_51 rfl zz_i1 2 rfl (Nat.le_of_ble_eq_true rfl) rfl ?_
        refine zz_goto 8 C dX5_adopt_54 rfl ?_
        exact zz_sub [2, 1, 0] rfl (ih _ _ _ hf hex)
def f_X5_adopt (M : zz_Mem) : Option (Int32 × zz_Mem) := zz_b1 (f_X5_findCut M) (fun M2 => zz_b3 (f_X5_adopt_8 5000 0 0 M2) (fun w6 w7 M8 => some (w6, M8)))
set_option maxHeartbeats 4000000 in
set_option maxRecDepth 100000 in
theorem k_X5_adopt {l : Launch} {D : va_G} {cI : ClassId} {ad : Nat → Nat} {r : Int32} {M M1 : zz_Mem} (hf : f_X5_adopt M = some (r, M1)) : zz_K l D zz_SR cI ad 6 yX5_adopt cX5_adopt 3 (some .int) [.ref (ad 0)] M (some (.int r)) M1 := by
  unfold f_X5_adopt at hf
  refine zz_entry (own := RX5) (L := [(0, .ref (ad 0))]) (by decide +kernel) rfl (Nat.le_of_ble_eq_true rfl) rfl (fun p e s m args below meth c C => ?_)
  refine zz_aload_n 1 C dX5_adopt_0 rfl 0 rfl ?_
  obtain ⟨M2, hc1, hf⟩ := zz_b1E hf
  refine zz_callV 4 [] C dX5_adopt_1 rfl ml_X5_124 (k_X5_findCut hc1) sr_0 (vC := vwCl[5]) rfl rfl rfl rfl rfl (Nat.le_of_ble_eq_true rfl) (zz_hR (Nat.le_of_ble_eq_true rfl) (Nat.le_of_ble_eq_true rfl)) ?_
  refine zz_iconst 5 C dX5_adopt_4 rfl zz_i0 ?_
  refine zz_istore_n (L' := [(1, .int 0), (0, .ref (ad 0))]) 6 C dX5_adopt_5 rfl (Nat.le_of_ble_eq_true rfl) rfl ?_
  refine zz_iconst 7 C dX5_adopt_6 rfl zz_i0 ?_
  refine zz_istore_n (L' := [(2, .int 0), (1, .int 0), (0, .ref (ad 0))]) 8 C dX5_adopt_7 rfl (Nat.le_of_ble_eq_true rfl) rfl ?_
  obtain ⟨w6, w7, M8, hc9, hf⟩ := zz_b3E hf
  refine zz_sub [2, 1, 0] rfl (l_X5_adopt_8 C  hc9 ?_)
  refine zz_iload_n 58 C dX5_adopt_57 rfl 1 rfl ?_
  cases hf
  exact zz_iret C dX5_adopt_58 rfl rfl
def f_X5_chosen (M : zz_Mem) : Option (Int32 × zz_Mem) := zz_b1 (f_X5_findNoises M) (fun M2 => zz_b2 (f_X5_costOf 3 6 M2) (fun r5 M4 => some (r5, M4)))
set_option maxHeartbeats 4000000 in
set_option maxRecDepth 100000 in
theorem k_X5_chosen {l : Launch} {D : va_G} {cI : ClassId} {ad : Nat → Nat} {r : Int32} {M M1 : zz_Mem} (hf : f_X5_chosen M = some (r, M1)) : zz_K l D zz_SR cI ad 5 yX5_chosen cX5_chosen 1 (some .int) [.ref (ad 0)] M (some (.int r)) M1 := by
  unfold f_X5_chosen at hf
  refine zz_entry (own := RX5) (L := [(0, .ref (ad 0))]) (by decide +kernel) rfl (Nat.le_of_ble_eq_true rfl) rfl (fun p e s m args below meth c C => ?_)
  refine zz_aload_n 1 C dX5_chosen_0 rfl 0 rfl ?_
  obtain ⟨M2, hc1, hf⟩ := zz_b1E hf
  refine zz_callV 4 [] C dX5_chosen_1 rfl ml_X5_111 (k_X5_findNoises hc1) sr_0 (vC := vwCl[5]) rfl rfl rfl rfl rfl (Nat.le_of_ble_eq_true rfl) (zz_hR (Nat.le_of_ble_eq_true rfl) (Nat.le_of_ble_eq_true rfl)) ?_
  refine zz_aload_n 5 C dX5_chosen_4 rfl 0 rfl ?_
  refine zz_aload_n 6 C dX5_chosen_5 rfl 0 rfl ?_
  refine zz_getR 9 C dX5_chosen_6 rfl fl_X5_16 sr_0 rfl ?_
  obtain ⟨r5, M4, hc3, hf⟩ := zz_b2E hf
  refine zz_callV 12 [.ref (ad 3)] C dX5_chosen_9 rfl ml_X5_120 (k_X5_costOf (hka := sr_3) hc3) sr_0 (vC := vwCl[5]) rfl rfl rfl rfl rfl (Nat.le_of_ble_eq_true rfl) (zz_hR (Nat.le_of_ble_eq_true rfl) (Nat.le_of_ble_eq_true rfl)) ?_
  cases hf
  exact zz_iret C dX5_chosen_12 rfl rfl
def f_X5_maySee_6 (x1 x2 x3 : Int32) : Nat → Int32 → Int32 → zz_Mem → Option (Int32 × Int32 × zz_Mem)
  | 0, _, _, _ => none
  | n + 1, v4, v5, M => (if (M 0 0) ≤ v5 then some (v4, v5, M) else (if v4 = 0 then f_X5_maySee_6 x1 x2 x3 n 0 (v5 + 1) M else (if zz_in v5 6 then (if (M 3 v5.toNatClampNeg) < 0 then f_X5_maySee_6 x1 x2 x3 n 1 (v5 + 1) M else (if zz_in ((6 * (M 3 v5.toNatClampNeg)) + x2) 96 then zz_b2 (f_X5_quarrels x2 x1 x3 v5 (M 9 (((6 * (M 3 v5.toNatClampNeg)) + x2).toNatClampNeg)) M) (fun r8 M7 => (if r8 = 0 then f_X5_maySee_6 x1 x2 x3 n 1 (v5 + 1) M7 else f_X5_maySee_6 x1 x2 x3 n 0 (v5 + 1) M7)) else none)) else none)))
set_option maxHeartbeats 4000000 in
set_option maxRecDepth 100000 in
theorem l_X5_maySee_6 {p : Program} {l : Launch} {e : Env} {s : State} {m : MethodId} {args : Array Value} {below : List Frame} {meth : Method} {c : Code} {D : va_G} {cI : ClassId} {ad : Nat → Nat} {x1 x2 x3 : Int32} {w : Option Value} {Mf : zz_Mem} (C : zz_C p (zz_rm 2) s m args meth c D cI RX5 cX5_maySee 6 (some .boolean) 0 0) {w4 w5 : Int32} {M1 : zz_Mem} : ∀ {n : Nat} {v4 v5 : Int32} {M : zz_Mem}, f_X5_maySee_6 x1 x2 x3 n v4 v5 M = some (w4, w5, M1) → zz_V p l e (zz_rm 2) s m args below meth c D zz_SR cI ad (zz_A zz_SR ad) 6 0 0 (MQ below (zz_Q D zz_SR cI ad w Mf) args s 0 0 (zz_A zz_SR ad)) 72 [(0, .ref (ad 0)), (1, .int x1), (2, .int x2), (3, .int x3), (4, .int w4), (5, .int w5)] [] M1 → zz_V p l e (zz_rm 2) s m args below meth c D zz_SR cI ad (zz_A zz_SR ad) 6 0 0 (MQ below (zz_Q D zz_SR cI ad w Mf) args s 0 0 (zz_A zz_SR ad)) 6 [(0, .ref (ad 0)), (1, .int x1), (2, .int x2), (3, .int x3), (4, .int v4), (5, .int v5)] [] M := by
  intro n
  induction n with
  | zero =>
    intro v4 v5 M hf
    simp [f_X5_maySee_6] at hf
  | succ n ih0 =>
    intro v4 v5 M hf hex
    have ih := fun v4 v5 M hf => @ih0 v4 v5 M hf
    rw [f_X5_maySee_6] at hf
    refine zz_iload 8 C dX5_maySee_6 rfl 5 rfl ?_
    refine zz_aload_n 9 C dX5_maySee_8 rfl 0 rfl ?_
    refine zz_getI 12 C dX5_maySee_9 rfl fl_X5_64 sr_0 rfl ?_
    refine zz_icmp_ge 15 72 C dX5_maySee_12 rfl rfl hf (fun h1 hf => ?_) (fun h1 hf => ?_)
    · cases hf
      exact zz_sub [0, 1, 2, 3, 4, 5] rfl hex
    · refine zz_iload 17 C dX5_maySee_15 rfl 4 rfl ?_
      refine zz_if_eq 20 63 C dX5_maySee_17 rfl rfl hf (fun h2 hf => ?_) (fun h2 hf => ?_)
      · refine zz_iconst 64 C dX5_maySee_63 rfl zz_i0 ?_
        refine zz_istore (L' := [(4, .int 0), (0, .ref (ad 0)), (1, .int x1), (2, .int x2), (3, .int x3), (5, .int v5)]) 66 C dX5_maySee_64 rfl (Nat.le_of_ble_eq_true rfl) rfl ?_
        refine zz_iinc (L' := [(5, .int (v5 + 1)), (4, .int 0), (0, .ref (ad 0)), (1, .int x1), (2, .int x2), (3, .int x3)]) 69 C dX5_maySee_66 rfl zz_i1 5 rfl (Nat.le_of_ble_eq_true rfl) rfl ?_
        refine zz_goto 6 C dX5_maySee_69 rfl ?_
        exact zz_sub [2, 3, 4, 5, 1, 0] rfl (ih _ _ _ hf hex)
      · refine zz_aload_n 21 C dX5_maySee_20 rfl 0 rfl ?_
        refine zz_getR 24 C dX5_maySee_21 rfl fl_X5_16 sr_0 rfl ?_
        refine zz_iload 26 C dX5_maySee_24 rfl 5 rfl ?_
        obtain ⟨hi3, hf⟩ := zz_chk hf
        refine zz_iald 27 C sr_3 dX5_maySee_26 rfl hi3 ?_
        refine zz_if_lt 30 59 C dX5_maySee_27 rfl rfl hf (fun h4 hf => ?_) (fun h4 hf => ?_)
        · refine zz_iconst 60 C dX5_maySee_59 rfl zz_i1 ?_
          refine zz_goto 64 C dX5_maySee_60 rfl ?_
          refine zz_istore (L' := [(4, .int 1), (0, .ref (ad 0)), (1, .int x1), (2, .int x2), (3, .int x3), (5, .int v5)]) 66 C dX5_maySee_64 rfl (Nat.le_of_ble_eq_true rfl) rfl ?_
          refine zz_iinc (L' := [(5, .int (v5 + 1)), (4, .int 1), (0, .ref (ad 0)), (1, .int x1), (2, .int x2), (3, .int x3)]) 69 C dX5_maySee_66 rfl zz_i1 5 rfl (Nat.le_of_ble_eq_true rfl) rfl ?_
          refine zz_goto 6 C dX5_maySee_69 rfl ?_
          exact zz_sub [2, 3, 4, 5, 1, 0] rfl (ih _ _ _ hf hex)
        · refine zz_aload_n 31 C dX5_maySee_30 rfl 0 rfl ?_
          refine zz_iload_n 32 C dX5_maySee_31 rfl 2 rfl ?_
          refine zz_iload_n 33 C dX5_maySee_32 rfl 1 rfl ?_
          refine zz_iload_n 34 C dX5_maySee_33 rfl 3 rfl ?_
          refine zz_iload 36 C dX5_maySee_34 rfl 5 rfl ?_
          refine zz_aload_n 37 C dX5_maySee_36 rfl 0 rfl ?_
          refine zz_getR 40 C dX5_maySee_37 rfl fl_X5_34 sr_0 rfl ?_
          refine zz_bipush 42 C dX5_maySee_40 rfl zz_bp6 ?_
          refine zz_aload_n 43 C dX5_maySee_42 rfl 0 rfl ?_
          refine zz_getR 46 C dX5_maySee_43 rfl fl_X5_16 sr_0 rfl ?_
          refine zz_iload 48 C dX5_maySee_46 rfl 5 rfl ?_
          refine zz_iald 49 C sr_3 dX5_maySee_48 rfl hi3 ?_
          refine zz_imul 50 C dX5_maySee_49 rfl ?_
          refine zz_iload_n 51 C dX5_maySee_50 rfl 2 rfl ?_
          refine zz_iadd 52 C dX5_maySee_51 rfl ?_
          obtain ⟨hi5, hf⟩ := zz_chk hf
          refine zz_iald 53 C sr_9 dX5_maySee_52 rfl hi5 ?_
          obtain ⟨r8, M7, hc6, hf⟩ := zz_b2E hf
          refine zz_callV 56 [.int x2, .int x1, .int x3, .int v5, .int (M 9 (((6 * (M 3 v5.toNatClampNeg)) + x2).toNatClampNeg))] C dX5_maySee_53 rfl ml_X5_100 (k_X5_quarrels hc6) sr_0 (vC := vwCl[5]) rfl rfl rfl rfl rfl (Nat.le_of_ble_eq_true rfl) (zz_hR (Nat.le_of_ble_eq_true rfl) (Nat.le_of_ble_eq_true rfl)) ?_
          refine zz_if_ne 59 63 C dX5_maySee_56 rfl rfl hf (fun h9 hf => ?_) (fun h9 hf => ?_)
          · refine zz_iconst 64 C dX5_maySee_63 rfl zz_i0 ?_
            refine zz_istore (L' := [(4, .int 0), (0, .ref (ad 0)), (1, .int x1), (2, .int x2), (3, .int x3), (5, .int v5)]) 66 C dX5_maySee_64 rfl (Nat.le_of_ble_eq_true rfl) rfl ?_
            refine zz_iinc (L' := [(5, .int (v5 + 1)), (4, .int 0), (0, .ref (ad 0)), (1, .int x1), (2, .int x2), (3, .int x3)]) 69 C dX5_maySee_66 rfl zz_i1 5 rfl (Nat.le_of_ble_eq_true rfl) rfl ?_
            refine zz_goto 6 C dX5_maySee_69 rfl ?_
            exact zz_sub [2, 3, 4, 5, 1, 0] rfl (ih _ _ _ hf hex)
          · refine zz_iconst 60 C dX5_maySee_59 rfl zz_i1 ?_
            refine zz_goto 64 C dX5_maySee_60 rfl ?_
            refine zz_istore (L' := [(4, .int 1), (0, .ref (ad 0)), (1, .int x1), (2, .int x2), (3, .int x3), (5, .int v5)]) 66 C dX5_maySee_64 rfl (Nat.le_of_ble_eq_true rfl) rfl ?_
            refine zz_iinc (L' := [(5, .int (v5 + 1)), (4, .int 1), (0, .ref (ad 0)), (1, .int x1), (2, .int x2), (3, .int x3)]) 69 C dX5_maySee_66 rfl zz_i1 5 rfl (Nat.le_of_ble_eq_true rfl) rfl ?_
            refine zz_goto 6 C dX5_maySee_69 rfl ?_
            exact zz_sub [2, 3, 4, 5, 1, 0] rfl (ih _ _ _ hf hex)
def f_X5_maySee (a1 a2 a3 : Int32) (M : zz_Mem) : Option (Int32 × zz_Mem) := zz_b3 (f_X5_maySee_6 a1 a2 a3 5000 1 0 M) (fun w10 w11 M12 => (if w10 &&& 1 = w10 then some (w10, M12) else none))
set_option maxHeartbeats 4000000 in
set_option maxRecDepth 100000 in
theorem k_X5_maySee {l : Launch} {D : va_G} {cI : ClassId} {ad : Nat → Nat} {a1 a2 a3 : Int32} {r : Int32} {M M1 : zz_Mem} (hf : f_X5_maySee a1 a2 a3 M = some (r, M1)) : zz_K l D zz_SR cI ad 2 yX5_maySee cX5_maySee 6 (some .boolean) [.ref (ad 0), .int a1, .int a2, .int a3] M (some (.int r)) M1 := by
  unfold f_X5_maySee at hf
  refine zz_entry (own := RX5) (L := [(0, .ref (ad 0)), (1, .int a1), (2, .int a2), (3, .int a3)]) (by decide +kernel) rfl (Nat.le_of_ble_eq_true rfl) rfl (fun p e s m args below meth c C => ?_)
  refine zz_iconst 1 C dX5_maySee_0 rfl zz_i1 ?_
  refine zz_istore (L' := [(4, .int 1), (0, .ref (ad 0)), (1, .int a1), (2, .int a2), (3, .int a3)]) 3 C dX5_maySee_1 rfl (Nat.le_of_ble_eq_true rfl) rfl ?_
  refine zz_iconst 4 C dX5_maySee_3 rfl zz_i0 ?_
  refine zz_istore (L' := [(5, .int 0), (4, .int 1), (0, .ref (ad 0)), (1, .int a1), (2, .int a2), (3, .int a3)]) 6 C dX5_maySee_4 rfl (Nat.le_of_ble_eq_true rfl) rfl ?_
  obtain ⟨w10, w11, M12, hc13, hf⟩ := zz_b3E hf
  refine zz_sub [2, 3, 4, 5, 1, 0] rfl (l_X5_maySee_6 C  hc13 ?_)
  refine zz_iload 74 C dX5_maySee_72 rfl 4 rfl ?_
  obtain ⟨hz14, hf⟩ := zz_chk hf
  cases hf
  exact zz_zret C dX5_maySee_74 rfl rfl hz14
def f_X5_findSpan_17 (x1 x2 : Int32) : Nat → Int32 → zz_Mem → Option (Int32 × zz_Mem)
  | 0, _, _ => none
  | n + 1, v3, M => (if 100 ≤ v3 then some (v3, M) else zz_b2 (f_X5_maySee x1 x2 v3 M) (fun r4 M3 => (if r4 = 0 then f_X5_findSpan_17 x1 x2 n (v3 + 1) M3 else (if 0 ≤ (M3 0 20) then f_X5_findSpan_17 x1 x2 n (v3 + 1) (zz_up (zz_up (zz_up M3 0 20 (M3 0 20)) 0 21 v3) 0 22 (((zz_up (zz_up M3 0 20 (M3 0 20)) 0 21 v3) 0 22) + 1)) else f_X5_findSpan_17 x1 x2 n (v3 + 1) (zz_up (zz_up (zz_up M3 0 20 v3) 0 21 v3) 0 22 (((zz_up (zz_up M3 0 20 v3) 0 21 v3) 0 22) + 1))))))
set_option maxHeartbeats 4000000 in
set_option maxRecDepth 100000 in
theorem l_X5_findSpan_17 {p : Program} {l : Launch} {e : Env} {s : State} {m : MethodId} {args : Array Value} {below : List Frame} {meth : Method} {c : Code} {D : va_G} {cI : ClassId} {ad : Nat → Nat} {x1 x2 : Int32} {w : Option Value} {Mf : zz_Mem} (C : zz_C p (zz_rm 3) s m args meth c D cI RX5 cX5_findSpan 4 none 0 0) {w3 : Int32} {M1 : zz_Mem} : ∀ {n : Nat} {v3 : Int32} {M : zz_Mem}, f_X5_findSpan_17 x1 x2 n v3 M = some (w3, M1) → zz_V p l e (zz_rm 3) s m args below meth c D zz_SR cI ad (zz_A zz_SR ad) 4 0 0 (MQ below (zz_Q D zz_SR cI ad w Mf) args s 0 0 (zz_A zz_SR ad)) 73 [(0, .ref (ad 0)), (1, .int x1), (2, .int x2), (3, .int w3)] [] M1 → zz_V p l e (zz_rm 3) s m args below meth c D zz_SR cI ad (zz_A zz_SR ad) 4 0 0 (MQ below (zz_Q D zz_SR cI ad w Mf) args s 0 0 (zz_A zz_SR ad)) 17 [(0, .ref (ad 0)), (1, .int x1), (2, .int x2), (3, .int v3)] [] M := by
  intro n
  induction n with
  | zero =>
    intro v3 M hf
    simp [f_X5_findSpan_17] at hf
  | succ n ih0 =>
    intro v3 M hf hex
    have ih := fun v3 M hf => @ih0 v3 M hf
    rw [f_X5_findSpan_17] at hf
    refine zz_iload_n 18 C dX5_findSpan_17 rfl 3 rfl ?_
    refine zz_bipush 20 C dX5_findSpan_18 rfl zz_bp100 ?_
    refine zz_icmp_ge 23 73 C dX5_findSpan_20 rfl rfl hf (fun h1 hf => ?_) (fun h1 hf => ?_)
    · cases hf
      exact zz_sub [0, 1, 2, 3] rfl hex
    · refine zz_aload_n 24 C dX5_findSpan_23 rfl 0 rfl ?_
      refine zz_iload_n 25 C dX5_findSpan_24 rfl 1 rfl ?_
      refine zz_iload_n 26 C dX5_findSpan_25 rfl 2 rfl ?_
      refine zz_iload_n 27 C dX5_findSpan_26 rfl 3 rfl ?_
      obtain ⟨r4, M3, hc2, hf⟩ := zz_b2E hf
      refine zz_callV 30 [.int x1, .int x2, .int v3] C dX5_findSpan_27 rfl ml_X5_136 (k_X5_maySee hc2) sr_0 (vC := vwCl[5]) rfl rfl rfl rfl rfl (Nat.le_of_ble_eq_true rfl) (zz_hR (Nat.le_of_ble_eq_true rfl) (Nat.le_of_ble_eq_true rfl)) ?_
      refine zz_if_eq 33 67 C dX5_findSpan_30 rfl rfl hf (fun h5 hf => ?_) (fun h5 hf => ?_)
      · refine zz_iinc (L' := [(3, .int (v3 + 1)), (0, .ref (ad 0)), (1, .int x1), (2, .int x2)]) 70 C dX5_findSpan_67 rfl zz_i1 3 rfl (Nat.le_of_ble_eq_true rfl) rfl ?_
        refine zz_goto 17 C dX5_findSpan_70 rfl ?_
        exact zz_sub [1, 2, 3, 0] rfl (ih _ _ hf hex)
      · refine zz_aload_n 34 C dX5_findSpan_33 rfl 0 rfl ?_
        refine zz_aload_n 35 C dX5_findSpan_34 rfl 0 rfl ?_
        refine zz_getI 38 C dX5_findSpan_35 rfl fl_X5_127 sr_0 rfl ?_
        refine zz_if_ge 41 45 C dX5_findSpan_38 rfl rfl hf (fun h6 hf => ?_) (fun h6 hf => ?_)
        · refine zz_aload_n 46 C dX5_findSpan_45 rfl 0 rfl ?_
          refine zz_getI 49 C dX5_findSpan_46 rfl fl_X5_127 sr_0 rfl ?_
          refine zz_putI 52 C dX5_findSpan_49 rfl fl_X5_127 fs_X5_20 rfl rfl sr_0 rfl ?_
          refine zz_aload_n 53 C dX5_findSpan_52 rfl 0 rfl ?_
          refine zz_iload_n 54 C dX5_findSpan_53 rfl 3 rfl ?_
          refine zz_putI 57 C dX5_findSpan_54 rfl fl_X5_130 fs_X5_21 rfl rfl sr_0 rfl ?_
          refine zz_aload_n 58 C dX5_findSpan_57 rfl 0 rfl ?_
          refine zz_dup 59 C dX5_findSpan_58 rfl rfl ?_
          refine zz_getI 62 C dX5_findSpan_59 rfl fl_X5_133 sr_0 rfl ?_
          refine zz_iconst 63 C dX5_findSpan_62 rfl zz_i1 ?_
          refine zz_iadd 64 C dX5_findSpan_63 rfl ?_
          refine zz_putI 67 C dX5_findSpan_64 rfl fl_X5_133 fs_X5_22 rfl rfl sr_0 rfl ?_
          refine zz_iinc (L' := [(3, .int (v3 + 1)), (0, .ref (ad 0)), (1, .int x1), (2, .int x2)]) 70 C dX5_findSpan_67 rfl zz_i1 3 rfl (Nat.le_of_ble_eq_true rfl) rfl ?_
          refine zz_goto 17 C dX5_findSpan_70 rfl ?_
          exact zz_sub [1, 2, 3, 0] rfl (ih _ _ hf hex)
        · refine zz_iload_n 42 C dX5_findSpan_41 rfl 3 rfl ?_
          refine zz_goto 49 C dX5_findSpan_42 rfl ?_
          refine zz_putI 52 C dX5_findSpan_49 rfl fl_X5_127 fs_X5_20 rfl rfl sr_0 rfl ?_
          refine zz_aload_n 53 C dX5_findSpan_52 rfl 0 rfl ?_
          refine zz_iload_n 54 C dX5_findSpan_53 rfl 3 rfl ?_
          refine zz_putI 57 C dX5_findSpan_54 rfl fl_X5_130 fs_X5_21 rfl rfl sr_0 rfl ?_
          refine zz_aload_n 58 C dX5_findSpan_57 rfl 0 rfl ?_
          refine zz_dup 59 C dX5_findSpan_58 rfl rfl ?_
          refine zz_getI 62 C dX5_findSpan_59 rfl fl_X5_133 sr_0 rfl ?_
          refine zz_iconst 63 C dX5_findSpan_62 rfl zz_i1 ?_
          refine zz_iadd 64 C dX5_findSpan_63 rfl ?_
          refine zz_putI 67 C dX5_findSpan_64 rfl fl_X5_133 fs_X5_22 rfl rfl sr_0 rfl ?_
          refine zz_iinc (L' := [(3, .int (v3 + 1)), (0, .ref (ad 0)), (1, .int x1), (2, .int x2)]) 70 C dX5_findSpan_67 rfl zz_i1 3 rfl (Nat.le_of_ble_eq_true rfl) rfl ?_
          refine zz_goto 17 C dX5_findSpan_70 rfl ?_
          exact zz_sub [1, 2, 3, 0] rfl (ih _ _ hf hex)
def f_X5_findSpan (a1 a2 : Int32) (M : zz_Mem) : Option (zz_Mem) := zz_b2 (f_X5_findSpan_17 a1 a2 5000 0 (zz_up (zz_up (zz_up M 0 20 (-1)) 0 21 (-1)) 0 22 0)) (fun w7 M8 => some M8)
set_option maxHeartbeats 4000000 in
set_option maxRecDepth 100000 in
theorem k_X5_findSpan {l : Launch} {D : va_G} {cI : ClassId} {ad : Nat → Nat} {a1 a2 : Int32} {M M1 : zz_Mem} (hf : f_X5_findSpan a1 a2 M = some M1) : zz_K l D zz_SR cI ad 3 yX5_findSpan cX5_findSpan 4 none [.ref (ad 0), .int a1, .int a2] M none M1 := by
  unfold f_X5_findSpan at hf
  refine zz_entry (own := RX5) (L := [(0, .ref (ad 0)), (1, .int a1), (2, .int a2)]) (by decide +kernel) rfl (Nat.le_of_ble_eq_true rfl) rfl (fun p e s m args below meth c C => ?_)
  refine zz_aload_n 1 C dX5_findSpan_0 rfl 0 rfl ?_
  refine zz_iconst 2 C dX5_findSpan_1 rfl zz_im1 ?_
  refine zz_putI 5 C dX5_findSpan_2 rfl fl_X5_127 fs_X5_20 rfl rfl sr_0 rfl ?_
  refine zz_aload_n 6 C dX5_findSpan_5 rfl 0 rfl ?_
  refine zz_iconst 7 C dX5_findSpan_6 rfl zz_im1 ?_
  refine zz_putI 10 C dX5_findSpan_7 rfl fl_X5_130 fs_X5_21 rfl rfl sr_0 rfl ?_
  refine zz_aload_n 11 C dX5_findSpan_10 rfl 0 rfl ?_
  refine zz_iconst 12 C dX5_findSpan_11 rfl zz_i0 ?_
  refine zz_putI 15 C dX5_findSpan_12 rfl fl_X5_133 fs_X5_22 rfl rfl sr_0 rfl ?_
  refine zz_iconst 16 C dX5_findSpan_15 rfl zz_i0 ?_
  refine zz_istore_n (L' := [(3, .int 0), (0, .ref (ad 0)), (1, .int a1), (2, .int a2)]) 17 C dX5_findSpan_16 rfl (Nat.le_of_ble_eq_true rfl) rfl ?_
  obtain ⟨w7, M8, hc9, hf⟩ := zz_b2E hf
  refine zz_sub [1, 2, 3, 0] rfl (l_X5_findSpan_17 C  hc9 ?_)
  cases hf
  exact zz_vret C dX5_findSpan_73 rfl rfl
def f_X5_span (a1 a2 a3 : Int32) (M : zz_Mem) : Option (Int32 × zz_Mem) := zz_b2 (f_X5_isScene a1 M) (fun r3 M2 => (if r3 = 0 then some ((-1), M2) else zz_b2 (f_X5_isThing a2 M2) (fun r7 M6 => (if r7 = 0 then some ((-1), M6) else zz_b2 (f_X5_in a3 0 2 M6) (fun r11 M10 => (if r11 = 0 then some ((-1), M10) else zz_b1 (f_X5_findSpan a1 a2 M10) (fun M14 => (if a3 = 2 then some (M14 0 22, M14) else (if (M14 0 22) = 0 then some ((-4), M14) else (if a3 = 0 then some (M14 0 20, M14) else some (M14 0 21, M14)))))))))))
set_option maxHeartbeats 4000000 in
set_option maxRecDepth 100000 in
theorem k_X5_span {l : Launch} {D : va_G} {cI : ClassId} {ad : Nat → Nat} {a1 a2 a3 : Int32} {r : Int32} {M M1 : zz_Mem} (hf : f_X5_span a1 a2 a3 M = some (r, M1)) : zz_K l D zz_SR cI ad 4 yX5_span cX5_span 4 (some .int) [.ref (ad 0), .int a1, .int a2, .int a3] M (some (.int r)) M1 := by
  unfold f_X5_span at hf
  refine zz_entry (own := RX5) (L := [(0, .ref (ad 0)), (1, .int a1), (2, .int a2), (3, .int a3)]) (by decide +kernel) rfl (Nat.le_of_ble_eq_true rfl) rfl (fun p e s m args below meth c C => ?_)
  refine zz_aload_n 1 C dX5_span_0 rfl 0 rfl ?_
  refine zz_iload_n 2 C dX5_span_1 rfl 1 rfl ?_
  obtain ⟨r3, M2, hc1, hf⟩ := zz_b2E hf
  refine zz_callV 5 [.int a1] C dX5_span_2 rfl ml_X5_78 (k_X5_isScene hc1) sr_0 (vC := vwCl[5]) rfl rfl rfl rfl rfl (Nat.le_of_ble_eq_true rfl) (zz_hR (Nat.le_of_ble_eq_true rfl) (Nat.le_of_ble_eq_true rfl)) ?_
  refine zz_if_eq 8 25 C dX5_span_5 rfl rfl hf (fun h4 hf => ?_) (fun h4 hf => ?_)
  · refine zz_iconst 26 C dX5_span_25 rfl zz_im1 ?_
    cases hf
    exact zz_iret C dX5_span_26 rfl rfl
  · refine zz_aload_n 9 C dX5_span_8 rfl 0 rfl ?_
    refine zz_iload_n 10 C dX5_span_9 rfl 2 rfl ?_
    obtain ⟨r7, M6, hc5, hf⟩ := zz_b2E hf
    refine zz_callV 13 [.int a2] C dX5_span_10 rfl ml_X5_82 (k_X5_isThing hc5) sr_0 (vC := vwCl[5]) rfl rfl rfl rfl rfl (Nat.le_of_ble_eq_true rfl) (zz_hR (Nat.le_of_ble_eq_true rfl) (Nat.le_of_ble_eq_true rfl)) ?_
    refine zz_if_eq 16 25 C dX5_span_13 rfl rfl hf (fun h8 hf => ?_) (fun h8 hf => ?_)
    · refine zz_iconst 26 C dX5_span_25 rfl zz_im1 ?_
      cases hf
      exact zz_iret C dX5_span_26 rfl rfl
    · refine zz_iload_n 17 C dX5_span_16 rfl 3 rfl ?_
      refine zz_iconst 18 C dX5_span_17 rfl zz_i0 ?_
      refine zz_iconst 19 C dX5_span_18 rfl zz_i2 ?_
      obtain ⟨r11, M10, hc9, hf⟩ := zz_b2E hf
      refine zz_callS 22 [.int a3, .int 0, .int 2] C dX5_span_19 rfl ml_X5_68 (k_X5_in hc9) rfl rfl rfl (Nat.le_of_ble_eq_true rfl) (zz_hR (Nat.le_of_ble_eq_true rfl) (Nat.le_of_ble_eq_true rfl)) ?_
      refine zz_if_ne 25 27 C dX5_span_22 rfl rfl hf (fun h12 hf => ?_) (fun h12 hf => ?_)
      · refine zz_aload_n 28 C dX5_span_27 rfl 0 rfl ?_
        refine zz_iload_n 29 C dX5_span_28 rfl 1 rfl ?_
        refine zz_iload_n 30 C dX5_span_29 rfl 2 rfl ?_
        obtain ⟨M14, hc13, hf⟩ := zz_b1E hf
        refine zz_callV 33 [.int a1, .int a2] C dX5_span_30 rfl ml_X5_139 (k_X5_findSpan hc13) sr_0 (vC := vwCl[5]) rfl rfl rfl rfl rfl (Nat.le_of_ble_eq_true rfl) (zz_hR (Nat.le_of_ble_eq_true rfl) (Nat.le_of_ble_eq_true rfl)) ?_
        refine zz_iload_n 34 C dX5_span_33 rfl 3 rfl ?_
        refine zz_iconst 35 C dX5_span_34 rfl zz_i2 ?_
        refine zz_icmp_ne 38 43 C dX5_span_35 rfl rfl hf (fun h15 hf => ?_) (fun h15 hf => ?_)
        · refine zz_aload_n 44 C dX5_span_43 rfl 0 rfl ?_
          refine zz_getI 47 C dX5_span_44 rfl fl_X5_133 sr_0 rfl ?_
          refine zz_if_ne 50 55 C dX5_span_47 rfl rfl hf (fun h16 hf => ?_) (fun h16 hf => ?_)
          · refine zz_iload_n 56 C dX5_span_55 rfl 3 rfl ?_
            refine zz_if_ne 59 66 C dX5_span_56 rfl rfl hf (fun h17 hf => ?_) (fun h17 hf => ?_)
            · refine zz_aload_n 67 C dX5_span_66 rfl 0 rfl ?_
              refine zz_getI 70 C dX5_span_67 rfl fl_X5_130 sr_0 rfl ?_
              cases hf
              exact zz_iret C dX5_span_70 rfl rfl
            · refine zz_aload_n 60 C dX5_span_59 rfl 0 rfl ?_
              refine zz_getI 63 C dX5_span_60 rfl fl_X5_127 sr_0 rfl ?_
              refine zz_goto 70 C dX5_span_63 rfl ?_
              cases hf
              exact zz_iret C dX5_span_70 rfl rfl
          · refine zz_bipush 52 C dX5_span_50 rfl zz_bpm4 ?_
            refine zz_goto 70 C dX5_span_52 rfl ?_
            cases hf
            exact zz_iret C dX5_span_70 rfl rfl
        · refine zz_aload_n 39 C dX5_span_38 rfl 0 rfl ?_
          refine zz_getI 42 C dX5_span_39 rfl fl_X5_133 sr_0 rfl ?_
          cases hf
          exact zz_iret C dX5_span_42 rfl rfl
      · refine zz_iconst 26 C dX5_span_25 rfl zz_im1 ?_
        cases hf
        exact zz_iret C dX5_span_26 rfl rfl
def f_X5_findDoubles_10 (x1 x2 x3 : Int32) : Nat → Int32 → zz_Mem → Option (Sum (Int32 × zz_Mem) (Int32 × zz_Mem))
  | 0, _, _ => none
  | n + 1, v4, M => (if (M 0 0) ≤ v4 then some (.inr (v4, M)) else zz_b1 (f_X5_findSpan v4 x1 M) (fun M3 => (if zz_in v4 6 then (if ((x2 >>> (v4 &&& 31)) &&& 1) = 1 then (if ((zz_up (zz_up M3 16 v4.toNatClampNeg (M3 0 20)) 17 v4.toNatClampNeg ((zz_up M3 16 v4.toNatClampNeg (M3 0 20)) 0 21)) 0 22) = 0 then some (.inl (0, zz_up (zz_up M3 16 v4.toNatClampNeg (M3 0 20)) 17 v4.toNatClampNeg ((zz_up M3 16 v4.toNatClampNeg (M3 0 20)) 0 21))) else f_X5_findDoubles_10 x1 x2 x3 n (v4 + 1) (zz_up (zz_up M3 16 v4.toNatClampNeg (M3 0 20)) 17 v4.toNatClampNeg ((zz_up M3 16 v4.toNatClampNeg (M3 0 20)) 0 21))) else f_X5_findDoubles_10 x1 x2 x3 n (v4 + 1) (zz_up (zz_up M3 16 v4.toNatClampNeg (M3 0 20)) 17 v4.toNatClampNeg ((zz_up M3 16 v4.toNatClampNeg (M3 0 20)) 0 21))) else none)))
set_option maxHeartbeats 4000000 in
set_option maxRecDepth 100000 in
theorem l_X5_findDoubles_10 {p : Program} {l : Launch} {e : Env} {s : State} {m : MethodId} {args : Array Value} {below : List Frame} {meth : Method} {c : Code} {D : va_G} {cI : ClassId} {ad : Nat → Nat} {x1 x2 x3 : Int32} {w : Option Value} {Mf : zz_Mem} (C : zz_C p (zz_rm 4) s m args meth c D cI RX5 cX5_findDoubles 6 (some .boolean) 0 0) : ∀ {n : Nat} {v4 : Int32} {M : zz_Mem} {z : Sum (Int32 × zz_Mem) (Int32 × zz_Mem)}, f_X5_findDoubles_10 x1 x2 x3 n v4 M = some z → (∀ r0 M0, z = .inl (r0, M0) → w = some (.int r0) ∧ Mf = M0) → (∀ w4 M1, z = .inr (w4, M1) → zz_V p l e (zz_rm 4) s m args below meth c D zz_SR cI ad (zz_A zz_SR ad) 6 0 0 (MQ below (zz_Q D zz_SR cI ad w Mf) args s 0 0 (zz_A zz_SR ad)) 73 [(0, .ref (ad 0)), (1, .int x1), (2, .int x2), (3, .int x3), (4, .int w4)] [] M1) → zz_V p l e (zz_rm 4) s m args below meth c D zz_SR cI ad (zz_A zz_SR ad) 6 0 0 (MQ below (zz_Q D zz_SR cI ad w Mf) args s 0 0 (zz_A zz_SR ad)) 10 [(0, .ref (ad 0)), (1, .int x1), (2, .int x2), (3, .int x3), (4, .int v4)] [] M := by
  intro n
  induction n with
  | zero =>
    intro v4 M z hf
    simp [f_X5_findDoubles_10] at hf
  | succ n ih0 =>
    intro v4 M z hf hret hex
    have ih := fun v4 M hf => @ih0 v4 M z hf
    rw [f_X5_findDoubles_10] at hf
    refine zz_iload 12 C dX5_findDoubles_10 rfl 4 rfl ?_
    refine zz_aload_n 13 C dX5_findDoubles_12 rfl 0 rfl ?_
    refine zz_getI 16 C dX5_findDoubles_13 rfl fl_X5_64 sr_0 rfl ?_
    refine zz_icmp_ge 19 73 C dX5_findDoubles_16 rfl rfl hf (fun h1 hf => ?_) (fun h1 hf => ?_)
    · cases hf
      exact zz_sub [0, 1, 2, 3, 4] rfl (hex _ _ rfl)
    · refine zz_aload_n 20 C dX5_findDoubles_19 rfl 0 rfl ?_
      refine zz_iload 22 C dX5_findDoubles_20 rfl 4 rfl ?_
      refine zz_iload_n 23 C dX5_findDoubles_22 rfl 1 rfl ?_
      obtain ⟨M3, hc2, hf⟩ := zz_b1E hf
      refine zz_callV 26 [.int v4, .int x1] C dX5_findDoubles_23 rfl ml_X5_139 (k_X5_findSpan hc2) sr_0 (vC := vwCl[5]) rfl rfl rfl rfl rfl (Nat.le_of_ble_eq_true rfl) (zz_hR (Nat.le_of_ble_eq_true rfl) (Nat.le_of_ble_eq_true rfl)) ?_
      refine zz_aload_n 27 C dX5_findDoubles_26 rfl 0 rfl ?_
      refine zz_getR 30 C dX5_findDoubles_27 rfl fl_X5_55 sr_0 rfl ?_
      refine zz_iload 32 C dX5_findDoubles_30 rfl 4 rfl ?_
      refine zz_aload_n 33 C dX5_findDoubles_32 rfl 0 rfl ?_
      refine zz_getI 36 C dX5_findDoubles_33 rfl fl_X5_127 sr_0 rfl ?_
      obtain ⟨hi4, hf⟩ := zz_chk hf
      refine zz_iast 37 C sr_16 dX5_findDoubles_36 rfl hi4 ?_
      refine zz_aload_n 38 C dX5_findDoubles_37 rfl 0 rfl ?_
      refine zz_getR 41 C dX5_findDoubles_38 rfl fl_X5_58 sr_0 rfl ?_
      refine zz_iload 43 C dX5_findDoubles_41 rfl 4 rfl ?_
      refine zz_aload_n 44 C dX5_findDoubles_43 rfl 0 rfl ?_
      refine zz_getI 47 C dX5_findDoubles_44 rfl fl_X5_130 sr_0 rfl ?_
      refine zz_iast 48 C sr_17 dX5_findDoubles_47 rfl hi4 ?_
      refine zz_iload_n 49 C dX5_findDoubles_48 rfl 2 rfl ?_
      refine zz_iload 51 C dX5_findDoubles_49 rfl 4 rfl ?_
      refine zz_ishr 52 C dX5_findDoubles_51 rfl ?_
      refine zz_iconst 53 C dX5_findDoubles_52 rfl zz_i1 ?_
      refine zz_iand 54 C dX5_findDoubles_53 rfl ?_
      refine zz_iconst 55 C dX5_findDoubles_54 rfl zz_i1 ?_
      refine zz_icmp_ne 58 67 C dX5_findDoubles_55 rfl rfl hf (fun h5 hf => ?_) (fun h5 hf => ?_)
      · refine zz_iinc (L' := [(4, .int (v4 + 1)), (0, .ref (ad 0)), (1, .int x1), (2, .int x2), (3, .int x3)]) 70 C dX5_findDoubles_67 rfl zz_i1 4 rfl (Nat.le_of_ble_eq_true rfl) rfl ?_
        refine zz_goto 10 C dX5_findDoubles_70 rfl ?_
        exact zz_sub [1, 2, 3, 4, 0] rfl (ih _ _ hf hret hex)
      · refine zz_aload_n 59 C dX5_findDoubles_58 rfl 0 rfl ?_
        refine zz_getI 62 C dX5_findDoubles_59 rfl fl_X5_133 sr_0 rfl ?_
        refine zz_if_ne 65 67 C dX5_findDoubles_62 rfl rfl hf (fun h6 hf => ?_) (fun h6 hf => ?_)
        · refine zz_iinc (L' := [(4, .int (v4 + 1)), (0, .ref (ad 0)), (1, .int x1), (2, .int x2), (3, .int x3)]) 70 C dX5_findDoubles_67 rfl zz_i1 4 rfl (Nat.le_of_ble_eq_true rfl) rfl ?_
          refine zz_goto 10 C dX5_findDoubles_70 rfl ?_
          exact zz_sub [1, 2, 3, 4, 0] rfl (ih _ _ hf hret hex)
        · refine zz_iconst 66 C dX5_findDoubles_65 rfl zz_i0 ?_
          cases hf
          exact zz_zret C dX5_findDoubles_66 (hret _ _ rfl).1 (hret _ _ rfl).2 (by decide)
def f_X5_findDoubles_84 (x1 x2 x3 : Int32) : Nat → Int32 → Int32 → zz_Mem → Option (Int32 × Int32 × zz_Mem)
  | 0, _, _, _ => none
  | n + 1, v4, v5, M => (if (M 0 0) ≤ v5 then some (v4, v5, M) else (if ((x3 >>> (v5 &&& 31)) &&& 1) = 1 then (if zz_in v5 6 then (if v4 ≤ (M 17 v5.toNatClampNeg) then f_X5_findDoubles_84 x1 x2 x3 n v4 (v5 + 1) M else f_X5_findDoubles_84 x1 x2 x3 n (M 17 v5.toNatClampNeg) (v5 + 1) M) else none) else f_X5_findDoubles_84 x1 x2 x3 n v4 (v5 + 1) M))
set_option maxHeartbeats 4000000 in
set_option maxRecDepth 100000 in
theorem l_X5_findDoubles_84 {p : Program} {l : Launch} {e : Env} {s : State} {m : MethodId} {args : Array Value} {below : List Frame} {meth : Method} {c : Code} {D : va_G} {cI : ClassId} {ad : Nat → Nat} {x1 x2 x3 : Int32} {w : Option Value} {Mf : zz_Mem} (C : zz_C p (zz_rm 4) s m args meth c D cI RX5 cX5_findDoubles 6 (some .boolean) 0 0) {w4 w5 : Int32} {M1 : zz_Mem} : ∀ {n : Nat} {v4 v5 : Int32} {M : zz_Mem}, f_X5_findDoubles_84 x1 x2 x3 n v4 v5 M = some (w4, w5, M1) → zz_V p l e (zz_rm 4) s m args below meth c D zz_SR cI ad (zz_A zz_SR ad) 6 0 0 (MQ below (zz_Q D zz_SR cI ad w Mf) args s 0 0 (zz_A zz_SR ad)) 135 [(0, .ref (ad 0)), (1, .int x1), (2, .int x2), (3, .int x3), (4, .int w4), (5, .int w5)] [] M1 → zz_V p l e (zz_rm 4) s m args below meth c D zz_SR cI ad (zz_A zz_SR ad) 6 0 0 (MQ below (zz_Q D zz_SR cI ad w Mf) args s 0 0 (zz_A zz_SR ad)) 84 [(0, .ref (ad 0)), (1, .int x1), (2, .int x2), (3, .int x3), (4, .int v4), (5, .int v5)] [] M := by
  intro n
  induction n with
  | zero =>
    intro v4 v5 M hf
    simp [f_X5_findDoubles_84] at hf
  | succ n ih0 =>
    intro v4 v5 M hf hex
    have ih := fun v4 v5 M hf => @ih0 v4 v5 M hf
    rw [f_X5_findDoubles_84] at hf
    refine zz_iload 86 C dX5_findDoubles_84 rfl 5 rfl ?_
    refine zz_aload_n 87 C dX5_findDoubles_86 rfl 0 rfl ?_
    refine zz_getI 90 C dX5_findDoubles_87 rfl fl_X5_64 sr_0 rfl ?_
    refine zz_icmp_ge 93 135 C dX5_findDoubles_90 rfl rfl hf (fun h14 hf => ?_) (fun h14 hf => ?_)
    · cases hf
      exact zz_sub [0, 1, 2, 3, 4, 5] rfl hex
    · refine zz_iload_n 94 C dX5_findDoubles_93 rfl 3 rfl ?_
      refine zz_iload 96 C dX5_findDoubles_94 rfl 5 rfl ?_
      refine zz_ishr 97 C dX5_findDoubles_96 rfl ?_
      refine zz_iconst 98 C dX5_findDoubles_97 rfl zz_i1 ?_
      refine zz_iand 99 C dX5_findDoubles_98 rfl ?_
      refine zz_iconst 100 C dX5_findDoubles_99 rfl zz_i1 ?_
      refine zz_icmp_ne 103 125 C dX5_findDoubles_100 rfl rfl hf (fun h15 hf => ?_) (fun h15 hf => ?_)
      · refine zz_iload 127 C dX5_findDoubles_125 rfl 4 rfl ?_
        refine zz_istore (L' := [(4, .int v4), (0, .ref (ad 0)), (1, .int x1), (2, .int x2), (3, .int x3), (5, .int v5)]) 129 C dX5_findDoubles_127 rfl (Nat.le_of_ble_eq_true rfl) rfl ?_
        refine zz_iinc (L' := [(5, .int (v5 + 1)), (4, .int v4), (0, .ref (ad 0)), (1, .int x1), (2, .int x2), (3, .int x3)]) 132 C dX5_findDoubles_129 rfl zz_i1 5 rfl (Nat.le_of_ble_eq_true rfl) rfl ?_
        refine zz_goto 84 C dX5_findDoubles_132 rfl ?_
        exact zz_sub [2, 3, 4, 5, 1, 0] rfl (ih _ _ _ hf hex)
      · refine zz_aload_n 104 C dX5_findDoubles_103 rfl 0 rfl ?_
        refine zz_getR 107 C dX5_findDoubles_104 rfl fl_X5_58 sr_0 rfl ?_
        refine zz_iload 109 C dX5_findDoubles_107 rfl 5 rfl ?_
        obtain ⟨hi16, hf⟩ := zz_chk hf
        refine zz_iald 110 C sr_17 dX5_findDoubles_109 rfl hi16 ?_
        refine zz_iload 112 C dX5_findDoubles_110 rfl 4 rfl ?_
        refine zz_icmp_ge 115 125 C dX5_findDoubles_112 rfl rfl hf (fun h17 hf => ?_) (fun h17 hf => ?_)
        · refine zz_iload 127 C dX5_findDoubles_125 rfl 4 rfl ?_
          refine zz_istore (L' := [(4, .int v4), (0, .ref (ad 0)), (1, .int x1), (2, .int x2), (3, .int x3), (5, .int v5)]) 129 C dX5_findDoubles_127 rfl (Nat.le_of_ble_eq_true rfl) rfl ?_
          refine zz_iinc (L' := [(5, .int (v5 + 1)), (4, .int v4), (0, .ref (ad 0)), (1, .int x1), (2, .int x2), (3, .int x3)]) 132 C dX5_findDoubles_129 rfl zz_i1 5 rfl (Nat.le_of_ble_eq_true rfl) rfl ?_
          refine zz_goto 84 C dX5_findDoubles_132 rfl ?_
          exact zz_sub [2, 3, 4, 5, 1, 0] rfl (ih _ _ _ hf hex)
        · refine zz_aload_n 116 C dX5_findDoubles_115 rfl 0 rfl ?_
          refine zz_getR 119 C dX5_findDoubles_116 rfl fl_X5_58 sr_0 rfl ?_
          refine zz_iload 121 C dX5_findDoubles_119 rfl 5 rfl ?_
          refine zz_iald 122 C sr_17 dX5_findDoubles_121 rfl hi16 ?_
          refine zz_goto 127 C dX5_findDoubles_122 rfl ?_
          refine zz_istore (L' := [(4, .int (M 17 v5.toNatClampNeg)), (0, .ref (ad 0)), (1, .int x1), (2, .int x2), (3, .int x3), (5, .int v5)]) 129 C dX5_findDoubles_127 rfl (Nat.le_of_ble_eq_true rfl) rfl ?_
          refine zz_iinc (L' := [(5, .int (v5 + 1)), (4, .int (M 17 v5.toNatClampNeg)), (0, .ref (ad 0)), (1, .int x1), (2, .int x2), (3, .int x3)]) 132 C dX5_findDoubles_129 rfl zz_i1 5 rfl (Nat.le_of_ble_eq_true rfl) rfl ?_
          refine zz_goto 84 C dX5_findDoubles_132 rfl ?_
          exact zz_sub [2, 3, 4, 5, 1, 0] rfl (ih _ _ _ hf hex)
def f_X5_findDoubles_159 (x1 x2 x4 : Int32) : Nat → Int32 → Int32 → zz_Mem → Option (Int32 × Int32 × zz_Mem)
  | 0, _, _, _ => none
  | n + 1, v3, v5, M => (if (M 0 0) ≤ v5 then some (v3, v5, M) else (if ((v3 >>> (v5 &&& 31)) &&& 1) = 1 then (if zz_in v5 6 then (if x4 < (M 16 v5.toNatClampNeg) then f_X5_findDoubles_159 x1 x2 x4 n v3 (v5 + 1) M else f_X5_findDoubles_159 x1 x2 x4 n (v3 &&& ((1 <<< (v5 &&& 31)) ^^^ (-1))) (v5 + 1) M) else none) else f_X5_findDoubles_159 x1 x2 x4 n v3 (v5 + 1) M))
set_option maxHeartbeats 4000000 in
set_option maxRecDepth 100000 in
theorem l_X5_findDoubles_159 {p : Program} {l : Launch} {e : Env} {s : State} {m : MethodId} {args : Array Value} {below : List Frame} {meth : Method} {c : Code} {D : va_G} {cI : ClassId} {ad : Nat → Nat} {x1 x2 x4 : Int32} {w : Option Value} {Mf : zz_Mem} (C : zz_C p (zz_rm 4) s m args meth c D cI RX5 cX5_findDoubles 6 (some .boolean) 0 0) {w3 w5 : Int32} {M1 : zz_Mem} : ∀ {n : Nat} {v3 v5 : Int32} {M : zz_Mem}, f_X5_findDoubles_159 x1 x2 x4 n v3 v5 M = some (w3, w5, M1) → zz_V p l e (zz_rm 4) s m args below meth c D zz_SR cI ad (zz_A zz_SR ad) 6 0 0 (MQ below (zz_Q D zz_SR cI ad w Mf) args s 0 0 (zz_A zz_SR ad)) 209 [(0, .ref (ad 0)), (1, .int x1), (2, .int x2), (3, .int w3), (4, .int x4), (5, .int w5)] [] M1 → zz_V p l e (zz_rm 4) s m args below meth c D zz_SR cI ad (zz_A zz_SR ad) 6 0 0 (MQ below (zz_Q D zz_SR cI ad w Mf) args s 0 0 (zz_A zz_SR ad)) 159 [(0, .ref (ad 0)), (1, .int x1), (2, .int x2), (3, .int v3), (4, .int x4), (5, .int v5)] [] M := by
  intro n
  induction n with
  | zero =>
    intro v3 v5 M hf
    simp [f_X5_findDoubles_159] at hf
  | succ n ih0 =>
    intro v3 v5 M hf hex
    have ih := fun v3 v5 M hf => @ih0 v3 v5 M hf
    rw [f_X5_findDoubles_159] at hf
    refine zz_iload 161 C dX5_findDoubles_159 rfl 5 rfl ?_
    refine zz_aload_n 162 C dX5_findDoubles_161 rfl 0 rfl ?_
    refine zz_getI 165 C dX5_findDoubles_162 rfl fl_X5_64 sr_0 rfl ?_
    refine zz_icmp_ge 168 209 C dX5_findDoubles_165 rfl rfl hf (fun h23 hf => ?_) (fun h23 hf => ?_)
    · cases hf
      exact zz_sub [0, 1, 2, 3, 4, 5] rfl hex
    · refine zz_iload_n 169 C dX5_findDoubles_168 rfl 3 rfl ?_
      refine zz_iload 171 C dX5_findDoubles_169 rfl 5 rfl ?_
      refine zz_ishr 172 C dX5_findDoubles_171 rfl ?_
      refine zz_iconst 173 C dX5_findDoubles_172 rfl zz_i1 ?_
      refine zz_iand 174 C dX5_findDoubles_173 rfl ?_
      refine zz_iconst 175 C dX5_findDoubles_174 rfl zz_i1 ?_
      refine zz_icmp_ne 178 201 C dX5_findDoubles_175 rfl rfl hf (fun h24 hf => ?_) (fun h24 hf => ?_)
      · refine zz_iload_n 202 C dX5_findDoubles_201 rfl 3 rfl ?_
        refine zz_istore_n (L' := [(3, .int v3), (0, .ref (ad 0)), (1, .int x1), (2, .int x2), (4, .int x4), (5, .int v5)]) 203 C dX5_findDoubles_202 rfl (Nat.le_of_ble_eq_true rfl) rfl ?_
        refine zz_iinc (L' := [(5, .int (v5 + 1)), (3, .int v3), (0, .ref (ad 0)), (1, .int x1), (2, .int x2), (4, .int x4)]) 206 C dX5_findDoubles_203 rfl zz_i1 5 rfl (Nat.le_of_ble_eq_true rfl) rfl ?_
        refine zz_goto 159 C dX5_findDoubles_206 rfl ?_
        exact zz_sub [2, 3, 4, 1, 5, 0] rfl (ih _ _ _ hf hex)
      · refine zz_aload_n 179 C dX5_findDoubles_178 rfl 0 rfl ?_
        refine zz_getR 182 C dX5_findDoubles_179 rfl fl_X5_55 sr_0 rfl ?_
        refine zz_iload 184 C dX5_findDoubles_182 rfl 5 rfl ?_
        obtain ⟨hi25, hf⟩ := zz_chk hf
        refine zz_iald 185 C sr_16 dX5_findDoubles_184 rfl hi25 ?_
        refine zz_iload 187 C dX5_findDoubles_185 rfl 4 rfl ?_
        refine zz_icmp_gt 190 201 C dX5_findDoubles_187 rfl rfl hf (fun h26 hf => ?_) (fun h26 hf => ?_)
        · refine zz_iload_n 202 C dX5_findDoubles_201 rfl 3 rfl ?_
          refine zz_istore_n (L' := [(3, .int v3), (0, .ref (ad 0)), (1, .int x1), (2, .int x2), (4, .int x4), (5, .int v5)]) 203 C dX5_findDoubles_202 rfl (Nat.le_of_ble_eq_true rfl) rfl ?_
          refine zz_iinc (L' := [(5, .int (v5 + 1)), (3, .int v3), (0, .ref (ad 0)), (1, .int x1), (2, .int x2), (4, .int x4)]) 206 C dX5_findDoubles_203 rfl zz_i1 5 rfl (Nat.le_of_ble_eq_true rfl) rfl ?_
          refine zz_goto 159 C dX5_findDoubles_206 rfl ?_
          exact zz_sub [2, 3, 4, 1, 5, 0] rfl (ih _ _ _ hf hex)
        · refine zz_iload_n 191 C dX5_findDoubles_190 rfl 3 rfl ?_
          refine zz_iconst 192 C dX5_findDoubles_191 rfl zz_i1 ?_
          refine zz_iload 194 C dX5_findDoubles_192 rfl 5 rfl ?_
          refine zz_ishl 195 C dX5_findDoubles_194 rfl ?_
          refine zz_iconst 196 C dX5_findDoubles_195 rfl zz_im1 ?_
          refine zz_ixor 197 C dX5_findDoubles_196 rfl ?_
          refine zz_iand 198 C dX5_findDoubles_197 rfl ?_
          refine zz_goto 202 C dX5_findDoubles_198 rfl ?_
          refine zz_istore_n (L' := [(3, .int (v3 &&& ((1 <<< (v5 &&& 31)) ^^^ (-1)))), (0, .ref (ad 0)), (1, .int x1), (2, .int x2), (4, .int x4), (5, .int v5)]) 203 C dX5_findDoubles_202 rfl (Nat.le_of_ble_eq_true rfl) rfl ?_
          refine zz_iinc (L' := [(5, .int (v5 + 1)), (3, .int (v3 &&& ((1 <<< (v5 &&& 31)) ^^^ (-1)))), (0, .ref (ad 0)), (1, .int x1), (2, .int x2), (4, .int x4)]) 206 C dX5_findDoubles_203 rfl zz_i1 5 rfl (Nat.le_of_ble_eq_true rfl) rfl ?_
          refine zz_goto 159 C dX5_findDoubles_206 rfl ?_
          exact zz_sub [2, 3, 4, 1, 5, 0] rfl (ih _ _ _ hf hex)
def f_X5_findDoubles_73 (x1 x2 : Int32) : Nat → Int32 → Int32 → zz_Mem → Option (Int32 × Int32 × zz_Mem)
  | 0, _, _, _ => none
  | n + 1, v3, v4, M => (if v3 = 0 then some (v3, v4, M) else zz_b3 (f_X5_findDoubles_84 x1 x2 v3 5000 100 0 M) (fun w18 w19 M20 => (if zz_in (M20 0 25) 6 then zz_b3 (f_X5_findDoubles_159 x1 x2 w18 5000 v3 0 (zz_up (zz_up M20 18 ((M20 0 25).toNatClampNeg) w18) 0 25 (((zz_up M20 18 ((M20 0 25).toNatClampNeg) w18) 0 25) + 1))) (fun w27 w28 M29 => f_X5_findDoubles_73 x1 x2 n w27 w18 M29) else none)))
set_option maxHeartbeats 4000000 in
set_option maxRecDepth 100000 in
theorem l_X5_findDoubles_73 {p : Program} {l : Launch} {e : Env} {s : State} {m : MethodId} {args : Array Value} {below : List Frame} {meth : Method} {c : Code} {D : va_G} {cI : ClassId} {ad : Nat → Nat} {x1 x2 : Int32} {w : Option Value} {Mf : zz_Mem} (C : zz_C p (zz_rm 4) s m args meth c D cI RX5 cX5_findDoubles 6 (some .boolean) 0 0) {w3 w4 : Int32} {M1 : zz_Mem} : ∀ {n : Nat} {v3 v4 : Int32} {M : zz_Mem}, f_X5_findDoubles_73 x1 x2 n v3 v4 M = some (w3, w4, M1) → zz_V p l e (zz_rm 4) s m args below meth c D zz_SR cI ad (zz_A zz_SR ad) 6 0 0 (MQ below (zz_Q D zz_SR cI ad w Mf) args s 0 0 (zz_A zz_SR ad)) 212 [(0, .ref (ad 0)), (1, .int x1), (2, .int x2), (3, .int w3), (4, .int w4)] [] M1 → zz_V p l e (zz_rm 4) s m args below meth c D zz_SR cI ad (zz_A zz_SR ad) 6 0 0 (MQ below (zz_Q D zz_SR cI ad w Mf) args s 0 0 (zz_A zz_SR ad)) 73 [(0, .ref (ad 0)), (1, .int x1), (2, .int x2), (3, .int v3), (4, .int v4)] [] M := by
  intro n
  induction n with
  | zero =>
    intro v3 v4 M hf
    simp [f_X5_findDoubles_73] at hf
  | succ n ih0 =>
    intro v3 v4 M hf hex
    have ih := fun v3 v4 M hf => @ih0 v3 v4 M hf
    rw [f_X5_findDoubles_73] at hf
    refine zz_iload_n 74 C dX5_findDoubles_73 rfl 3 rfl ?_
    refine zz_if_eq 77 212 C dX5_findDoubles_74 rfl rfl hf (fun h13 hf => ?_) (fun h13 hf => ?_)
    · cases hf
      exact zz_sub [0, 1, 2, 3, 4] rfl hex
    · refine zz_bipush 79 C dX5_findDoubles_77 rfl zz_bp100 ?_
      refine zz_istore (L' := [(4, .int 100), (0, .ref (ad 0)), (1, .int x1), (2, .int x2), (3, .int v3)]) 81 C dX5_findDoubles_79 rfl (Nat.le_of_ble_eq_true rfl) rfl ?_
      refine zz_iconst 82 C dX5_findDoubles_81 rfl zz_i0 ?_
      refine zz_istore (L' := [(5, .int 0), (4, .int 100), (0, .ref (ad 0)), (1, .int x1), (2, .int x2), (3, .int v3)]) 84 C dX5_findDoubles_82 rfl (Nat.le_of_ble_eq_true rfl) rfl ?_
      obtain ⟨w18, w19, M20, hc21, hf⟩ := zz_b3E hf
      refine zz_sub [2, 3, 4, 5, 1, 0] rfl (l_X5_findDoubles_84 C  hc21 ?_)
      refine zz_aload_n 136 C dX5_findDoubles_135 rfl 0 rfl ?_
      refine zz_getR 139 C dX5_findDoubles_136 rfl fl_X5_61 sr_0 rfl ?_
      refine zz_aload_n 140 C dX5_findDoubles_139 rfl 0 rfl ?_
      refine zz_getI 143 C dX5_findDoubles_140 rfl fl_X5_143 sr_0 rfl ?_
      refine zz_iload 145 C dX5_findDoubles_143 rfl 4 rfl ?_
      obtain ⟨hi22, hf⟩ := zz_chk hf
      refine zz_iast 146 C sr_18 dX5_findDoubles_145 rfl hi22 ?_
      refine zz_aload_n 147 C dX5_findDoubles_146 rfl 0 rfl ?_
      refine zz_dup 148 C dX5_findDoubles_147 rfl rfl ?_
      refine zz_getI 151 C dX5_findDoubles_148 rfl fl_X5_143 sr_0 rfl ?_
      refine zz_iconst 152 C dX5_findDoubles_151 rfl zz_i1 ?_
      refine zz_iadd 153 C dX5_findDoubles_152 rfl ?_
      refine zz_putI 156 C dX5_findDoubles_153 rfl fl_X5_143 fs_X5_25 rfl rfl sr_0 rfl ?_
      refine zz_iconst 157 C dX5_findDoubles_156 rfl zz_i0 ?_
      refine zz_istore (L' := [(5, .int 0), (0, .ref (ad 0)), (1, .int x1), (2, .int x2), (3, .int v3), (4, .int w18)]) 159 C dX5_findDoubles_157 rfl (Nat.le_of_ble_eq_true rfl) rfl ?_
      obtain ⟨w27, w28, M29, hc30, hf⟩ := zz_b3E hf
      refine zz_sub [1, 2, 3, 4, 5, 0] rfl (l_X5_findDoubles_159 C  hc30 ?_)
      refine zz_goto 73 C dX5_findDoubles_209 rfl ?_
      exact zz_sub [0, 1, 2, 3, 4] rfl (ih _ _ _ hf hex)
def f_X5_findDoubles (a1 a2 : Int32) (M : zz_Mem) : Option (Int32 × zz_Mem) := zz_bs2 (f_X5_findDoubles_10 a1 a2 a2 5000 0 (zz_up M 0 25 0)) (fun w7 M8 => zz_b3 (f_X5_findDoubles_73 a1 a2 5000 a2 w7 M8) (fun w31 w32 M33 => some (1, M33)))
set_option maxHeartbeats 4000000 in
set_option maxRecDepth 100000 in
theorem k_X5_findDoubles {l : Launch} {D : va_G} {cI : ClassId} {ad : Nat → Nat} {a1 a2 : Int32} {r : Int32} {M M1 : zz_Mem} (hf : f_X5_findDoubles a1 a2 M = some (r, M1)) : zz_K l D zz_SR cI ad 4 yX5_findDoubles cX5_findDoubles 6 (some .boolean) [.ref (ad 0), .int a1, .int a2] M (some (.int r)) M1 := by
  unfold f_X5_findDoubles at hf
  refine zz_entry (own := RX5) (L := [(0, .ref (ad 0)), (1, .int a1), (2, .int a2)]) (by decide +kernel) rfl (Nat.le_of_ble_eq_true rfl) rfl (fun p e s m args below meth c C => ?_)
  refine zz_aload_n 1 C dX5_findDoubles_0 rfl 0 rfl ?_
  refine zz_iconst 2 C dX5_findDoubles_1 rfl zz_i0 ?_
  refine zz_putI 5 C dX5_findDoubles_2 rfl fl_X5_143 fs_X5_25 rfl rfl sr_0 rfl ?_
  refine zz_iload_n 6 C dX5_findDoubles_5 rfl 2 rfl ?_
  refine zz_istore_n (L' := [(3, .int a2), (0, .ref (ad 0)), (1, .int a1), (2, .int a2)]) 7 C dX5_findDoubles_6 rfl (Nat.le_of_ble_eq_true rfl) rfl ?_
  refine zz_iconst 8 C dX5_findDoubles_7 rfl zz_i0 ?_
  refine zz_istore (L' := [(4, .int 0), (3, .int a2), (0, .ref (ad 0)), (1, .int a1), (2, .int a2)]) 10 C dX5_findDoubles_8 rfl (Nat.le_of_ble_eq_true rfl) rfl ?_
  obtain ⟨z10, hc9, e11, e12⟩ := zz_bs2E hf
  refine zz_sub [2, 3, 4, 1, 0] rfl (l_X5_findDoubles_10 C  hc9 e11 (fun w7 M8 hz => ?_))
  replace hf := e12 _ _ hz
  obtain ⟨w31, w32, M33, hc34, hf⟩ := zz_b3E hf
  refine zz_sub [0, 1, 2, 3, 4] rfl (l_X5_findDoubles_73 C  hc34 ?_)
  refine zz_iconst 213 C dX5_findDoubles_212 rfl zz_i1 ?_
  cases hf
  exact zz_zret C dX5_findDoubles_213 rfl rfl (by decide)
def f_X5_isSet (a1 : Int32) (M : zz_Mem) : Option (Int32 × zz_Mem) := (if a1 < 0 then some (0, M) else (if (1 <<< ((M 0 0) &&& 31)) ≤ a1 then some (0, M) else some (1, M)))
set_option maxHeartbeats 4000000 in
set_option maxRecDepth 100000 in
theorem k_X5_isSet {l : Launch} {D : va_G} {cI : ClassId} {ad : Nat → Nat} {a1 : Int32} {r : Int32} {M M1 : zz_Mem} (hf : f_X5_isSet a1 M = some (r, M1)) : zz_K l D zz_SR cI ad 0 yX5_isSet cX5_isSet 2 (some .boolean) [.ref (ad 0), .int a1] M (some (.int r)) M1 := by
  unfold f_X5_isSet at hf
  refine zz_entry (own := RX5) (L := [(0, .ref (ad 0)), (1, .int a1)]) (by decide +kernel) rfl (Nat.le_of_ble_eq_true rfl) rfl (fun p e s m args below meth c C => ?_)
  refine zz_iload_n 1 C dX5_isSet_0 rfl 1 rfl ?_
  refine zz_if_lt 4 18 C dX5_isSet_1 rfl rfl hf (fun h1 hf => ?_) (fun h1 hf => ?_)
  · refine zz_iconst 19 C dX5_isSet_18 rfl zz_i0 ?_
    cases hf
    exact zz_zret C dX5_isSet_19 rfl rfl (by decide)
  · refine zz_iload_n 5 C dX5_isSet_4 rfl 1 rfl ?_
    refine zz_iconst 6 C dX5_isSet_5 rfl zz_i1 ?_
    refine zz_aload_n 7 C dX5_isSet_6 rfl 0 rfl ?_
    refine zz_getI 10 C dX5_isSet_7 rfl fl_X5_64 sr_0 rfl ?_
    refine zz_ishl 11 C dX5_isSet_10 rfl ?_
    refine zz_icmp_ge 14 18 C dX5_isSet_11 rfl rfl hf (fun h2 hf => ?_) (fun h2 hf => ?_)
    · refine zz_iconst 19 C dX5_isSet_18 rfl zz_i0 ?_
      cases hf
      exact zz_zret C dX5_isSet_19 rfl rfl (by decide)
    · refine zz_iconst 15 C dX5_isSet_14 rfl zz_i1 ?_
      refine zz_goto 19 C dX5_isSet_15 rfl ?_
      cases hf
      exact zz_zret C dX5_isSet_19 rfl rfl (by decide)
def f_X5_twin (a1 a2 a3 : Int32) (M : zz_Mem) : Option (Int32 × zz_Mem) := zz_b2 (f_X5_isThing a1 M) (fun r3 M2 => (if r3 = 0 then some ((-1), M2) else zz_b2 (f_X5_isSet a2 M2) (fun r7 M6 => (if r7 = 0 then some ((-1), M6) else zz_b2 (f_X5_findDoubles a1 a2 M6) (fun r11 M10 => (if r11 = 0 then some ((-4), M10) else zz_b2 (f_X5_in a3 0 ((M10 0 25) - 1) M10) (fun r15 M14 => (if r15 = 0 then some ((-4), M14) else (if zz_in a3 6 then some (M14 18 a3.toNatClampNeg, M14) else none)))))))))
set_option maxHeartbeats 4000000 in
set_option maxRecDepth 100000 in
theorem k_X5_twin {l : Launch} {D : va_G} {cI : ClassId} {ad : Nat → Nat} {a1 a2 a3 : Int32} {r : Int32} {M M1 : zz_Mem} (hf : f_X5_twin a1 a2 a3 M = some (r, M1)) : zz_K l D zz_SR cI ad 5 yX5_twin cX5_twin 4 (some .int) [.ref (ad 0), .int a1, .int a2, .int a3] M (some (.int r)) M1 := by
  unfold f_X5_twin at hf
  refine zz_entry (own := RX5) (L := [(0, .ref (ad 0)), (1, .int a1), (2, .int a2), (3, .int a3)]) (by decide +kernel) rfl (Nat.le_of_ble_eq_true rfl) rfl (fun p e s m args below meth c C => ?_)
  refine zz_aload_n 1 C dX5_twin_0 rfl 0 rfl ?_
  refine zz_iload_n 2 C dX5_twin_1 rfl 1 rfl ?_
  obtain ⟨r3, M2, hc1, hf⟩ := zz_b2E hf
  refine zz_callV 5 [.int a1] C dX5_twin_2 rfl ml_X5_82 (k_X5_isThing hc1) sr_0 (vC := vwCl[5]) rfl rfl rfl rfl rfl (Nat.le_of_ble_eq_true rfl) (zz_hR (Nat.le_of_ble_eq_true rfl) (Nat.le_of_ble_eq_true rfl)) ?_
  refine zz_if_eq 8 16 C dX5_twin_5 rfl rfl hf (fun h4 hf => ?_) (fun h4 hf => ?_)
  · refine zz_iconst 17 C dX5_twin_16 rfl zz_im1 ?_
    cases hf
    exact zz_iret C dX5_twin_17 rfl rfl
  · refine zz_aload_n 9 C dX5_twin_8 rfl 0 rfl ?_
    refine zz_iload_n 10 C dX5_twin_9 rfl 2 rfl ?_
    obtain ⟨r7, M6, hc5, hf⟩ := zz_b2E hf
    refine zz_callV 13 [.int a2] C dX5_twin_10 rfl ml_X5_146 (k_X5_isSet hc5) sr_0 (vC := vwCl[5]) rfl rfl rfl rfl rfl (Nat.le_of_ble_eq_true rfl) (zz_hR (Nat.le_of_ble_eq_true rfl) (Nat.le_of_ble_eq_true rfl)) ?_
    refine zz_if_ne 16 18 C dX5_twin_13 rfl rfl hf (fun h8 hf => ?_) (fun h8 hf => ?_)
    · refine zz_aload_n 19 C dX5_twin_18 rfl 0 rfl ?_
      refine zz_iload_n 20 C dX5_twin_19 rfl 1 rfl ?_
      refine zz_iload_n 21 C dX5_twin_20 rfl 2 rfl ?_
      obtain ⟨r11, M10, hc9, hf⟩ := zz_b2E hf
      refine zz_callV 24 [.int a1, .int a2] C dX5_twin_21 rfl ml_X5_149 (k_X5_findDoubles hc9) sr_0 (vC := vwCl[5]) rfl rfl rfl rfl rfl (Nat.le_of_ble_eq_true rfl) (zz_hR (Nat.le_of_ble_eq_true rfl) (Nat.le_of_ble_eq_true rfl)) ?_
      refine zz_if_eq 27 50 C dX5_twin_24 rfl rfl hf (fun h12 hf => ?_) (fun h12 hf => ?_)
      · refine zz_bipush 52 C dX5_twin_50 rfl zz_bpm4 ?_
        cases hf
        exact zz_iret C dX5_twin_52 rfl rfl
      · refine zz_iload_n 28 C dX5_twin_27 rfl 3 rfl ?_
        refine zz_iconst 29 C dX5_twin_28 rfl zz_i0 ?_
        refine zz_aload_n 30 C dX5_twin_29 rfl 0 rfl ?_
        refine zz_getI 33 C dX5_twin_30 rfl fl_X5_143 sr_0 rfl ?_
        refine zz_iconst 34 C dX5_twin_33 rfl zz_i1 ?_
        refine zz_isub 35 C dX5_twin_34 rfl ?_
        obtain ⟨r15, M14, hc13, hf⟩ := zz_b2E hf
        refine zz_callS 38 [.int a3, .int 0, .int ((M10 0 25) - 1)] C dX5_twin_35 rfl ml_X5_68 (k_X5_in hc13) rfl rfl rfl (Nat.le_of_ble_eq_true rfl) (zz_hR (Nat.le_of_ble_eq_true rfl) (Nat.le_of_ble_eq_true rfl)) ?_
        refine zz_if_eq 41 50 C dX5_twin_38 rfl rfl hf (fun h16 hf => ?_) (fun h16 hf => ?_)
        · refine zz_bipush 52 C dX5_twin_50 rfl zz_bpm4 ?_
          cases hf
          exact zz_iret C dX5_twin_52 rfl rfl
        · refine zz_aload_n 42 C dX5_twin_41 rfl 0 rfl ?_
          refine zz_getR 45 C dX5_twin_42 rfl fl_X5_61 sr_0 rfl ?_
          refine zz_iload_n 46 C dX5_twin_45 rfl 3 rfl ?_
          obtain ⟨hi17, hf⟩ := zz_chk hf
          refine zz_iald 47 C sr_18 dX5_twin_46 rfl hi17 ?_
          refine zz_goto 52 C dX5_twin_47 rfl ?_
          cases hf
          exact zz_iret C dX5_twin_52 rfl rfl
    · refine zz_iconst 17 C dX5_twin_16 rfl zz_im1 ?_
      cases hf
      exact zz_iret C dX5_twin_17 rfl rfl
def f_X5_doubles (a1 a2 : Int32) (M : zz_Mem) : Option (Int32 × zz_Mem) := zz_b2 (f_X5_isThing a1 M) (fun r3 M2 => (if r3 = 0 then some ((-1), M2) else zz_b2 (f_X5_isSet a2 M2) (fun r7 M6 => (if r7 = 0 then some ((-1), M6) else zz_b2 (f_X5_findDoubles a1 a2 M6) (fun r11 M10 => (if r11 = 0 then some ((-4), M10) else some (M10 0 25, M10)))))))
set_option maxHeartbeats 4000000 in
set_option maxRecDepth 100000 in
theorem k_X5_doubles {l : Launch} {D : va_G} {cI : ClassId} {ad : Nat → Nat} {a1 a2 : Int32} {r : Int32} {M M1 : zz_Mem} (hf : f_X5_doubles a1 a2 M = some (r, M1)) : zz_K l D zz_SR cI ad 5 yX5_doubles cX5_doubles 3 (some .int) [.ref (ad 0), .int a1, .int a2] M (some (.int r)) M1 := by
  unfold f_X5_doubles at hf
  refine zz_entry (own := RX5) (L := [(0, .ref (ad 0)), (1, .int a1), (2, .int a2)]) (by decide +kernel) rfl (Nat.le_of_ble_eq_true rfl) rfl (fun p e s m args below meth c C => ?_)
  refine zz_aload_n 1 C dX5_doubles_0 rfl 0 rfl ?_
  refine zz_iload_n 2 C dX5_doubles_1 rfl 1 rfl ?_
  obtain ⟨r3, M2, hc1, hf⟩ := zz_b2E hf
  refine zz_callV 5 [.int a1] C dX5_doubles_2 rfl ml_X5_82 (k_X5_isThing hc1) sr_0 (vC := vwCl[5]) rfl rfl rfl rfl rfl (Nat.le_of_ble_eq_true rfl) (zz_hR (Nat.le_of_ble_eq_true rfl) (Nat.le_of_ble_eq_true rfl)) ?_
  refine zz_if_eq 8 16 C dX5_doubles_5 rfl rfl hf (fun h4 hf => ?_) (fun h4 hf => ?_)
  · refine zz_iconst 17 C dX5_doubles_16 rfl zz_im1 ?_
    cases hf
    exact zz_iret C dX5_doubles_17 rfl rfl
  · refine zz_aload_n 9 C dX5_doubles_8 rfl 0 rfl ?_
    refine zz_iload_n 10 C dX5_doubles_9 rfl 2 rfl ?_
    obtain ⟨r7, M6, hc5, hf⟩ := zz_b2E hf
    refine zz_callV 13 [.int a2] C dX5_doubles_10 rfl ml_X5_146 (k_X5_isSet hc5) sr_0 (vC := vwCl[5]) rfl rfl rfl rfl rfl (Nat.le_of_ble_eq_true rfl) (zz_hR (Nat.le_of_ble_eq_true rfl) (Nat.le_of_ble_eq_true rfl)) ?_
    refine zz_if_ne 16 18 C dX5_doubles_13 rfl rfl hf (fun h8 hf => ?_) (fun h8 hf => ?_)
    · refine zz_aload_n 19 C dX5_doubles_18 rfl 0 rfl ?_
      refine zz_iload_n 20 C dX5_doubles_19 rfl 1 rfl ?_
      refine zz_iload_n 21 C dX5_doubles_20 rfl 2 rfl ?_
      obtain ⟨r11, M10, hc9, hf⟩ := zz_b2E hf
      refine zz_callV 24 [.int a1, .int a2] C dX5_doubles_21 rfl ml_X5_149 (k_X5_findDoubles hc9) sr_0 (vC := vwCl[5]) rfl rfl rfl rfl rfl (Nat.le_of_ble_eq_true rfl) (zz_hR (Nat.le_of_ble_eq_true rfl) (Nat.le_of_ble_eq_true rfl)) ?_
      refine zz_if_eq 27 34 C dX5_doubles_24 rfl rfl hf (fun h12 hf => ?_) (fun h12 hf => ?_)
      · refine zz_bipush 36 C dX5_doubles_34 rfl zz_bpm4 ?_
        cases hf
        exact zz_iret C dX5_doubles_36 rfl rfl
      · refine zz_aload_n 28 C dX5_doubles_27 rfl 0 rfl ?_
        refine zz_getI 31 C dX5_doubles_28 rfl fl_X5_143 sr_0 rfl ?_
        refine zz_goto 36 C dX5_doubles_31 rfl ?_
        cases hf
        exact zz_iret C dX5_doubles_36 rfl rfl
    · refine zz_iconst 17 C dX5_doubles_16 rfl zz_im1 ?_
      cases hf
      exact zz_iret C dX5_doubles_17 rfl rfl
