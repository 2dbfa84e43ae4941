def f_X5_areQuiet_15 (x1 x3 : Int32) : Nat → Int32 → Int32 → zz_Mem → Option (Int32 × Int32 × zz_Mem)
  | 0, _, _, _ => none
  | n + 1, v2, v4, M => (if x3 ≤ v4 then some (v2, v4, M) else (if (((x1 >>> (x3 &&& 31)) ||| (x1 >>> (v4 &&& 31))) &&& 1) = 0 then (if zz_in x3 6 then (if (M 3 x3.toNatClampNeg) < 0 then (if v2 = 0 then f_X5_areQuiet_15 x1 x3 n 0 (v4 + 1) M else f_X5_areQuiet_15 x1 x3 n 1 (v4 + 1) M) else (if zz_in v4 6 then (if (M 3 v4.toNatClampNeg) < 0 then (if v2 = 0 then f_X5_areQuiet_15 x1 x3 n 0 (v4 + 1) M else f_X5_areQuiet_15 x1 x3 n 1 (v4 + 1) M) else (if v2 = 0 then f_X5_areQuiet_15 x1 x3 n 0 (v4 + 1) M else (if zz_in ((16 * (M 3 x3.toNatClampNeg)) + (M 3 v4.toNatClampNeg)) 256 then (if (M 15 (((16 * (M 3 x3.toNatClampNeg)) + (M 3 v4.toNatClampNeg)).toNatClampNeg)) = 0 then f_X5_areQuiet_15 x1 x3 n 1 (v4 + 1) M else f_X5_areQuiet_15 x1 x3 n 0 (v4 + 1) M) else none))) else none)) else none) else (if v2 = 0 then f_X5_areQuiet_15 x1 x3 n 0 (v4 + 1) M else f_X5_areQuiet_15 x1 x3 n 1 (v4 + 1) M)))
set_option maxHeartbeats 4000000 in
set_option maxRecDepth 100000 in
theorem l_X5_areQuiet_15 {p : Program} {l : Launch} {e : Env} {s : State} {m : MethodId} {args : Array Value} {below : List Frame} {meth : Method} {c : Code} {D : va_G} {cI : ClassId} {ad : Nat → Nat} {x1 x3 : Int32} {w : Option Value} {Mf : zz_Mem} (C : zz_C p (zz_rm 0) s m args meth c D cI RX5 cX5_areQuiet 6 (some .boolean) 0 0) {w2 w4 : Int32} {M1 : zz_Mem} : ∀ {n : Nat} {v2 v4 : Int32} {M : zz_Mem}, f_X5_areQuiet_15 x1 x3 n v2 v4 M = some (w2, w4, M1) → zz_V p l e (zz_rm 0) s m args below meth c D zz_SR cI ad (zz_A zz_SR ad) 6 0 0 (MQ below (zz_Q D zz_SR cI ad w Mf) args s 0 0 (zz_A zz_SR ad)) 106 [(0, .ref (ad 0)), (1, .int x1), (2, .int w2), (3, .int x3), (4, .int w4)] [] M1 → zz_V p l e (zz_rm 0) s m args below meth c D zz_SR cI ad (zz_A zz_SR ad) 6 0 0 (MQ below (zz_Q D zz_SR cI ad w Mf) args s 0 0 (zz_A zz_SR ad)) 15 [(0, .ref (ad 0)), (1, .int x1), (2, .int v2), (3, .int x3), (4, .int v4)] [] M := by
  intro n
  induction n with
  | zero =>
    intro v2 v4 M hf
    simp [f_X5_areQuiet_15] at hf
  | succ n ih0 =>
    intro v2 v4 M hf hex
    have ih := fun v2 v4 M hf => @ih0 v2 v4 M hf
    rw [f_X5_areQuiet_15] at hf
    refine zz_iload 17 C dX5_areQuiet_15 rfl 4 rfl ?_
    refine zz_iload_n 18 C dX5_areQuiet_17 rfl 3 rfl ?_
    refine zz_icmp_ge 21 106 C dX5_areQuiet_18 rfl rfl hf (fun h2 hf => ?_) (fun h2 hf => ?_)
    · cases hf
      exact zz_sub [0, 1, 2, 3, 4] rfl hex
    · refine zz_iload_n 22 C dX5_areQuiet_21 rfl 1 rfl ?_
      refine zz_iload_n 23 C dX5_areQuiet_22 rfl 3 rfl ?_
      refine zz_ishr 24 C dX5_areQuiet_23 rfl ?_
      refine zz_iload_n 25 C dX5_areQuiet_24 rfl 1 rfl ?_
      refine zz_iload 27 C dX5_areQuiet_25 rfl 4 rfl ?_
      refine zz_ishr 28 C dX5_areQuiet_27 rfl ?_
      refine zz_ior 29 C dX5_areQuiet_28 rfl ?_
      refine zz_iconst 30 C dX5_areQuiet_29 rfl zz_i1 ?_
      refine zz_iand 31 C dX5_areQuiet_30 rfl ?_
      refine zz_if_ne 34 57 C dX5_areQuiet_31 rfl rfl hf (fun h3 hf => ?_) (fun h3 hf => ?_)
      · refine zz_iconst 58 C dX5_areQuiet_57 rfl zz_i0 ?_
        refine zz_istore (L' := [(5, .int 0), (0, .ref (ad 0)), (1, .int x1), (2, .int v2), (3, .int x3), (4, .int v4)]) 60 C dX5_areQuiet_58 rfl (Nat.le_of_ble_eq_true rfl) rfl ?_
        refine zz_iload_n 61 C dX5_areQuiet_60 rfl 3 rfl ?_
        refine zz_if_eq 64 98 C dX5_areQuiet_61 rfl rfl hf (fun h4 hf => ?_) (fun h4 hf => ?_)
        · refine zz_iconst 99 C dX5_areQuiet_98 rfl zz_i0 ?_
          refine zz_istore_n (L' := [(2, .int 0), (5, .int 0), (0, .ref (ad 0)), (1, .int x1), (3, .int x3), (4, .int v4)]) 100 C dX5_areQuiet_99 rfl (Nat.le_of_ble_eq_true rfl) rfl ?_
          refine zz_iinc (L' := [(4, .int (v4 + 1)), (2, .int 0), (5, .int 0), (0, .ref (ad 0)), (1, .int x1), (3, .int x3)]) 103 C dX5_areQuiet_100 rfl zz_i1 5 rfl (Nat.le_of_ble_eq_true rfl) rfl ?_
          refine zz_goto 15 C dX5_areQuiet_103 rfl ?_
          exact zz_sub [3, 4, 1, 5, 0] rfl (ih _ _ _ hf hex)
        · refine zz_iload 66 C dX5_areQuiet_64 rfl 0 rfl ?_
          refine zz_if_eqT 94 C dX5_areQuiet_66 rfl (by decide) ?_
          refine zz_iconst 95 C dX5_areQuiet_94 rfl zz_i1 ?_
          refine zz_goto 99 C dX5_areQuiet_95 rfl ?_
          refine zz_istore_n (L' := [(2, .int 1), (5, .int 0), (0, .ref (ad 0)), (1, .int x1), (3, .int x3), (4, .int v4)]) 100 C dX5_areQuiet_99 rfl (Nat.le_of_ble_eq_true rfl) rfl ?_
          refine zz_iinc (L' := [(4, .int (v4 + 1)), (2, .int 1), (5, .int 0), (0, .ref (ad 0)), (1, .int x1), (3, .int x3)]) 103 C dX5_areQuiet_100 rfl zz_i1 5 rfl (Nat.le_of_ble_eq_true rfl) rfl ?_
          refine zz_goto 15 C dX5_areQuiet_103 rfl ?_
          exact zz_sub [3, 4, 1, 5, 0] rfl (ih _ _ _ hf hex)
      · refine zz_aload_n 35 C dX5_areQuiet_34 rfl 0 rfl ?_
        refine zz_getR 38 C dX5_areQuiet_35 rfl fl_X5_16 sr_0 rfl ?_
        refine zz_iload_n 39 C dX5_areQuiet_38 rfl 3 rfl ?_
        obtain ⟨hi5, hf⟩ := zz_chk hf
        refine zz_iald 40 C sr_3 dX5_areQuiet_39 rfl hi5 ?_
        refine zz_if_lt 43 57 C dX5_areQuiet_40 rfl rfl hf (fun h6 hf => ?_) (fun h6 hf => ?_)
        · refine zz_iconst 58 C dX5_areQuiet_57 rfl zz_i0 ?_
          refine zz_istore (L' := [(5, .int 0), (0, .ref (ad 0)), (1, .int x1), (2, .int v2), (3, .int x3), (4, .int v4)]) 60 C dX5_areQuiet_58 rfl (Nat.le_of_ble_eq_true rfl) rfl ?_
          refine zz_iload_n 61 C dX5_areQuiet_60 rfl 3 rfl ?_
          refine zz_if_eq 64 98 C dX5_areQuiet_61 rfl rfl hf (fun h7 hf => ?_) (fun h7 hf => ?_)
          · refine zz_iconst 99 C dX5_areQuiet_98 rfl zz_i0 ?_
            refine zz_istore_n (L' := [(2, .int 0), (5, .int 0), (0, .ref (ad 0)), (1, .int x1), (3, .int x3), (4, .int v4)]) 100 C dX5_areQuiet_99 rfl (Nat.le_of_ble_eq_true rfl) rfl ?_
            refine zz_iinc (L' := [(4, .int (v4 + 1)), (2, .int 0), (5, .int 0), (0, .ref (ad 0)), (1, .int x1), (3, .int x3)]) 103 C dX5_areQuiet_100 rfl zz_i1 5 rfl (Nat.le_of_ble_eq_true rfl) rfl ?_
            refine zz_goto 15 C dX5_areQuiet_103 rfl ?_
            exact zz_sub [3, 4, 1, 5, 0] rfl (ih _ _ _ hf hex)
          · refine zz_iload 66 C dX5_areQuiet_64 rfl 0 rfl ?_
            refine zz_if_eqT 94 C dX5_areQuiet_66 rfl (by decide) ?_
            refine zz_iconst 95 C dX5_areQuiet_94 rfl zz_i1 ?_
            refine zz_goto 99 C dX5_areQuiet_95 rfl ?_
            refine zz_istore_n (L' := [(2, .int 1), (5, .int 0), (0, .ref (ad 0)), (1, .int x1), (3, .int x3), (4, .int v4)]) 100 C dX5_areQuiet_99 rfl (Nat.le_of_ble_eq_true rfl) rfl ?_
            refine zz_iinc (L' := [(4, .int (v4 + 1)), (2, .int 1), (5, .int 0), (0, .ref (ad 0)), (1, .int x1), (3, .int x3)]) 103 C dX5_areQuiet_100 rfl zz_i1 5 rfl (Nat.le_of_ble_eq_true rfl) rfl ?_
            refine zz_goto 15 C dX5_areQuiet_103 rfl ?_
            exact zz_sub [3, 4, 1, 5, 0] rfl (ih _ _ _ hf hex)
        · refine zz_aload_n 44 C dX5_areQuiet_43 rfl 0 rfl ?_
          refine zz_getR 47 C dX5_areQuiet_44 rfl fl_X5_16 sr_0 rfl ?_
          refine zz_iload 49 C dX5_areQuiet_47 rfl 4 rfl ?_
          obtain ⟨hi8, hf⟩ := zz_chk hf
          refine zz_iald 50 C sr_3 dX5_areQuiet_49 rfl hi8 ?_
          refine zz_if_lt 53 57 C dX5_areQuiet_50 rfl rfl hf (fun h9 hf => ?_) (fun h9 hf => ?_)
          · refine zz_iconst 58 C dX5_areQuiet_57 rfl zz_i0 ?_
            refine zz_istore (L' := [(5, .int 0), (0, .ref (ad 0)), (1, .int x1), (2, .int v2), (3, .int x3), (4, .int v4)]) 60 C dX5_areQuiet_58 rfl (Nat.le_of_ble_eq_true rfl) rfl ?_
            refine zz_iload_n 61 C dX5_areQuiet_60 rfl 3 rfl ?_
            refine zz_if_eq 64 98 C dX5_areQuiet_61 rfl rfl hf (fun h10 hf => ?_) (fun h10 hf => ?_)
            · refine zz_iconst 99 C dX5_areQuiet_98 rfl zz_i0 ?_
              refine zz_istore_n (L' := [(2, .int 0), (5, .int 0), (0, .ref (ad 0)), (1, .int x1), (3, .int x3), (4, .int v4)]) 100 C dX5_areQuiet_99 rfl (Nat.le_of_ble_eq_true rfl) rfl ?_
              refine zz_iinc (L' := [(4, .int (v4 + 1)), (2, .int 0), (5, .int 0), (0, .ref (ad 0)), (1, .int x1), (3, .int x3)]) 103 C dX5_areQuiet_100 rfl zz_i1 5 rfl (Nat.le_of_ble_eq_true rfl) rfl ?_
              refine zz_goto 15 C dX5_areQuiet_103 rfl ?_
              exact zz_sub [3, 4, 1, 5, 0] rfl (ih _ _ _ hf hex)
            · refine zz_iload 66 C dX5_areQuiet_64 rfl 0 rfl ?_
              refine zz_if_eqT 94 C dX5_areQuiet_66 rfl (by decide) ?_
              refine zz_iconst 95 C dX5_areQuiet_94 rfl zz_i1 ?_
              refine zz_goto 99 C dX5_areQuiet_95 rfl ?_
              refine zz_istore_n (L' := [(2, .int 1), (5, .int 0), (0, .ref (ad 0)), (1, .int x1), (3, .int x3), (4, .int v4)]) 100 C dX5_areQuiet_99 rfl (Nat.le_of_ble_eq_true rfl) rfl ?_
              refine zz_iinc (L' := [(4, .int (v4 + 1)), (2, .int 1), (5, .int 0), (0, .ref (ad 0)), (1, .int x1), (3, .int x3)]) 103 C dX5_areQuiet_100 rfl zz_i1 5 rfl (Nat.le_of_ble_eq_true rfl) rfl ?_
              refine zz_goto 15 C dX5_areQuiet_103 rfl ?_
              exact zz_sub [3, 4, 1, 5, 0] rfl (ih _ _ _ hf hex)
          · refine zz_iconst 54 C dX5_areQuiet_53 rfl zz_i1 ?_
            refine zz_goto 58 C dX5_areQuiet_54 rfl ?_
            refine zz_istore (L' := [(5, .int 1), (0, .ref (ad 0)), (1, .int x1), (2, .int v2), (3, .int x3), (4, .int v4)]) 60 C dX5_areQuiet_58 rfl (Nat.le_of_ble_eq_true rfl) rfl ?_
            refine zz_iload_n 61 C dX5_areQuiet_60 rfl 3 rfl ?_
            refine zz_if_eq 64 98 C dX5_areQuiet_61 rfl rfl hf (fun h11 hf => ?_) (fun h11 hf => ?_)
            · refine zz_iconst 99 C dX5_areQuiet_98 rfl zz_i0 ?_
              refine zz_istore_n (L' := [(2, .int 0), (5, .int 1), (0, .ref (ad 0)), (1, .int x1), (3, .int x3), (4, .int v4)]) 100 C dX5_areQuiet_99 rfl (Nat.le_of_ble_eq_true rfl) rfl ?_
              refine zz_iinc (L' := [(4, .int (v4 + 1)), (2, .int 0), (5, .int 1), (0, .ref (ad 0)), (1, .int x1), (3, .int x3)]) 103 C dX5_areQuiet_100 rfl zz_i1 5 rfl (Nat.le_of_ble_eq_true rfl) rfl ?_
              refine zz_goto 15 C dX5_areQuiet_103 rfl ?_
              exact zz_sub [3, 4, 1, 5, 0] rfl (ih _ _ _ hf hex)
            · refine zz_iload 66 C dX5_areQuiet_64 rfl 0 rfl ?_
              refine zz_if_eqF 69 94 C dX5_areQuiet_66 rfl rfl (by decide) ?_
              refine zz_aload_n 70 C dX5_areQuiet_69 rfl 1 rfl ?_
              refine zz_getR 73 C dX5_areQuiet_70 rfl fl_X5_52 sr_0 rfl ?_
              refine zz_bipush 75 C dX5_areQuiet_73 rfl zz_bp16 ?_
              refine zz_aload_n 76 C dX5_areQuiet_75 rfl 1 rfl ?_
              refine zz_getR 79 C dX5_areQuiet_76 rfl fl_X5_16 sr_0 rfl ?_
              refine zz_iload_n 80 C dX5_areQuiet_79 rfl 4 rfl ?_
              refine zz_iald 81 C sr_3 dX5_areQuiet_80 rfl hi5 ?_
              refine zz_imul 82 C dX5_areQuiet_81 rfl ?_
              refine zz_aload_n 83 C dX5_areQuiet_82 rfl 1 rfl ?_
              refine zz_getR 86 C dX5_areQuiet_83 rfl fl_X5_16 sr_0 rfl ?_
              refine zz_iload 88 C dX5_areQuiet_86 rfl 5 rfl ?_
              refine zz_iald 89 C sr_3 dX5_areQuiet_88 rfl hi8 ?_
              refine zz_iadd 90 C dX5_areQuiet_89 rfl ?_
              obtain ⟨hi12, hf⟩ := zz_chk hf
              refine zz_iald 91 C sr_15 dX5_areQuiet_90 rfl hi12 ?_
              refine zz_if_ne 94 98 C dX5_areQuiet_91 rfl rfl hf (fun h13 hf => ?_) (fun h13 hf => ?_)
              · refine zz_iconst 99 C dX5_areQuiet_98 rfl zz_i0 ?_
                refine zz_istore_n (L' := [(2, .int 0), (5, .int 1), (0, .ref (ad 0)), (1, .int x1), (3, .int x3), (4, .int v4)]) 100 C dX5_areQuiet_99 rfl (Nat.le_of_ble_eq_true rfl) rfl ?_
                refine zz_iinc (L' := [(4, .int (v4 + 1)), (2, .int 0), (5, .int 1), (0, .ref (ad 0)), (1, .int x1), (3, .int x3)]) 103 C dX5_areQuiet_100 rfl zz_i1 5 rfl (Nat.le_of_ble_eq_true rfl) rfl ?_
                refine zz_goto 15 C dX5_areQuiet_103 rfl ?_
                exact zz_sub [3, 4, 1, 5, 0] rfl (ih _ _ _ hf hex)
              · refine zz_iconst 95 C dX5_areQuiet_94 rfl zz_i1 ?_
                refine zz_goto 99 C dX5_areQuiet_95 rfl ?_
                refine zz_istore_n (L' := [(2, .int 1), (5, .int 1), (0, .ref (ad 0)), (1, .int x1), (3, .int x3), (4, .int v4)]) 100 C dX5_areQuiet_99 rfl (Nat.le_of_ble_eq_true rfl) rfl ?_
                refine zz_iinc (L' := [(4, .int (v4 + 1)), (2, .int 1), (5, .int 1), (0, .ref (ad 0)), (1, .int x1), (3, .int x3)]) 103 C dX5_areQuiet_100 rfl zz_i1 5 rfl (Nat.le_of_ble_eq_true rfl) rfl ?_
                refine zz_goto 15 C dX5_areQuiet_103 rfl ?_
                exact zz_sub [3, 4, 1, 5, 0] rfl (ih _ _ _ hf hex)
def f_X5_areQuiet_4 (x1 : Int32) : Nat → Int32 → Int32 → zz_Mem → Option (Int32 × Int32 × zz_Mem)
  | 0, _, _, _ => none
  | n + 1, v2, v3, M => (if (M 0 0) ≤ v3 then some (v2, v3, M) else zz_b3 (f_X5_areQuiet_15 x1 v3 5000 v2 0 M) (fun w14 w15 M16 => f_X5_areQuiet_4 x1 n w14 (v3 + 1) M16))
set_option maxHeartbeats 4000000 in
set_option maxRecDepth 100000 in
theorem l_X5_areQuiet_4 {p : Program} {l : Launch} {e : Env} {s : State} {m : MethodId} {args : Array Value} {below : List Frame} {meth : Method} {c : Code} {D : va_G} {cI : ClassId} {ad : Nat → Nat} {x1 : Int32} {w : Option Value} {Mf : zz_Mem} (C : zz_C p (zz_rm 0) s m args meth c D cI RX5 cX5_areQuiet 6 (some .boolean) 0 0) {w2 w3 : Int32} {M1 : zz_Mem} : ∀ {n : Nat} {v2 v3 : Int32} {M : zz_Mem}, f_X5_areQuiet_4 x1 n v2 v3 M = some (w2, w3, M1) → zz_V p l e (zz_rm 0) s m args below meth c D zz_SR cI ad (zz_A zz_SR ad) 6 0 0 (MQ below (zz_Q D zz_SR cI ad w Mf) args s 0 0 (zz_A zz_SR ad)) 112 [(0, .ref (ad 0)), (1, .int x1), (2, .int w2), (3, .int w3)] [] M1 → zz_V p l e (zz_rm 0) s m args below meth c D zz_SR cI ad (zz_A zz_SR ad) 6 0 0 (MQ below (zz_Q D zz_SR cI ad w Mf) args s 0 0 (zz_A zz_SR ad)) 4 [(0, .ref (ad 0)), (1, .int x1), (2, .int v2), (3, .int v3)] [] M := by
  intro n
  induction n with
  | zero =>
    intro v2 v3 M hf
    simp [f_X5_areQuiet_4] at hf
  | succ n ih0 =>
    intro v2 v3 M hf hex
    have ih := fun v2 v3 M hf => @ih0 v2 v3 M hf
    rw [f_X5_areQuiet_4] at hf
    refine zz_iload_n 5 C dX5_areQuiet_4 rfl 3 rfl ?_
    refine zz_aload_n 6 C dX5_areQuiet_5 rfl 0 rfl ?_
    refine zz_getI 9 C dX5_areQuiet_6 rfl fl_X5_64 sr_0 rfl ?_
    refine zz_icmp_ge 12 112 C dX5_areQuiet_9 rfl rfl hf (fun h1 hf => ?_) (fun h1 hf => ?_)
    · cases hf
      exact zz_sub [0, 1, 2, 3] rfl hex
    · refine zz_iconst 13 C dX5_areQuiet_12 rfl zz_i0 ?_
      refine zz_istore (L' := [(4, .int 0), (0, .ref (ad 0)), (1, .int x1), (2, .int v2), (3, .int v3)]) 15 C dX5_areQuiet_13 rfl (Nat.le_of_ble_eq_true rfl) rfl ?_
      obtain ⟨w14, w15, M16, hc17, hf⟩ := zz_b3E hf
      refine zz_sub [1, 2, 3, 4, 0] rfl (l_X5_areQuiet_15 C  hc17 ?_)
      refine zz_iinc (L' := [(3, .int (v3 + 1)), (0, .ref (ad 0)), (1, .int x1), (2, .int w14), (4, .int w15)]) 109 C dX5_areQuiet_106 rfl zz_i1 3 rfl (Nat.le_of_ble_eq_true rfl) rfl ?_
      refine zz_goto 4 C dX5_areQuiet_109 rfl ?_
      exact zz_sub [1, 2, 3, 0] rfl (ih _ _ _ hf hex)
def f_X5_areQuiet (a1 : Int32) (M : zz_Mem) : Option (Int32 × zz_Mem) := zz_b3 (f_X5_areQuiet_4 a1 5000 1 0 M) (fun w18 w19 M20 => (if w18 &&& 1 = w18 then some (w18, M20) else none))
set_option maxHeartbeats 4000000 in
set_option maxRecDepth 100000 in
theorem k_X5_areQuiet {l : Launch} {D : va_G} {cI : ClassId} {ad : Nat → Nat} {a1 : Int32} {r : Int32} {M M1 : zz_Mem} (hf : f_X5_areQuiet a1 M = some (r, M1)) : zz_K l D zz_SR cI ad 0 yX5_areQuiet cX5_areQuiet 6 (some .boolean) [.ref (ad 0), .int a1] M (some (.int r)) M1 := by
  unfold f_X5_areQuiet at hf
  refine zz_entry (own := RX5) (L := [(0, .ref (ad 0)), (1, .int a1)]) (by decide +kernel) rfl (Nat.le_of_ble_eq_true rfl) rfl (fun p e s m args below meth c C => ?_)
  refine zz_iconst 1 C dX5_areQuiet_0 rfl zz_i1 ?_
  refine zz_istore_n (L' := [(2, .int 1), (0, .ref (ad 0)), (1, .int a1)]) 2 C dX5_areQuiet_1 rfl (Nat.le_of_ble_eq_true rfl) rfl ?_
  refine zz_iconst 3 C dX5_areQuiet_2 rfl zz_i0 ?_
  refine zz_istore_n (L' := [(3, .int 0), (2, .int 1), (0, .ref (ad 0)), (1, .int a1)]) 4 C dX5_areQuiet_3 rfl (Nat.le_of_ble_eq_true rfl) rfl ?_
  obtain ⟨w18, w19, M20, hc21, hf⟩ := zz_b3E hf
  refine zz_sub [2, 3, 1, 0] rfl (l_X5_areQuiet_4 C  hc21 ?_)
  refine zz_iload_n 113 C dX5_areQuiet_112 rfl 2 rfl ?_
  obtain ⟨hz22, hf⟩ := zz_chk hf
  cases hf
  exact zz_zret C dX5_areQuiet_113 rfl rfl hz22
def f_X5_manyOf_4 (x0 : Int32) : Nat → Int32 → Int32 → zz_Mem → Option (Int32 × Int32 × zz_Mem)
  | 0, _, _, _ => none
  | n + 1, v1, v2, M => (if 6 ≤ v2 then some (v1, v2, M) else f_X5_manyOf_4 x0 n (v1 + ((x0 >>> (v2 &&& 31)) &&& 1)) (v2 + 1) M)
set_option maxHeartbeats 4000000 in
set_option maxRecDepth 100000 in
theorem l_X5_manyOf_4 {p : Program} {l : Launch} {e : Env} {s : State} {m : MethodId} {args : Array Value} {below : List Frame} {meth : Method} {c : Code} {D : va_G} {cI : ClassId} {ad : Nat → Nat} {S : List zz_Sh} {x0 : Int32} {w : Option Value} {Mf : zz_Mem} (C : zz_C p (zz_rm 0) s m args meth c D cI RX5 cX5_manyOf 3 (some .int) 0 0) {w1 w2 : Int32} {M1 : zz_Mem} : ∀ {n : Nat} {v1 v2 : Int32} {M : zz_Mem}, f_X5_manyOf_4 x0 n v1 v2 M = some (w1, w2, M1) → zz_V p l e (zz_rm 0) s m args below meth c D S cI ad (zz_A S ad) 3 0 0 (MQ below (zz_Q D S cI ad w Mf) args s 0 0 (zz_A S ad)) 24 [(0, .int x0), (1, .int w1), (2, .int w2)] [] M1 → zz_V p l e (zz_rm 0) s m args below meth c D S cI ad (zz_A S ad) 3 0 0 (MQ below (zz_Q D S cI ad w Mf) args s 0 0 (zz_A S ad)) 4 [(0, .int x0), (1, .int v1), (2, .int v2)] [] M := by
  intro n
  induction n with
  | zero =>
    intro v1 v2 M hf
    simp [f_X5_manyOf_4] at hf
  | succ n ih0 =>
    intro v1 v2 M hf hex
    have ih := fun v1 v2 M hf => @ih0 v1 v2 M hf
    rw [f_X5_manyOf_4] at hf
    refine zz_iload_n 5 C dX5_manyOf_4 rfl 2 rfl ?_
    refine zz_bipush 7 C dX5_manyOf_5 rfl zz_bp6 ?_
    refine zz_icmp_ge 10 24 C dX5_manyOf_7 rfl rfl hf (fun h1 hf => ?_) (fun h1 hf => ?_)
    · cases hf
      exact zz_sub [0, 1, 2] rfl hex
    · refine zz_iload_n 11 C dX5_manyOf_10 rfl 1 rfl ?_
      refine zz_iload_n 12 C dX5_manyOf_11 rfl 0 rfl ?_
      refine zz_iload_n 13 C dX5_manyOf_12 rfl 2 rfl ?_
      refine zz_ishr 14 C dX5_manyOf_13 rfl ?_
      refine zz_iconst 15 C dX5_manyOf_14 rfl zz_i1 ?_
      refine zz_iand 16 C dX5_manyOf_15 rfl ?_
      refine zz_iadd 17 C dX5_manyOf_16 rfl ?_
      refine zz_istore_n (L' := [(1, .int (v1 + ((x0 >>> (v2 &&& 31)) &&& 1))), (0, .int x0), (2, .int v2)]) 18 C dX5_manyOf_17 rfl (Nat.le_of_ble_eq_true rfl) rfl ?_
      refine zz_iinc (L' := [(2, .int (v2 + 1)), (1, .int (v1 + ((x0 >>> (v2 &&& 31)) &&& 1))), (0, .int x0)]) 21 C dX5_manyOf_18 rfl zz_i1 2 rfl (Nat.le_of_ble_eq_true rfl) rfl ?_
      refine zz_goto 4 C dX5_manyOf_21 rfl ?_
      exact zz_sub [2, 1, 0] rfl (ih _ _ _ hf hex)
def f_X5_manyOf (a0 : Int32) (M : zz_Mem) : Option (Int32 × zz_Mem) := zz_b3 (f_X5_manyOf_4 a0 5000 0 0 M) (fun w2 w3 M4 => some (w2, M4))
set_option maxHeartbeats 4000000 in
set_option maxRecDepth 100000 in
theorem k_X5_manyOf {l : Launch} {D : va_G} {cI : ClassId} {ad : Nat → Nat} {S : List zz_Sh} {a0 : Int32} {r : Int32} {M M1 : zz_Mem} (hf : f_X5_manyOf a0 M = some (r, M1)) : zz_K l D S cI ad 0 yX5_manyOf cX5_manyOf 3 (some .int) [.int a0] M (some (.int r)) M1 := by
  unfold f_X5_manyOf at hf
  refine zz_entry (own := RX5) (L := [(0, .int a0)]) (by decide +kernel) rfl (Nat.le_of_ble_eq_true rfl) rfl (fun p e s m args below meth c C => ?_)
  refine zz_iconst 1 C dX5_manyOf_0 rfl zz_i0 ?_
  refine zz_istore_n (L' := [(1, .int 0), (0, .int a0)]) 2 C dX5_manyOf_1 rfl (Nat.le_of_ble_eq_true rfl) rfl ?_
  refine zz_iconst 3 C dX5_manyOf_2 rfl zz_i0 ?_
  refine zz_istore_n (L' := [(2, .int 0), (1, .int 0), (0, .int a0)]) 4 C dX5_manyOf_3 rfl (Nat.le_of_ble_eq_true rfl) rfl ?_
  obtain ⟨w2, w3, M4, hc5, hf⟩ := zz_b3E hf
  refine zz_sub [2, 1, 0] rfl (l_X5_manyOf_4 C  hc5 ?_)
  refine zz_iload_n 25 C dX5_manyOf_24 rfl 1 rfl ?_
  cases hf
  exact zz_iret C dX5_manyOf_25 rfl rfl
def f_X5_reshoot_11 : Nat → Int32 → Int32 → Int32 → zz_Mem → Option (Int32 × Int32 × Int32 × zz_Mem)
  | 0, _, _, _, _ => none
  | n + 1, v1, v2, v3, M => (if (1 <<< ((M 0 0) &&& 31)) ≤ v3 then some (v1, v2, v3, M) else zz_b2 (f_X5_manyOf v3 M) (fun r6 M5 => (if v2 ≤ r6 then f_X5_reshoot_11 n v1 v2 (v3 + 1) M5 else zz_b2 (f_X5_areQuiet v3 M5) (fun r10 M9 => (if r10 = 0 then f_X5_reshoot_11 n v1 v2 (v3 + 1) M9 else zz_b2 (f_X5_manyOf v3 M9) (fun r14 M13 => f_X5_reshoot_11 n v3 r14 (v3 + 1) M13))))))
set_option maxHeartbeats 4000000 in
set_option maxRecDepth 100000 in
theorem l_X5_reshoot_11 {p : Program} {l : Launch} {e : Env} {s : State} {m : MethodId} {args : Array Value} {below : List Frame} {meth : Method} {c : Code} {D : va_G} {cI : ClassId} {ad : Nat → Nat} {w : Option Value} {Mf : zz_Mem} (C : zz_C p (zz_rm 5) s m args meth c D cI RX5 cX5_reshoot 4 (some .int) 0 0) {w1 w2 w3 : Int32} {M1 : zz_Mem} : ∀ {n : Nat} {v1 v2 v3 : Int32} {M : zz_Mem}, f_X5_reshoot_11 n v1 v2 v3 M = some (w1, w2, w3, M1) → zz_V p l e (zz_rm 5) s m args below meth c D zz_SR cI ad (zz_A zz_SR ad) 4 0 0 (MQ below (zz_Q D zz_SR cI ad w Mf) args s 0 0 (zz_A zz_SR ad)) 50 [(0, .ref (ad 0)), (1, .int w1), (2, .int w2), (3, .int w3)] [] M1 → zz_V p l e (zz_rm 5) s m args below meth c D zz_SR cI ad (zz_A zz_SR ad) 4 0 0 (MQ below (zz_Q D zz_SR cI ad w Mf) args s 0 0 (zz_A zz_SR ad)) 11 [(0, .ref (ad 0)), (1, .int v1), (2, .int v2), (3, .int v3)] [] M := by
  intro n
  induction n with
  | zero =>
    intro v1 v2 v3 M hf
    simp [f_X5_reshoot_11] at hf
  | succ n ih0 =>
    intro v1 v2 v3 M hf hex
    have ih := fun v1 v2 v3 M hf => @ih0 v1 v2 v3 M hf
    rw [f_X5_reshoot_11] at hf
    refine zz_iload_n 12 C dX5_reshoot_11 rfl 3 rfl ?_
    refine zz_iconst 13 C dX5_reshoot_12 rfl zz_i1 ?_
    refine zz_aload_n 14 C dX5_reshoot_13 rfl 0 rfl ?_
    refine zz_getI 17 C dX5_reshoot_14 rfl fl_X5_64 sr_0 rfl ?_
    refine zz_ishl 18 C dX5_reshoot_17 rfl ?_
    refine zz_icmp_ge 21 50 C dX5_reshoot_18 rfl rfl hf (fun h3 hf => ?_) (fun h3 hf => ?_)
    · cases hf
      exact zz_sub [0, 1, 2, 3] rfl hex
    · refine zz_iload_n 22 C dX5_reshoot_21 rfl 3 rfl ?_
      obtain ⟨r6, M5, hc4, hf⟩ := zz_b2E hf
      refine zz_callS 25 [.int v3] C dX5_reshoot_22 rfl ml_X5_152 (k_X5_manyOf hc4) rfl rfl rfl (Nat.le_of_ble_eq_true rfl) (zz_hR (Nat.le_of_ble_eq_true rfl) (Nat.le_of_ble_eq_true rfl)) ?_
      refine zz_iload_n 26 C dX5_reshoot_25 rfl 2 rfl ?_
      refine zz_icmp_ge 29 44 C dX5_reshoot_26 rfl rfl hf (fun h7 hf => ?_) (fun h7 hf => ?_)
      · refine zz_iinc (L' := [(3, .int (v3 + 1)), (0, .ref (ad 0)), (1, .int v1), (2, .int v2)]) 47 C dX5_reshoot_44 rfl zz_i1 3 rfl (Nat.le_of_ble_eq_true rfl) rfl ?_
        refine zz_goto 11 C dX5_reshoot_47 rfl ?_
        exact zz_sub [1, 2, 3, 0] rfl (ih _ _ _ _ hf hex)
      · refine zz_aload_n 30 C dX5_reshoot_29 rfl 0 rfl ?_
        refine zz_iload_n 31 C dX5_reshoot_30 rfl 3 rfl ?_
        obtain ⟨r10, M9, hc8, hf⟩ := zz_b2E hf
        refine zz_callV 34 [.int v3] C dX5_reshoot_31 rfl ml_X5_155 (k_X5_areQuiet hc8) sr_0 (vC := vwCl[5]) rfl rfl rfl rfl rfl (Nat.le_of_ble_eq_true rfl) (zz_hR (Nat.le_of_ble_eq_true rfl) (Nat.le_of_ble_eq_true rfl)) ?_
        refine zz_if_eq 37 44 C dX5_reshoot_34 rfl rfl hf (fun h11 hf => ?_) (fun h11 hf => ?_)
        · refine zz_iinc (L' := [(3, .int (v3 + 1)), (0, .ref (ad 0)), (1, .int v1), (2, .int v2)]) 47 C dX5_reshoot_44 rfl zz_i1 3 rfl (Nat.le_of_ble_eq_true rfl) rfl ?_
          refine zz_goto 11 C dX5_reshoot_47 rfl ?_
          exact zz_sub [1, 2, 3, 0] rfl (ih _ _ _ _ hf hex)
        · refine zz_iload_n 38 C dX5_reshoot_37 rfl 3 rfl ?_
          obtain ⟨r14, M13, hc12, hf⟩ := zz_b2E hf
          refine zz_callS 41 [.int v3] C dX5_reshoot_38 rfl ml_X5_152 (k_X5_manyOf hc12) rfl rfl rfl (Nat.le_of_ble_eq_true rfl) (zz_hR (Nat.le_of_ble_eq_true rfl) (Nat.le_of_ble_eq_true rfl)) ?_
          refine zz_istore_n (L' := [(2, .int r14), (0, .ref (ad 0)), (1, .int v1), (3, .int v3)]) 42 C dX5_reshoot_41 rfl (Nat.le_of_ble_eq_true rfl) rfl ?_
          refine zz_iload_n 43 C dX5_reshoot_42 rfl 3 rfl ?_
          refine zz_istore_n (L' := [(1, .int v3), (2, .int r14), (0, .ref (ad 0)), (3, .int v3)]) 44 C dX5_reshoot_43 rfl (Nat.le_of_ble_eq_true rfl) rfl ?_
          refine zz_iinc (L' := [(3, .int (v3 + 1)), (1, .int v3), (2, .int r14), (0, .ref (ad 0))]) 47 C dX5_reshoot_44 rfl zz_i1 3 rfl (Nat.le_of_ble_eq_true rfl) rfl ?_
          refine zz_goto 11 C dX5_reshoot_47 rfl ?_
          exact zz_sub [3, 1, 2, 0] rfl (ih _ _ _ _ hf hex)
def f_X5_reshoot (M : zz_Mem) : Option (Int32 × zz_Mem) := zz_b1 (f_X5_findNoises M) (fun M2 => zz_b4 (f_X5_reshoot_11 5000 0 7 0 M2) (fun w15 w16 w17 M18 => some (w15, M18)))
set_option maxHeartbeats 4000000 in
set_option maxRecDepth 100000 in
theorem k_X5_reshoot {l : Launch} {D : va_G} {cI : ClassId} {ad : Nat → Nat} {r : Int32} {M M1 : zz_Mem} (hf : f_X5_reshoot M = some (r, M1)) : zz_K l D zz_SR cI ad 5 yX5_reshoot cX5_reshoot 4 (some .int) [.ref (ad 0)] M (some (.int r)) M1 := by
  unfold f_X5_reshoot at hf
  refine zz_entry (own := RX5) (L := [(0, .ref (ad 0))]) (by decide +kernel) rfl (Nat.le_of_ble_eq_true rfl) rfl (fun p e s m args below meth c C => ?_)
  refine zz_aload_n 1 C dX5_reshoot_0 rfl 0 rfl ?_
  obtain ⟨M2, hc1, hf⟩ := zz_b1E hf
  refine zz_callV 4 [] C dX5_reshoot_1 rfl ml_X5_111 (k_X5_findNoises hc1) sr_0 (vC := vwCl[5]) rfl rfl rfl rfl rfl (Nat.le_of_ble_eq_true rfl) (zz_hR (Nat.le_of_ble_eq_true rfl) (Nat.le_of_ble_eq_true rfl)) ?_
  refine zz_iconst 5 C dX5_reshoot_4 rfl zz_i0 ?_
  refine zz_istore_n (L' := [(1, .int 0), (0, .ref (ad 0))]) 6 C dX5_reshoot_5 rfl (Nat.le_of_ble_eq_true rfl) rfl ?_
  refine zz_bipush 8 C dX5_reshoot_6 rfl zz_bp7 ?_
  refine zz_istore_n (L' := [(2, .int 7), (1, .int 0), (0, .ref (ad 0))]) 9 C dX5_reshoot_8 rfl (Nat.le_of_ble_eq_true rfl) rfl ?_
  refine zz_iconst 10 C dX5_reshoot_9 rfl zz_i0 ?_
  refine zz_istore_n (L' := [(3, .int 0), (2, .int 7), (1, .int 0), (0, .ref (ad 0))]) 11 C dX5_reshoot_10 rfl (Nat.le_of_ble_eq_true rfl) rfl ?_
  obtain ⟨w15, w16, w17, M18, hc19, hf⟩ := zz_b4E hf
  refine zz_sub [3, 2, 1, 0] rfl (l_X5_reshoot_11 C  hc19 ?_)
  refine zz_iload_n 51 C dX5_reshoot_50 rfl 1 rfl ?_
  cases hf
  exact zz_iret C dX5_reshoot_51 rfl rfl
def f_X5_clashes_25 (x1 x3 : Int32) : Nat → Int32 → Int32 → zz_Mem → Option (Int32 × Int32 × zz_Mem)
  | 0, _, _, _ => none
  | n + 1, v2, v4, M => (if x3 ≤ v4 then some (v2, v4, M) else (if zz_in x3 6 then (if (M 3 x3.toNatClampNeg) < 0 then f_X5_clashes_25 x1 x3 n (v2 + 0) (v4 + 1) M else (if zz_in v4 6 then (if (M 3 v4.toNatClampNeg) < 0 then f_X5_clashes_25 x1 x3 n (v2 + 0) (v4 + 1) M else zz_b2 (f_X5_doClash (M 3 x3.toNatClampNeg) (M 3 v4.toNatClampNeg) x1 M) (fun r13 M12 => (if r13 = 0 then f_X5_clashes_25 x1 x3 n (v2 + 0) (v4 + 1) M12 else f_X5_clashes_25 x1 x3 n (v2 + 1) (v4 + 1) M12))) else none)) else none))
set_option maxHeartbeats 4000000 in
set_option maxRecDepth 100000 in
theorem l_X5_clashes_25 {p : Program} {l : Launch} {e : Env} {s : State} {m : MethodId} {args : Array Value} {below : List Frame} {meth : Method} {c : Code} {D : va_G} {cI : ClassId} {ad : Nat → Nat} {x1 x3 : Int32} {w : Option Value} {Mf : zz_Mem} (C : zz_C p (zz_rm 3) s m args meth c D cI RX5 cX5_clashes 5 (some .int) 0 0) {w2 w4 : Int32} {M1 : zz_Mem} : ∀ {n : Nat} {v2 v4 : Int32} {M : zz_Mem}, f_X5_clashes_25 x1 x3 n v2 v4 M = some (w2, w4, M1) → zz_V p l e (zz_rm 3) s m args below meth c D zz_SR cI ad (zz_A zz_SR ad) 5 0 0 (MQ below (zz_Q D zz_SR cI ad w Mf) args s 0 0 (zz_A zz_SR ad)) 85 [(0, .ref (ad 0)), (1, .int x1), (2, .int w2), (3, .int x3), (4, .int w4)] [] M1 → zz_V p l e (zz_rm 3) s m args below meth c D zz_SR cI ad (zz_A zz_SR ad) 5 0 0 (MQ below (zz_Q D zz_SR cI ad w Mf) args s 0 0 (zz_A zz_SR ad)) 25 [(0, .ref (ad 0)), (1, .int x1), (2, .int v2), (3, .int x3), (4, .int v4)] [] M := by
  intro n
  induction n with
  | zero =>
    intro v2 v4 M hf
    simp [f_X5_clashes_25] at hf
  | succ n ih0 =>
    intro v2 v4 M hf hex
    have ih := fun v2 v4 M hf => @ih0 v2 v4 M hf
    rw [f_X5_clashes_25] at hf
    refine zz_iload 27 C dX5_clashes_25 rfl 4 rfl ?_
    refine zz_iload_n 28 C dX5_clashes_27 rfl 3 rfl ?_
    refine zz_icmp_ge 31 85 C dX5_clashes_28 rfl rfl hf (fun h6 hf => ?_) (fun h6 hf => ?_)
    · cases hf
      exact zz_sub [0, 1, 2, 3, 4] rfl hex
    · refine zz_iload_n 32 C dX5_clashes_31 rfl 2 rfl ?_
      refine zz_aload_n 33 C dX5_clashes_32 rfl 0 rfl ?_
      refine zz_getR 36 C dX5_clashes_33 rfl fl_X5_16 sr_0 rfl ?_
      refine zz_iload_n 37 C dX5_clashes_36 rfl 3 rfl ?_
      obtain ⟨hi7, hf⟩ := zz_chk hf
      refine zz_iald 38 C sr_3 dX5_clashes_37 rfl hi7 ?_
      refine zz_if_lt 41 76 C dX5_clashes_38 rfl rfl hf (fun h8 hf => ?_) (fun h8 hf => ?_)
      · refine zz_iconst 77 C dX5_clashes_76 rfl zz_i0 ?_
        refine zz_iadd 78 C dX5_clashes_77 rfl ?_
        refine zz_istore_n (L' := [(2, .int (v2 + 0)), (0, .ref (ad 0)), (1, .int x1), (3, .int x3), (4, .int v4)]) 79 C dX5_clashes_78 rfl (Nat.le_of_ble_eq_true rfl) rfl ?_
        refine zz_iinc (L' := [(4, .int (v4 + 1)), (2, .int (v2 + 0)), (0, .ref (ad 0)), (1, .int x1), (3, .int x3)]) 82 C dX5_clashes_79 rfl zz_i1 4 rfl (Nat.le_of_ble_eq_true rfl) rfl ?_
        refine zz_goto 25 C dX5_clashes_82 rfl ?_
        exact zz_sub [2, 3, 1, 4, 0] rfl (ih _ _ _ hf hex)
      · refine zz_aload_n 42 C dX5_clashes_41 rfl 0 rfl ?_
        refine zz_getR 45 C dX5_clashes_42 rfl fl_X5_16 sr_0 rfl ?_
        refine zz_iload 47 C dX5_clashes_45 rfl 4 rfl ?_
        obtain ⟨hi9, hf⟩ := zz_chk hf
        refine zz_iald 48 C sr_3 dX5_clashes_47 rfl hi9 ?_
        refine zz_if_lt 51 76 C dX5_clashes_48 rfl rfl hf (fun h10 hf => ?_) (fun h10 hf => ?_)
        · refine zz_iconst 77 C dX5_clashes_76 rfl zz_i0 ?_
          refine zz_iadd 78 C dX5_clashes_77 rfl ?_
          refine zz_istore_n (L' := [(2, .int (v2 + 0)), (0, .ref (ad 0)), (1, .int x1), (3, .int x3), (4, .int v4)]) 79 C dX5_clashes_78 rfl (Nat.le_of_ble_eq_true rfl) rfl ?_
          refine zz_iinc (L' := [(4, .int (v4 + 1)), (2, .int (v2 + 0)), (0, .ref (ad 0)), (1, .int x1), (3, .int x3)]) 82 C dX5_clashes_79 rfl zz_i1 4 rfl (Nat.le_of_ble_eq_true rfl) rfl ?_
          refine zz_goto 25 C dX5_clashes_82 rfl ?_
          exact zz_sub [2, 3, 1, 4, 0] rfl (ih _ _ _ hf hex)
        · refine zz_aload_n 52 C dX5_clashes_51 rfl 0 rfl ?_
          refine zz_aload_n 53 C dX5_clashes_52 rfl 0 rfl ?_
          refine zz_getR 56 C dX5_clashes_53 rfl fl_X5_16 sr_0 rfl ?_
          refine zz_iload_n 57 C dX5_clashes_56 rfl 3 rfl ?_
          refine zz_iald 58 C sr_3 dX5_clashes_57 rfl hi7 ?_
          refine zz_aload_n 59 C dX5_clashes_58 rfl 0 rfl ?_
          refine zz_getR 62 C dX5_clashes_59 rfl fl_X5_16 sr_0 rfl ?_
          refine zz_iload 64 C dX5_clashes_62 rfl 4 rfl ?_
          refine zz_iald 65 C sr_3 dX5_clashes_64 rfl hi9 ?_
          refine zz_iload_n 66 C dX5_clashes_65 rfl 1 rfl ?_
          obtain ⟨r13, M12, hc11, hf⟩ := zz_b2E hf
          refine zz_callV 69 [.int (M 3 x3.toNatClampNeg), .int (M 3 v4.toNatClampNeg), .int x1] C dX5_clashes_66 rfl ml_X5_104 (k_X5_doClash hc11) sr_0 (vC := vwCl[5]) rfl rfl rfl rfl rfl (Nat.le_of_ble_eq_true rfl) (zz_hR (Nat.le_of_ble_eq_true rfl) (Nat.le_of_ble_eq_true rfl)) ?_
          refine zz_if_eq 72 76 C dX5_clashes_69 rfl rfl hf (fun h14 hf => ?_) (fun h14 hf => ?_)
          · refine zz_iconst 77 C dX5_clashes_76 rfl zz_i0 ?_
            refine zz_iadd 78 C dX5_clashes_77 rfl ?_
            refine zz_istore_n (L' := [(2, .int (v2 + 0)), (0, .ref (ad 0)), (1, .int x1), (3, .int x3), (4, .int v4)]) 79 C dX5_clashes_78 rfl (Nat.le_of_ble_eq_true rfl) rfl ?_
            refine zz_iinc (L' := [(4, .int (v4 + 1)), (2, .int (v2 + 0)), (0, .ref (ad 0)), (1, .int x1), (3, .int x3)]) 82 C dX5_clashes_79 rfl zz_i1 4 rfl (Nat.le_of_ble_eq_true rfl) rfl ?_
            refine zz_goto 25 C dX5_clashes_82 rfl ?_
            exact zz_sub [2, 3, 1, 4, 0] rfl (ih _ _ _ hf hex)
          · refine zz_iconst 73 C dX5_clashes_72 rfl zz_i1 ?_
            refine zz_goto 77 C dX5_clashes_73 rfl ?_
            refine zz_iadd 78 C dX5_clashes_77 rfl ?_
            refine zz_istore_n (L' := [(2, .int (v2 + 1)), (0, .ref (ad 0)), (1, .int x1), (3, .int x3), (4, .int v4)]) 79 C dX5_clashes_78 rfl (Nat.le_of_ble_eq_true rfl) rfl ?_
            refine zz_iinc (L' := [(4, .int (v4 + 1)), (2, .int (v2 + 1)), (0, .ref (ad 0)), (1, .int x1), (3, .int x3)]) 82 C dX5_clashes_79 rfl zz_i1 4 rfl (Nat.le_of_ble_eq_true rfl) rfl ?_
            refine zz_goto 25 C dX5_clashes_82 rfl ?_
            exact zz_sub [2, 3, 1, 4, 0] rfl (ih _ _ _ hf hex)
def f_X5_clashes_14 (x1 : Int32) : Nat → Int32 → Int32 → zz_Mem → Option (Int32 × Int32 × zz_Mem)
  | 0, _, _, _ => none
  | n + 1, v2, v3, M => (if (M 0 0) ≤ v3 then some (v2, v3, M) else zz_b3 (f_X5_clashes_25 x1 v3 5000 v2 0 M) (fun w15 w16 M17 => f_X5_clashes_14 x1 n w15 (v3 + 1) M17))
set_option maxHeartbeats 4000000 in
set_option maxRecDepth 100000 in
theorem l_X5_clashes_14 {p : Program} {l : Launch} {e : Env} {s : State} {m : MethodId} {args : Array Value} {below : List Frame} {meth : Method} {c : Code} {D : va_G} {cI : ClassId} {ad : Nat → Nat} {x1 : Int32} {w : Option Value} {Mf : zz_Mem} (C : zz_C p (zz_rm 3) s m args meth c D cI RX5 cX5_clashes 5 (some .int) 0 0) {w2 w3 : Int32} {M1 : zz_Mem} : ∀ {n : Nat} {v2 v3 : Int32} {M : zz_Mem}, f_X5_clashes_14 x1 n v2 v3 M = some (w2, w3, M1) → zz_V p l e (zz_rm 3) s m args below meth c D zz_SR cI ad (zz_A zz_SR ad) 5 0 0 (MQ below (zz_Q D zz_SR cI ad w Mf) args s 0 0 (zz_A zz_SR ad)) 91 [(0, .ref (ad 0)), (1, .int x1), (2, .int w2), (3, .int w3)] [] M1 → zz_V p l e (zz_rm 3) s m args below meth c D zz_SR cI ad (zz_A zz_SR ad) 5 0 0 (MQ below (zz_Q D zz_SR cI ad w Mf) args s 0 0 (zz_A zz_SR ad)) 14 [(0, .ref (ad 0)), (1, .int x1), (2, .int v2), (3, .int v3)] [] M := by
  intro n
  induction n with
  | zero =>
    intro v2 v3 M hf
    simp [f_X5_clashes_14] at hf
  | succ n ih0 =>
    intro v2 v3 M hf hex
    have ih := fun v2 v3 M hf => @ih0 v2 v3 M hf
    rw [f_X5_clashes_14] at hf
    refine zz_iload_n 15 C dX5_clashes_14 rfl 3 rfl ?_
    refine zz_aload_n 16 C dX5_clashes_15 rfl 0 rfl ?_
    refine zz_getI 19 C dX5_clashes_16 rfl fl_X5_64 sr_0 rfl ?_
    refine zz_icmp_ge 22 91 C dX5_clashes_19 rfl rfl hf (fun h5 hf => ?_) (fun h5 hf => ?_)
    · cases hf
      exact zz_sub [0, 1, 2, 3] rfl hex
    · refine zz_iconst 23 C dX5_clashes_22 rfl zz_i0 ?_
      refine zz_istore (L' := [(4, .int 0), (0, .ref (ad 0)), (1, .int x1), (2, .int v2), (3, .int v3)]) 25 C dX5_clashes_23 rfl (Nat.le_of_ble_eq_true rfl) rfl ?_
      obtain ⟨w15, w16, M17, hc18, hf⟩ := zz_b3E hf
      refine zz_sub [1, 2, 3, 4, 0] rfl (l_X5_clashes_25 C  hc18 ?_)
      refine zz_iinc (L' := [(3, .int (v3 + 1)), (0, .ref (ad 0)), (1, .int x1), (2, .int w15), (4, .int w16)]) 88 C dX5_clashes_85 rfl zz_i1 3 rfl (Nat.le_of_ble_eq_true rfl) rfl ?_
      refine zz_goto 14 C dX5_clashes_88 rfl ?_
      exact zz_sub [1, 2, 3, 0] rfl (ih _ _ _ hf hex)
def f_X5_clashes (a1 : Int32) (M : zz_Mem) : Option (Int32 × zz_Mem) := zz_b2 (f_X5_isThing a1 M) (fun r3 M2 => (if r3 = 0 then some ((-1), M2) else zz_b3 (f_X5_clashes_14 a1 5000 0 0 M2) (fun w19 w20 M21 => some (w19, M21))))
set_option maxHeartbeats 4000000 in
set_option maxRecDepth 100000 in
theorem k_X5_clashes {l : Launch} {D : va_G} {cI : ClassId} {ad : Nat → Nat} {a1 : Int32} {r : Int32} {M M1 : zz_Mem} (hf : f_X5_clashes a1 M = some (r, M1)) : zz_K l D zz_SR cI ad 3 yX5_clashes cX5_clashes 5 (some .int) [.ref (ad 0), .int a1] M (some (.int r)) M1 := by
  unfold f_X5_clashes at hf
  refine zz_entry (own := RX5) (L := [(0, .ref (ad 0)), (1, .int a1)]) (by decide +kernel) rfl (Nat.le_of_ble_eq_true rfl) rfl (fun p e s m args below meth c C => ?_)
  refine zz_aload_n 1 C dX5_clashes_0 rfl 0 rfl ?_
  refine zz_iload_n 2 C dX5_clashes_1 rfl 1 rfl ?_
  obtain ⟨r3, M2, hc1, hf⟩ := zz_b2E hf
  refine zz_callV 5 [.int a1] C dX5_clashes_2 rfl ml_X5_82 (k_X5_isThing hc1) sr_0 (vC := vwCl[5]) rfl rfl rfl rfl rfl (Nat.le_of_ble_eq_true rfl) (zz_hR (Nat.le_of_ble_eq_true rfl) (Nat.le_of_ble_eq_true rfl)) ?_
  refine zz_if_ne 8 10 C dX5_clashes_5 rfl rfl hf (fun h4 hf => ?_) (fun h4 hf => ?_)
  · refine zz_iconst 11 C dX5_clashes_10 rfl zz_i0 ?_
    refine zz_istore_n (L' := [(2, .int 0), (0, .ref (ad 0)), (1, .int a1)]) 12 C dX5_clashes_11 rfl (Nat.le_of_ble_eq_true rfl) rfl ?_
    refine zz_iconst 13 C dX5_clashes_12 rfl zz_i0 ?_
    refine zz_istore_n (L' := [(3, .int 0), (2, .int 0), (0, .ref (ad 0)), (1, .int a1)]) 14 C dX5_clashes_13 rfl (Nat.le_of_ble_eq_true rfl) rfl ?_
    obtain ⟨w19, w20, M21, hc22, hf⟩ := zz_b3E hf
    refine zz_sub [2, 3, 1, 0] rfl (l_X5_clashes_14 C  hc22 ?_)
    refine zz_iload_n 92 C dX5_clashes_91 rfl 2 rfl ?_
    cases hf
    exact zz_iret C dX5_clashes_92 rfl rfl
  · refine zz_iconst 9 C dX5_clashes_8 rfl zz_im1 ?_
    cases hf
    exact zz_iret C dX5_clashes_9 rfl rfl
def f_X5_pairs_14 (x2 : Int32) : Nat → Int32 → Int32 → zz_Mem → Option (Int32 × Int32 × zz_Mem)
  | 0, _, _, _ => none
  | n + 1, v1, v3, M => (if x2 ≤ v3 then some (v1, v3, M) else zz_b2 (f_X5_noiseOf x2 v3 M) (fun r5 M4 => (if r5 ≤ 0 then f_X5_pairs_14 x2 n (v1 + 0) (v3 + 1) M4 else f_X5_pairs_14 x2 n (v1 + 1) (v3 + 1) M4)))
set_option maxHeartbeats 4000000 in
set_option maxRecDepth 100000 in
theorem l_X5_pairs_14 {p : Program} {l : Launch} {e : Env} {s : State} {m : MethodId} {args : Array Value} {below : List Frame} {meth : Method} {c : Code} {D : va_G} {cI : ClassId} {ad : Nat → Nat} {x2 : Int32} {w : Option Value} {Mf : zz_Mem} (C : zz_C p (zz_rm 4) s m args meth c D cI RX5 cX5_pairs 4 (some .int) 0 0) {w1 w3 : Int32} {M1 : zz_Mem} : ∀ {n : Nat} {v1 v3 : Int32} {M : zz_Mem}, f_X5_pairs_14 x2 n v1 v3 M = some (w1, w3, M1) → zz_V p l e (zz_rm 4) s m args below meth c D zz_SR cI ad (zz_A zz_SR ad) 4 0 0 (MQ below (zz_Q D zz_SR cI ad w Mf) args s 0 0 (zz_A zz_SR ad)) 42 [(0, .ref (ad 0)), (1, .int w1), (2, .int x2), (3, .int w3)] [] M1 → zz_V p l e (zz_rm 4) s m args below meth c D zz_SR cI ad (zz_A zz_SR ad) 4 0 0 (MQ below (zz_Q D zz_SR cI ad w Mf) args s 0 0 (zz_A zz_SR ad)) 14 [(0, .ref (ad 0)), (1, .int v1), (2, .int x2), (3, .int v3)] [] M := by
  intro n
  induction n with
  | zero =>
    intro v1 v3 M hf
    simp [f_X5_pairs_14] at hf
  | succ n ih0 =>
    intro v1 v3 M hf hex
    have ih := fun v1 v3 M hf => @ih0 v1 v3 M hf
    rw [f_X5_pairs_14] at hf
    refine zz_iload_n 15 C dX5_pairs_14 rfl 3 rfl ?_
    refine zz_iload_n 16 C dX5_pairs_15 rfl 2 rfl ?_
    refine zz_icmp_ge 19 42 C dX5_pairs_16 rfl rfl hf (fun h2 hf => ?_) (fun h2 hf => ?_)
    · cases hf
      exact zz_sub [0, 1, 2, 3] rfl hex
    · refine zz_iload_n 20 C dX5_pairs_19 rfl 1 rfl ?_
      refine zz_aload_n 21 C dX5_pairs_20 rfl 0 rfl ?_
      refine zz_iload_n 22 C dX5_pairs_21 rfl 2 rfl ?_
      refine zz_iload_n 23 C dX5_pairs_22 rfl 3 rfl ?_
      obtain ⟨r5, M4, hc3, hf⟩ := zz_b2E hf
      refine zz_callV 26 [.int x2, .int v3] C dX5_pairs_23 rfl ml_X5_107 (k_X5_noiseOf hc3) sr_0 (vC := vwCl[5]) rfl rfl rfl rfl rfl (Nat.le_of_ble_eq_true rfl) (zz_hR (Nat.le_of_ble_eq_true rfl) (Nat.le_of_ble_eq_true rfl)) ?_
      refine zz_if_le 29 33 C dX5_pairs_26 rfl rfl hf (fun h6 hf => ?_) (fun h6 hf => ?_)
      · refine zz_iconst 34 C dX5_pairs_33 rfl zz_i0 ?_
        refine zz_iadd 35 C dX5_pairs_34 rfl ?_
        refine zz_istore_n (L' := [(1, .int (v1 + 0)), (0, .ref (ad 0)), (2, .int x2), (3, .int v3)]) 36 C dX5_pairs_35 rfl (Nat.le_of_ble_eq_true rfl) rfl ?_
        refine zz_iinc (L' := [(3, .int (v3 + 1)), (1, .int (v1 + 0)), (0, .ref (ad 0)), (2, .int x2)]) 39 C dX5_pairs_36 rfl zz_i1 3 rfl (Nat.le_of_ble_eq_true rfl) rfl ?_
        refine zz_goto 14 C dX5_pairs_39 rfl ?_
        exact zz_sub [2, 1, 3, 0] rfl (ih _ _ _ hf hex)
      · refine zz_iconst 30 C dX5_pairs_29 rfl zz_i1 ?_
        refine zz_goto 34 C dX5_pairs_30 rfl ?_
        refine zz_iadd 35 C dX5_pairs_34 rfl ?_
        refine zz_istore_n (L' := [(1, .int (v1 + 1)), (0, .ref (ad 0)), (2, .int x2), (3, .int v3)]) 36 C dX5_pairs_35 rfl (Nat.le_of_ble_eq_true rfl) rfl ?_
        refine zz_iinc (L' := [(3, .int (v3 + 1)), (1, .int (v1 + 1)), (0, .ref (ad 0)), (2, .int x2)]) 39 C dX5_pairs_36 rfl zz_i1 3 rfl (Nat.le_of_ble_eq_true rfl) rfl ?_
        refine zz_goto 14 C dX5_pairs_39 rfl ?_
        exact zz_sub [2, 1, 3, 0] rfl (ih _ _ _ hf hex)
def f_X5_pairs_4 : Nat → Int32 → Int32 → zz_Mem → Option (Int32 × Int32 × zz_Mem)
  | 0, _, _, _ => none
  | n + 1, v1, v2, M => (if (M 0 8) ≤ v2 then some (v1, v2, M) else zz_b3 (f_X5_pairs_14 v2 5000 v1 0 M) (fun w7 w8 M9 => f_X5_pairs_4 n w7 (v2 + 1) M9))
set_option maxHeartbeats 4000000 in
set_option maxRecDepth 100000 in
theorem l_X5_pairs_4 {p : Program} {l : Launch} {e : Env} {s : State} {m : MethodId} {args : Array Value} {below : List Frame} {meth : Method} {c : Code} {D : va_G} {cI : ClassId} {ad : Nat → Nat} {w : Option Value} {Mf : zz_Mem} (C : zz_C p (zz_rm 4) s m args meth c D cI RX5 cX5_pairs 4 (some .int) 0 0) {w1 w2 : Int32} {M1 : zz_Mem} : ∀ {n : Nat} {v1 v2 : Int32} {M : zz_Mem}, f_X5_pairs_4 n v1 v2 M = some (w1, w2, M1) → zz_V p l e (zz_rm 4) s m args below meth c D zz_SR cI ad (zz_A zz_SR ad) 4 0 0 (MQ below (zz_Q D zz_SR cI ad w Mf) args s 0 0 (zz_A zz_SR ad)) 48 [(0, .ref (ad 0)), (1, .int w1), (2, .int w2)] [] M1 → zz_V p l e (zz_rm 4) s m args below meth c D zz_SR cI ad (zz_A zz_SR ad) 4 0 0 (MQ below (zz_Q D zz_SR cI ad w Mf) args s 0 0 (zz_A zz_SR ad)) 4 [(0, .ref (ad 0)), (1, .int v1), (2, .int v2)] [] M := by
  intro n
  induction n with
  | zero =>
    intro v1 v2 M hf
    simp [f_X5_pairs_4] at hf
  | succ n ih0 =>
    intro v1 v2 M hf hex
    have ih := fun v1 v2 M hf => @ih0 v1 v2 M hf
    rw [f_X5_pairs_4] at hf
    refine zz_iload_n 5 C dX5_pairs_4 rfl 2 rfl ?_
    refine zz_aload_n 6 C dX5_pairs_5 rfl 0 rfl ?_
    refine zz_getI 9 C dX5_pairs_6 rfl fl_X5_75 sr_0 rfl ?_
    refine zz_icmp_ge 12 48 C dX5_pairs_9 rfl rfl hf (fun h1 hf => ?_) (fun h1 hf => ?_)
    · cases hf
      exact zz_sub [0, 1, 2] rfl hex
    · refine zz_iconst 13 C dX5_pairs_12 rfl zz_i0 ?_
      refine zz_istore_n (L' := [(3, .int 0), (0, .ref (ad 0)), (1, .int v1), (2, .int v2)]) 14 C dX5_pairs_13 rfl (Nat.le_of_ble_eq_true rfl) rfl ?_
      obtain ⟨w7, w8, M9, hc10, hf⟩ := zz_b3E hf
      refine zz_sub [1, 2, 3, 0] rfl (l_X5_pairs_14 C  hc10 ?_)
      refine zz_iinc (L' := [(2, .int (v2 + 1)), (0, .ref (ad 0)), (1, .int w7), (3, .int w8)]) 45 C dX5_pairs_42 rfl zz_i1 2 rfl (Nat.le_of_ble_eq_true rfl) rfl ?_
      refine zz_goto 4 C dX5_pairs_45 rfl ?_
      exact zz_sub [1, 2, 0] rfl (ih _ _ _ hf hex)
def f_X5_pairs (M : zz_Mem) : Option (Int32 × zz_Mem) := zz_b3 (f_X5_pairs_4 5000 0 0 M) (fun w11 w12 M13 => some (w11, M13))
set_option maxHeartbeats 4000000 in
set_option maxRecDepth 100000 in
theorem k_X5_pairs {l : Launch} {D : va_G} {cI : ClassId} {ad : Nat → Nat} {r : Int32} {M M1 : zz_Mem} (hf : f_X5_pairs M = some (r, M1)) : zz_K l D zz_SR cI ad 4 yX5_pairs cX5_pairs 4 (some .int) [.ref (ad 0)] M (some (.int r)) M1 := by
  unfold f_X5_pairs at hf
  refine zz_entry (own := RX5) (L := [(0, .ref (ad 0))]) (by decide +kernel) rfl (Nat.le_of_ble_eq_true rfl) rfl (fun p e s m args below meth c C => ?_)
  refine zz_iconst 1 C dX5_pairs_0 rfl zz_i0 ?_
  refine zz_istore_n (L' := [(1, .int 0), (0, .ref (ad 0))]) 2 C dX5_pairs_1 rfl (Nat.le_of_ble_eq_true rfl) rfl ?_
  refine zz_iconst 3 C dX5_pairs_2 rfl zz_i0 ?_
  refine zz_istore_n (L' := [(2, .int 0), (1, .int 0), (0, .ref (ad 0))]) 4 C dX5_pairs_3 rfl (Nat.le_of_ble_eq_true rfl) rfl ?_
  obtain ⟨w11, w12, M13, hc14, hf⟩ := zz_b3E hf
  refine zz_sub [2, 1, 0] rfl (l_X5_pairs_4 C  hc14 ?_)
  refine zz_iload_n 49 C dX5_pairs_48 rfl 1 rfl ?_
  cases hf
  exact zz_iret C dX5_pairs_49 rfl rfl
def f_X5_withChosen_4 : Nat → Int32 → Int32 → zz_Mem → Option (Int32 × Int32 × zz_Mem)
  | 0, _, _, _ => none
  | n + 1, v1, v2, M => (if (M 0 0) ≤ v2 then some (v1, v2, M) else (if zz_in v2 6 then (if (M 3 v2.toNatClampNeg) < 0 then f_X5_withChosen_4 n (v1 + 0) (v2 + 1) M else f_X5_withChosen_4 n (v1 + 1) (v2 + 1) M) else none))
set_option maxHeartbeats 4000000 in
set_option maxRecDepth 100000 in
theorem l_X5_withChosen_4 {p : Program} {l : Launch} {e : Env} {s : State} {m : MethodId} {args : Array Value} {below : List Frame} {meth : Method} {c : Code} {D : va_G} {cI : ClassId} {ad : Nat → Nat} {w : Option Value} {Mf : zz_Mem} (C : zz_C p (zz_rm 0) s m args meth c D cI RX5 cX5_withChosen 3 (some .int) 0 0) {w1 w2 : Int32} {M1 : zz_Mem} : ∀ {n : Nat} {v1 v2 : Int32} {M : zz_Mem}, f_X5_withChosen_4 n v1 v2 M = some (w1, w2, M1) → zz_V p l e (zz_rm 0) s m args below meth c D zz_SR cI ad (zz_A zz_SR ad) 3 0 0 (MQ below (zz_Q D zz_SR cI ad w Mf) args s 0 0 (zz_A zz_SR ad)) 35 [(0, .ref (ad 0)), (1, .int w1), (2, .int w2)] [] M1 → zz_V p l e (zz_rm 0) s m args below meth c D zz_SR cI ad (zz_A zz_SR ad) 3 0 0 (MQ below (zz_Q D zz_SR cI ad w Mf) args s 0 0 (zz_A zz_SR ad)) 4 [(0, .ref (ad 0)), (1, .int v1), (2, .int v2)] [] M := by
  intro n
  induction n with
  | zero =>
    intro v1 v2 M hf
    simp [f_X5_withChosen_4] at hf
  | succ n ih0 =>
    intro v1 v2 M hf hex
    have ih := fun v1 v2 M hf => @ih0 v1 v2 M hf
    rw [f_X5_withChosen_4] at hf
    refine zz_iload_n 5 C dX5_withChosen_4 rfl 2 rfl ?_
    refine zz_aload_n 6 C dX5_withChosen_5 rfl 0 rfl ?_
    refine zz_getI 9 C dX5_withChosen_6 rfl fl_X5_64 sr_0 rfl ?_
    refine zz_icmp_ge 12 35 C dX5_withChosen_9 rfl rfl hf (fun h1 hf => ?_) (fun h1 hf => ?_)
    · cases hf
      exact zz_sub [0, 1, 2] rfl hex
    · refine zz_iload_n 13 C dX5_withChosen_12 rfl 1 rfl ?_
      refine zz_aload_n 14 C dX5_withChosen_13 rfl 0 rfl ?_
      refine zz_getR 17 C dX5_withChosen_14 rfl fl_X5_16 sr_0 rfl ?_
      refine zz_iload_n 18 C dX5_withChosen_17 rfl 2 rfl ?_
      obtain ⟨hi2, hf⟩ := zz_chk hf
      refine zz_iald 19 C sr_3 dX5_withChosen_18 rfl hi2 ?_
      refine zz_if_lt 22 26 C dX5_withChosen_19 rfl rfl hf (fun h3 hf => ?_) (fun h3 hf => ?_)
      · refine zz_iconst 27 C dX5_withChosen_26 rfl zz_i0 ?_
        refine zz_iadd 28 C dX5_withChosen_27 rfl ?_
        refine zz_istore_n (L' := [(1, .int (v1 + 0)), (0, .ref (ad 0)), (2, .int v2)]) 29 C dX5_withChosen_28 rfl (Nat.le_of_ble_eq_true rfl) rfl ?_
        refine zz_iinc (L' := [(2, .int (v2 + 1)), (1, .int (v1 + 0)), (0, .ref (ad 0))]) 32 C dX5_withChosen_29 rfl zz_i1 2 rfl (Nat.le_of_ble_eq_true rfl) rfl ?_
        refine zz_goto 4 C dX5_withChosen_32 rfl ?_
        exact zz_sub [2, 1, 0] rfl (ih _ _ _ hf hex)
      · refine zz_iconst 23 C dX5_withChosen_22 rfl zz_i1 ?_
        refine zz_goto 27 C dX5_withChosen_23 rfl ?_
        refine zz_iadd 28 C dX5_withChosen_27 rfl ?_
        refine zz_istore_n (L' := [(1, .int (v1 + 1)), (0, .ref (ad 0)), (2, .int v2)]) 29 C dX5_withChosen_28 rfl (Nat.le_of_ble_eq_true rfl) rfl ?_
        refine zz_iinc (L' := [(2, .int (v2 + 1)), (1, .int (v1 + 1)), (0, .ref (ad 0))]) 32 C dX5_withChosen_29 rfl zz_i1 2 rfl (Nat.le_of_ble_eq_true rfl) rfl ?_
        refine zz_goto 4 C dX5_withChosen_32 rfl ?_
        exact zz_sub [2, 1, 0] rfl (ih _ _ _ hf hex)
def f_X5_withChosen (M : zz_Mem) : Option (Int32 × zz_Mem) := zz_b3 (f_X5_withChosen_4 5000 0 0 M) (fun w4 w5 M6 => some (w4, M6))
set_option maxHeartbeats 4000000 in
set_option maxRecDepth 100000 in
theorem k_X5_withChosen {l : Launch} {D : va_G} {cI : ClassId} {ad : Nat → Nat} {r : Int32} {M M1 : zz_Mem} (hf : f_X5_withChosen M = some (r, M1)) : zz_K l D zz_SR cI ad 0 yX5_withChosen cX5_withChosen 3 (some .int) [.ref (ad 0)] M (some (.int r)) M1 := by
  unfold f_X5_withChosen at hf
  refine zz_entry (own := RX5) (L := [(0, .ref (ad 0))]) (by decide +kernel) rfl (Nat.le_of_ble_eq_true rfl) rfl (fun p e s m args below meth c C => ?_)
  refine zz_iconst 1 C dX5_withChosen_0 rfl zz_i0 ?_
  refine zz_istore_n (L' := [(1, .int 0), (0, .ref (ad 0))]) 2 C dX5_withChosen_1 rfl (Nat.le_of_ble_eq_true rfl) rfl ?_
  refine zz_iconst 3 C dX5_withChosen_2 rfl zz_i0 ?_
  refine zz_istore_n (L' := [(2, .int 0), (1, .int 0), (0, .ref (ad 0))]) 4 C dX5_withChosen_3 rfl (Nat.le_of_ble_eq_true rfl) rfl ?_
  obtain ⟨w4, w5, M6, hc7, hf⟩ := zz_b3E hf
  refine zz_sub [2, 1, 0] rfl (l_X5_withChosen_4 C  hc7 ?_)
  refine zz_iload_n 36 C dX5_withChosen_35 rfl 1 rfl ?_
  cases hf
  exact zz_iret C dX5_withChosen_36 rfl rfl
def f_X5_many (a1 : Int32) (M : zz_Mem) : Option (Int32 × zz_Mem) := (if a1 = 0 then some (M 0 0, M) else (if a1 = 1 then some (M 0 4, M) else (if a1 = 2 then some (M 0 8, M) else (if a1 = 3 then zz_b2 (f_X5_withChosen M) (fun r7 M6 => some (r7, M6)) else (if a1 = 4 then zz_b2 (f_X5_pairs M) (fun r11 M10 => some (r11, M10)) else some ((-1), M))))))
set_option maxHeartbeats 4000000 in
set_option maxRecDepth 100000 in
theorem k_X5_many {l : Launch} {D : va_G} {cI : ClassId} {ad : Nat → Nat} {a1 : Int32} {r : Int32} {M M1 : zz_Mem} (hf : f_X5_many a1 M = some (r, M1)) : zz_K l D zz_SR cI ad 5 yX5_many cX5_many 2 (some .int) [.ref (ad 0), .int a1] M (some (.int r)) M1 := by
  unfold f_X5_many at hf
  refine zz_entry (own := RX5) (L := [(0, .ref (ad 0)), (1, .int a1)]) (by decide +kernel) rfl (Nat.le_of_ble_eq_true rfl) rfl (fun p e s m args below meth c C => ?_)
  refine zz_iload_n 1 C dX5_many_0 rfl 1 rfl ?_
  by_cases h1 : a1 = 0
  · rw [if_pos h1] at hf
    refine zz_tabIn 36 C dX5_many_1 h1 (by decide) (by decide) rfl rfl ?_
    refine zz_aload_n 37 C dX5_many_36 rfl 0 rfl ?_
    refine zz_getI 40 C dX5_many_37 rfl fl_X5_64 sr_0 rfl ?_
    cases hf
    exact zz_iret C dX5_many_40 rfl rfl
  · rw [if_neg h1] at hf
    by_cases h2 : a1 = 1
    · rw [if_pos h2] at hf
      refine zz_tabIn 41 C dX5_many_1 h2 (by decide) (by decide) rfl rfl ?_
      refine zz_aload_n 42 C dX5_many_41 rfl 0 rfl ?_
      refine zz_getI 45 C dX5_many_42 rfl fl_X5_72 sr_0 rfl ?_
      cases hf
      exact zz_iret C dX5_many_45 rfl rfl
    · rw [if_neg h2] at hf
      by_cases h3 : a1 = 2
      · rw [if_pos h3] at hf
        refine zz_tabIn 46 C dX5_many_1 h3 (by decide) (by decide) rfl rfl ?_
        refine zz_aload_n 47 C dX5_many_46 rfl 0 rfl ?_
        refine zz_getI 50 C dX5_many_47 rfl fl_X5_75 sr_0 rfl ?_
        cases hf
        exact zz_iret C dX5_many_50 rfl rfl
      · rw [if_neg h3] at hf
        by_cases h4 : a1 = 3
        · rw [if_pos h4] at hf
          refine zz_tabIn 51 C dX5_many_1 h4 (by decide) (by decide) rfl rfl ?_
          refine zz_aload_n 52 C dX5_many_51 rfl 0 rfl ?_
          obtain ⟨r7, M6, hc5, hf⟩ := zz_b2E hf
          refine zz_callV 55 [] C dX5_many_52 rfl ml_X5_158 (k_X5_withChosen hc5) sr_0 (vC := vwCl[5]) rfl rfl rfl rfl rfl (Nat.le_of_ble_eq_true rfl) (zz_hR (Nat.le_of_ble_eq_true rfl) (Nat.le_of_ble_eq_true rfl)) ?_
          cases hf
          exact zz_iret C dX5_many_55 rfl rfl
        · rw [if_neg h4] at hf
          by_cases h8 : a1 = 4
          · rw [if_pos h8] at hf
            refine zz_tabIn 56 C dX5_many_1 h8 (by decide) (by decide) rfl rfl ?_
            refine zz_aload_n 57 C dX5_many_56 rfl 0 rfl ?_
            obtain ⟨r11, M10, hc9, hf⟩ := zz_b2E hf
            refine zz_callV 60 [] C dX5_many_57 rfl ml_X5_162 (k_X5_pairs hc9) sr_0 (vC := vwCl[5]) rfl rfl rfl rfl rfl (Nat.le_of_ble_eq_true rfl) (zz_hR (Nat.le_of_ble_eq_true rfl) (Nat.le_of_ble_eq_true rfl)) ?_
            cases hf
            exact zz_iret C dX5_many_60 rfl rfl
          · rw [if_neg h8] at hf
            have eh1 := lv_neT h1 (show (0 : Int32).toInt = 0 from by decide)
            have eh2 := lv_neT h2 (show (1 : Int32).toInt = 1 from by decide)
            have eh3 := lv_neT h3 (show (2 : Int32).toInt = 2 from by decide)
            have eh4 := lv_neT h4 (show (3 : Int32).toInt = 3 from by decide)
            have eh8 := lv_neT h8 (show (4 : Int32).toInt = 4 from by decide)
            refine zz_tabOut 61 C dX5_many_1 (by omega) rfl ?_
            refine zz_iconst 62 C dX5_many_61 rfl zz_im1 ?_
            cases hf
            exact zz_iret C dX5_many_62 rfl rfl
def f_X5_copy_3 (ka nka : Nat) (kb nkb : Nat) (x1 x3 x4 : Int32) : Nat → Int32 → zz_Mem → Option (Int32 × zz_Mem)
  | 0, _, _ => none
  | n + 1, v5, M => (if x4 ≤ v5 then some (v5, M) else (if zz_in (x1 + v5) nka then (if zz_in (x3 + v5) nkb then f_X5_copy_3 ka nka kb nkb x1 x3 x4 n (v5 + 1) (zz_up M kb ((x3 + v5).toNatClampNeg) (M ka ((x1 + v5).toNatClampNeg))) else none) else none))
set_option maxHeartbeats 4000000 in
set_option maxRecDepth 100000 in
theorem l_X5_copy_3 {p : Program} {l : Launch} {e : Env} {s : State} {m : MethodId} {args : Array Value} {below : List Frame} {meth : Method} {c : Code} {D : va_G} {cI : ClassId} {ad : Nat → Nat} {ka nka : Nat} {hka : zz_SR[ka]? = some (.inl nka)} {kb nkb : Nat} {hkb : zz_SR[kb]? = some (.inl nkb)} {x1 x3 x4 : Int32} {w : Option Value} {Mf : zz_Mem} (C : zz_C p (zz_rm 0) s m args meth c D cI RX5 cX5_copy 6 none 0 0) {w5 : Int32} {M1 : zz_Mem} : ∀ {n : Nat} {v5 : Int32} {M : zz_Mem}, f_X5_copy_3 ka nka kb nkb x1 x3 x4 n v5 M = some (w5, M1) → zz_V p l e (zz_rm 0) s m args below meth c D zz_SR cI ad (zz_A zz_SR ad) 6 0 0 (MQ below (zz_Q D zz_SR cI ad w Mf) args s 0 0 (zz_A zz_SR ad)) 28 [(0, .ref (ad ka)), (1, .int x1), (2, .ref (ad kb)), (3, .int x3), (4, .int x4), (5, .int w5)] [] M1 → zz_V p l e (zz_rm 0) s m args below meth c D zz_SR cI ad (zz_A zz_SR ad) 6 0 0 (MQ below (zz_Q D zz_SR cI ad w Mf) args s 0 0 (zz_A zz_SR ad)) 3 [(0, .ref (ad ka)), (1, .int x1), (2, .ref (ad kb)), (3, .int x3), (4, .int x4), (5, .int v5)] [] M := by
  intro n
  induction n with
  | zero =>
    intro v5 M hf
    simp [f_X5_copy_3] at hf
  | succ n ih0 =>
    intro v5 M hf hex
    have ih := fun v5 M hf => @ih0 v5 M hf
    rw [f_X5_copy_3] at hf
    refine zz_iload 5 C dX5_copy_3 rfl 5 rfl ?_
    refine zz_iload 7 C dX5_copy_5 rfl 4 rfl ?_
    refine zz_icmp_ge 10 28 C dX5_copy_7 rfl rfl hf (fun h1 hf => ?_) (fun h1 hf => ?_)
    · cases hf
      exact zz_sub [0, 1, 2, 3, 4, 5] rfl hex
    · refine zz_aload_n 11 C dX5_copy_10 rfl 2 rfl ?_
      refine zz_iload_n 12 C dX5_copy_11 rfl 3 rfl ?_
      refine zz_iload 14 C dX5_copy_12 rfl 5 rfl ?_
      refine zz_iadd 15 C dX5_copy_14 rfl ?_
      refine zz_aload_n 16 C dX5_copy_15 rfl 0 rfl ?_
      refine zz_iload_n 17 C dX5_copy_16 rfl 1 rfl ?_
      refine zz_iload 19 C dX5_copy_17 rfl 5 rfl ?_
      refine zz_iadd 20 C dX5_copy_19 rfl ?_
      obtain ⟨hi2, hf⟩ := zz_chk hf
      refine zz_iald 21 C hka dX5_copy_20 rfl hi2 ?_
      obtain ⟨hi3, hf⟩ := zz_chk hf
      refine zz_iast 22 C hkb dX5_copy_21 rfl hi3 ?_
      refine zz_iinc (L' := [(5, .int (v5 + 1)), (0, .ref (ad ka)), (1, .int x1), (2, .ref (ad kb)), (3, .int x3), (4, .int x4)]) 25 C dX5_copy_22 rfl zz_i1 5 rfl (Nat.le_of_ble_eq_true rfl) rfl ?_
      refine zz_goto 3 C dX5_copy_25 rfl ?_
      exact zz_sub [1, 2, 3, 4, 5, 0] rfl (ih _ _ hf hex)
def f_X5_copy (ka nka : Nat) (kb nkb : Nat) (a1 a3 a4 : Int32) (M : zz_Mem) : Option (zz_Mem) := zz_b2 (f_X5_copy_3 ka nka kb nkb a1 a3 a4 5000 0 M) (fun w4 M5 => some M5)
set_option maxHeartbeats 4000000 in
set_option maxRecDepth 100000 in
theorem k_X5_copy {l : Launch} {D : va_G} {cI : ClassId} {ad : Nat → Nat} {ka nka : Nat} {hka : zz_SR[ka]? = some (.inl nka)} {kb nkb : Nat} {hkb : zz_SR[kb]? = some (.inl nkb)} {a1 a3 a4 : Int32} {M M1 : zz_Mem} (hf : f_X5_copy ka nka kb nkb a1 a3 a4 M = some M1) : zz_K l D zz_SR cI ad 0 yX5_copy cX5_copy 6 none [.ref (ad ka), .int a1, .ref (ad kb), .int a3, .int a4] M none M1 := by
  unfold f_X5_copy at hf
  refine zz_entry (own := RX5) (L := [(0, .ref (ad ka)), (1, .int a1), (2, .ref (ad kb)), (3, .int a3), (4, .int a4)]) (by decide +kernel) rfl (Nat.le_of_ble_eq_true rfl) rfl (fun p e s m args below meth c C => ?_)
  refine zz_iconst 1 C dX5_copy_0 rfl zz_i0 ?_
  refine zz_istore (L' := [(5, .int 0), (0, .ref (ad ka)), (1, .int a1), (2, .ref (ad kb)), (3, .int a3), (4, .int a4)]) 3 C dX5_copy_1 rfl (Nat.le_of_ble_eq_true rfl) rfl ?_
  obtain ⟨w4, M5, hc6, hf⟩ := zz_b2E hf
  refine zz_sub [1, 2, 3, 4, 5, 0] rfl (l_X5_copy_3 (hka := hka) (hkb := hkb) C  hc6 ?_)
  cases hf
  exact zz_vret C dX5_copy_28 rfl rfl
def f_X5_keep (M : zz_Mem) : Option (Int32 × zz_Mem) := zz_b1 (f_X5_copy 1 6 11 36 0 0 6 (zz_up (zz_up (zz_up (zz_up M 0 12 1) 10 ((0 : Int32).toNatClampNeg) ((zz_up M 0 12 1) 0 0)) 10 ((1 : Int32).toNatClampNeg) ((zz_up (zz_up M 0 12 1) 10 ((0 : Int32).toNatClampNeg) ((zz_up M 0 12 1) 0 0)) 0 4)) 10 ((2 : Int32).toNatClampNeg) ((zz_up (zz_up (zz_up M 0 12 1) 10 ((0 : Int32).toNatClampNeg) ((zz_up M 0 12 1) 0 0)) 10 ((1 : Int32).toNatClampNeg) ((zz_up (zz_up M 0 12 1) 10 ((0 : Int32).toNatClampNeg) ((zz_up M 0 12 1) 0 0)) 0 4)) 0 8))) (fun M2 => zz_b1 (f_X5_copy 2 6 11 36 0 6 6 M2) (fun M4 => zz_b1 (f_X5_copy 3 6 11 36 0 12 6 M4) (fun M6 => zz_b1 (f_X5_copy 4 6 11 36 0 18 6 M6) (fun M8 => zz_b1 (f_X5_copy 5 6 11 36 0 24 6 M8) (fun M10 => zz_b1 (f_X5_copy 6 6 11 36 0 30 6 M10) (fun M12 => zz_b1 (f_X5_copy 7 16 12 128 0 0 16 M12) (fun M14 => zz_b1 (f_X5_copy 8 16 12 128 0 16 16 M14) (fun M16 => zz_b1 (f_X5_copy 9 96 12 128 0 32 96 M16) (fun M18 => some (1, M18))))))))))
set_option maxHeartbeats 4000000 in
set_option maxRecDepth 100000 in
theorem k_X5_keep {l : Launch} {D : va_G} {cI : ClassId} {ad : Nat → Nat} {r : Int32} {M M1 : zz_Mem} (hf : f_X5_keep M = some (r, M1)) : zz_K l D zz_SR cI ad 1 yX5_keep cX5_keep 1 (some .int) [.ref (ad 0)] M (some (.int r)) M1 := by
  unfold f_X5_keep at hf
  refine zz_entry (own := RX5) (L := [(0, .ref (ad 0))]) (by decide +kernel) rfl (Nat.le_of_ble_eq_true rfl) rfl (fun p e s m args below meth c C => ?_)
  refine zz_aload_n 1 C dX5_keep_0 rfl 0 rfl ?_
  refine zz_iconst 2 C dX5_keep_1 rfl zz_i1 ?_
  refine zz_putI 5 C dX5_keep_2 rfl fl_X5_165 fs_X5_12 (by decide) rfl sr_0 rfl ?_
  refine zz_aload_n 6 C dX5_keep_5 rfl 0 rfl ?_
  refine zz_getR 9 C dX5_keep_6 rfl fl_X5_37 sr_0 rfl ?_
  refine zz_iconst 10 C dX5_keep_9 rfl zz_i0 ?_
  refine zz_aload_n 11 C dX5_keep_10 rfl 0 rfl ?_
  refine zz_getI 14 C dX5_keep_11 rfl fl_X5_64 sr_0 rfl ?_
  refine zz_iast 15 C sr_10 dX5_keep_14 rfl (show zz_in 0 3 by decide) ?_
  refine zz_aload_n 16 C dX5_keep_15 rfl 0 rfl ?_
  refine zz_getR 19 C dX5_keep_16 rfl fl_X5_37 sr_0 rfl ?_
  refine zz_iconst 20 C dX5_keep_19 rfl zz_i1 ?_
  refine zz_aload_n 21 C dX5_keep_20 rfl 0 rfl ?_
  refine zz_getI 24 C dX5_keep_21 rfl fl_X5_72 sr_0 rfl ?_
  refine zz_iast 25 C sr_10 dX5_keep_24 rfl (show zz_in 1 3 by decide) ?_
  refine zz_aload_n 26 C dX5_keep_25 rfl 0 rfl ?_
  refine zz_getR 29 C dX5_keep_26 rfl fl_X5_37 sr_0 rfl ?_
  refine zz_iconst 30 C dX5_keep_29 rfl zz_i2 ?_
  refine zz_aload_n 31 C dX5_keep_30 rfl 0 rfl ?_
  refine zz_getI 34 C dX5_keep_31 rfl fl_X5_75 sr_0 rfl ?_
  refine zz_iast 35 C sr_10 dX5_keep_34 rfl (show zz_in 2 3 by decide) ?_
  refine zz_aload_n 36 C dX5_keep_35 rfl 0 rfl ?_
  refine zz_getR 39 C dX5_keep_36 rfl fl_X5_7 sr_0 rfl ?_
  refine zz_iconst 40 C dX5_keep_39 rfl zz_i0 ?_
  refine zz_aload_n 41 C dX5_keep_40 rfl 0 rfl ?_
  refine zz_getR 44 C dX5_keep_41 rfl fl_X5_40 sr_0 rfl ?_
  refine zz_iconst 45 C dX5_keep_44 rfl zz_i0 ?_
  refine zz_bipush 47 C dX5_keep_45 rfl zz_bp6 ?_
  obtain ⟨M2, hc1, hf⟩ := zz_b1E hf
  refine zz_callS 50 [.ref (ad 1), .int 0, .ref (ad 11), .int 0, .int 6] C dX5_keep_47 rfl ml_X5_169 (k_X5_copy (hka := sr_1) (hkb := sr_11) hc1) rfl rfl rfl (Nat.le_of_ble_eq_true rfl) (zz_hR (Nat.le_of_ble_eq_true rfl) (Nat.le_of_ble_eq_true rfl)) ?_
  refine zz_aload_n 51 C dX5_keep_50 rfl 0 rfl ?_
  refine zz_getR 54 C dX5_keep_51 rfl fl_X5_13 sr_0 rfl ?_
  refine zz_iconst 55 C dX5_keep_54 rfl zz_i0 ?_
  refine zz_aload_n 56 C dX5_keep_55 rfl 0 rfl ?_
  refine zz_getR 59 C dX5_keep_56 rfl fl_X5_40 sr_0 rfl ?_
  refine zz_bipush 61 C dX5_keep_59 rfl zz_bp6 ?_
  refine zz_bipush 63 C dX5_keep_61 rfl zz_bp6 ?_
  obtain ⟨M4, hc3, hf⟩ := zz_b1E hf
  refine zz_callS 66 [.ref (ad 2), .int 0, .ref (ad 11), .int 6, .int 6] C dX5_keep_63 rfl ml_X5_169 (k_X5_copy (hka := sr_2) (hkb := sr_11) hc3) rfl rfl rfl (Nat.le_of_ble_eq_true rfl) (zz_hR (Nat.le_of_ble_eq_true rfl) (Nat.le_of_ble_eq_true rfl)) ?_
  refine zz_aload_n 67 C dX5_keep_66 rfl 0 rfl ?_
  refine zz_getR 70 C dX5_keep_67 rfl fl_X5_16 sr_0 rfl ?_
  refine zz_iconst 71 C dX5_keep_70 rfl zz_i0 ?_
  refine zz_aload_n 72 C dX5_keep_71 rfl 0 rfl ?_
  refine zz_getR 75 C dX5_keep_72 rfl fl_X5_40 sr_0 rfl ?_
  refine zz_bipush 77 C dX5_keep_75 rfl zz_bp12 ?_
  refine zz_bipush 79 C dX5_keep_77 rfl zz_bp6 ?_
  obtain ⟨M6, hc5, hf⟩ := zz_b1E hf
  refine zz_callS 82 [.ref (ad 3), .int 0, .ref (ad 11), .int 12, .int 6] C dX5_keep_79 rfl ml_X5_169 (k_X5_copy (hka := sr_3) (hkb := sr_11) hc5) rfl rfl rfl (Nat.le_of_ble_eq_true rfl) (zz_hR (Nat.le_of_ble_eq_true rfl) (Nat.le_of_ble_eq_true rfl)) ?_
  refine zz_aload_n 83 C dX5_keep_82 rfl 0 rfl ?_
  refine zz_getR 86 C dX5_keep_83 rfl fl_X5_19 sr_0 rfl ?_
  refine zz_iconst 87 C dX5_keep_86 rfl zz_i0 ?_
  refine zz_aload_n 88 C dX5_keep_87 rfl 0 rfl ?_
  refine zz_getR 91 C dX5_keep_88 rfl fl_X5_40 sr_0 rfl ?_
  refine zz_bipush 93 C dX5_keep_91 rfl zz_bp18 ?_
  refine zz_bipush 95 C dX5_keep_93 rfl zz_bp6 ?_
  obtain ⟨M8, hc7, hf⟩ := zz_b1E hf
  refine zz_callS 98 [.ref (ad 4), .int 0, .ref (ad 11), .int 18, .int 6] C dX5_keep_95 rfl ml_X5_169 (k_X5_copy (hka := sr_4) (hkb := sr_11) hc7) rfl rfl rfl (Nat.le_of_ble_eq_true rfl) (zz_hR (Nat.le_of_ble_eq_true rfl) (Nat.le_of_ble_eq_true rfl)) ?_
  refine zz_aload_n 99 C dX5_keep_98 rfl 0 rfl ?_
  refine zz_getR 102 C dX5_keep_99 rfl fl_X5_22 sr_0 rfl ?_
  refine zz_iconst 103 C dX5_keep_102 rfl zz_i0 ?_
  refine zz_aload_n 104 C dX5_keep_103 rfl 0 rfl ?_
  refine zz_getR 107 C dX5_keep_104 rfl fl_X5_40 sr_0 rfl ?_
  refine zz_bipush 109 C dX5_keep_107 rfl zz_bp24 ?_
  refine zz_bipush 111 C dX5_keep_109 rfl zz_bp6 ?_
  obtain ⟨M10, hc9, hf⟩ := zz_b1E hf
  refine zz_callS 114 [.ref (ad 5), .int 0, .ref (ad 11), .int 24, .int 6] C dX5_keep_111 rfl ml_X5_169 (k_X5_copy (hka := sr_5) (hkb := sr_11) hc9) rfl rfl rfl (Nat.le_of_ble_eq_true rfl) (zz_hR (Nat.le_of_ble_eq_true rfl) (Nat.le_of_ble_eq_true rfl)) ?_
  refine zz_aload_n 115 C dX5_keep_114 rfl 0 rfl ?_
  refine zz_getR 118 C dX5_keep_115 rfl fl_X5_25 sr_0 rfl ?_
  refine zz_iconst 119 C dX5_keep_118 rfl zz_i0 ?_
  refine zz_aload_n 120 C dX5_keep_119 rfl 0 rfl ?_
  refine zz_getR 123 C dX5_keep_120 rfl fl_X5_40 sr_0 rfl ?_
  refine zz_bipush 125 C dX5_keep_123 rfl zz_bp30 ?_
  refine zz_bipush 127 C dX5_keep_125 rfl zz_bp6 ?_
  obtain ⟨M12, hc11, hf⟩ := zz_b1E hf
  refine zz_callS 130 [.ref (ad 6), .int 0, .ref (ad 11), .int 30, .int 6] C dX5_keep_127 rfl ml_X5_169 (k_X5_copy (hka := sr_6) (hkb := sr_11) hc11) rfl rfl rfl (Nat.le_of_ble_eq_true rfl) (zz_hR (Nat.le_of_ble_eq_true rfl) (Nat.le_of_ble_eq_true rfl)) ?_
  refine zz_aload_n 131 C dX5_keep_130 rfl 0 rfl ?_
  refine zz_getR 134 C dX5_keep_131 rfl fl_X5_28 sr_0 rfl ?_
  refine zz_iconst 135 C dX5_keep_134 rfl zz_i0 ?_
  refine zz_aload_n 136 C dX5_keep_135 rfl 0 rfl ?_
  refine zz_getR 139 C dX5_keep_136 rfl fl_X5_43 sr_0 rfl ?_
  refine zz_iconst 140 C dX5_keep_139 rfl zz_i0 ?_
  refine zz_bipush 142 C dX5_keep_140 rfl zz_bp16 ?_
  obtain ⟨M14, hc13, hf⟩ := zz_b1E hf
  refine zz_callS 145 [.ref (ad 7), .int 0, .ref (ad 12), .int 0, .int 16] C dX5_keep_142 rfl ml_X5_169 (k_X5_copy (hka := sr_7) (hkb := sr_12) hc13) rfl rfl rfl (Nat.le_of_ble_eq_true rfl) (zz_hR (Nat.le_of_ble_eq_true rfl) (Nat.le_of_ble_eq_true rfl)) ?_
  refine zz_aload_n 146 C dX5_keep_145 rfl 0 rfl ?_
  refine zz_getR 149 C dX5_keep_146 rfl fl_X5_31 sr_0 rfl ?_
  refine zz_iconst 150 C dX5_keep_149 rfl zz_i0 ?_
  refine zz_aload_n 151 C dX5_keep_150 rfl 0 rfl ?_
  refine zz_getR 154 C dX5_keep_151 rfl fl_X5_43 sr_0 rfl ?_
  refine zz_bipush 156 C dX5_keep_154 rfl zz_bp16 ?_
  refine zz_bipush 158 C dX5_keep_156 rfl zz_bp16 ?_
  obtain ⟨M16, hc15, hf⟩ := zz_b1E hf
  refine zz_callS 161 [.ref (ad 8), .int 0, .ref (ad 12), .int 16, .int 16] C dX5_keep_158 rfl ml_X5_169 (k_X5_copy (hka := sr_8) (hkb := sr_12) hc15) rfl rfl rfl (Nat.le_of_ble_eq_true rfl) (zz_hR (Nat.le_of_ble_eq_true rfl) (Nat.le_of_ble_eq_true rfl)) ?_
  refine zz_aload_n 162 C dX5_keep_161 rfl 0 rfl ?_
  refine zz_getR 165 C dX5_keep_162 rfl fl_X5_34 sr_0 rfl ?_
  refine zz_iconst 166 C dX5_keep_165 rfl zz_i0 ?_
  refine zz_aload_n 167 C dX5_keep_166 rfl 0 rfl ?_
  refine zz_getR 170 C dX5_keep_167 rfl fl_X5_43 sr_0 rfl ?_
  refine zz_bipush 172 C dX5_keep_170 rfl zz_bp32 ?_
  refine zz_bipush 174 C dX5_keep_172 rfl zz_bp96 ?_
  obtain ⟨M18, hc17, hf⟩ := zz_b1E hf
  refine zz_callS 177 [.ref (ad 9), .int 0, .ref (ad 12), .int 32, .int 96] C dX5_keep_174 rfl ml_X5_169 (k_X5_copy (hka := sr_9) (hkb := sr_12) hc17) rfl rfl rfl (Nat.le_of_ble_eq_true rfl) (zz_hR (Nat.le_of_ble_eq_true rfl) (Nat.le_of_ble_eq_true rfl)) ?_
  refine zz_iconst 178 C dX5_keep_177 rfl zz_i1 ?_
  cases hf
  exact zz_iret C dX5_keep_178 rfl rfl
def f_X5_back (M : zz_Mem) : Option (Int32 × zz_Mem) := (if (M 0 12) = 0 then some ((-4), M) else zz_b1 (f_X5_copy 11 36 1 6 0 0 6 (zz_up (zz_up (zz_up M 0 0 (M 10 ((0 : Int32).toNatClampNeg))) 0 4 ((zz_up M 0 0 (M 10 ((0 : Int32).toNatClampNeg))) 10 ((1 : Int32).toNatClampNeg))) 0 8 ((zz_up (zz_up M 0 0 (M 10 ((0 : Int32).toNatClampNeg))) 0 4 ((zz_up M 0 0 (M 10 ((0 : Int32).toNatClampNeg))) 10 ((1 : Int32).toNatClampNeg))) 10 ((2 : Int32).toNatClampNeg)))) (fun M3 => zz_b1 (f_X5_copy 11 36 2 6 6 0 6 M3) (fun M5 => zz_b1 (f_X5_copy 11 36 3 6 12 0 6 M5) (fun M7 => zz_b1 (f_X5_copy 11 36 4 6 18 0 6 M7) (fun M9 => zz_b1 (f_X5_copy 11 36 5 6 24 0 6 M9) (fun M11 => zz_b1 (f_X5_copy 11 36 6 6 30 0 6 M11) (fun M13 => zz_b1 (f_X5_copy 12 128 7 16 0 0 16 M13) (fun M15 => zz_b1 (f_X5_copy 12 128 8 16 16 0 16 M15) (fun M17 => zz_b1 (f_X5_copy 12 128 9 96 32 0 96 M17) (fun M19 => some (1, M19)))))))))))
set_option maxHeartbeats 4000000 in
set_option maxRecDepth 100000 in
theorem k_X5_back {l : Launch} {D : va_G} {cI : ClassId} {ad : Nat → Nat} {r : Int32} {M M1 : zz_Mem} (hf : f_X5_back M = some (r, M1)) : zz_K l D zz_SR cI ad 1 yX5_back cX5_back 1 (some .int) [.ref (ad 0)] M (some (.int r)) M1 := by
  unfold f_X5_back at hf
  refine zz_entry (own := RX5) (L := [(0, .ref (ad 0))]) (by decide +kernel) rfl (Nat.le_of_ble_eq_true rfl) rfl (fun p e s m args below meth c C => ?_)
  refine zz_aload_n 1 C dX5_back_0 rfl 0 rfl ?_
  refine zz_getI 4 C dX5_back_1 rfl fl_X5_165 sr_0 rfl ?_
  refine zz_if_ne 7 10 C dX5_back_4 rfl rfl hf (fun h1 hf => ?_) (fun h1 hf => ?_)
  · refine zz_aload_n 11 C dX5_back_10 rfl 0 rfl ?_
    refine zz_aload_n 12 C dX5_back_11 rfl 0 rfl ?_
    refine zz_getR 15 C dX5_back_12 rfl fl_X5_37 sr_0 rfl ?_
    refine zz_iconst 16 C dX5_back_15 rfl zz_i0 ?_
    refine zz_iald 17 C sr_10 dX5_back_16 rfl (show zz_in 0 3 by decide) ?_
    refine zz_putI 20 C dX5_back_17 rfl fl_X5_64 fs_X5_0 rfl rfl sr_0 rfl ?_
    refine zz_aload_n 21 C dX5_back_20 rfl 0 rfl ?_
    refine zz_aload_n 22 C dX5_back_21 rfl 0 rfl ?_
    refine zz_getR 25 C dX5_back_22 rfl fl_X5_37 sr_0 rfl ?_
    refine zz_iconst 26 C dX5_back_25 rfl zz_i1 ?_
    refine zz_iald 27 C sr_10 dX5_back_26 rfl (show zz_in 1 3 by decide) ?_
    refine zz_putI 30 C dX5_back_27 rfl fl_X5_72 fs_X5_4 rfl rfl sr_0 rfl ?_
    refine zz_aload_n 31 C dX5_back_30 rfl 0 rfl ?_
    refine zz_aload_n 32 C dX5_back_31 rfl 0 rfl ?_
    refine zz_getR 35 C dX5_back_32 rfl fl_X5_37 sr_0 rfl ?_
    refine zz_iconst 36 C dX5_back_35 rfl zz_i2 ?_
    refine zz_iald 37 C sr_10 dX5_back_36 rfl (show zz_in 2 3 by decide) ?_
    refine zz_putI 40 C dX5_back_37 rfl fl_X5_75 fs_X5_8 rfl rfl sr_0 rfl ?_
    refine zz_aload_n 41 C dX5_back_40 rfl 0 rfl ?_
    refine zz_getR 44 C dX5_back_41 rfl fl_X5_40 sr_0 rfl ?_
    refine zz_iconst 45 C dX5_back_44 rfl zz_i0 ?_
    refine zz_aload_n 46 C dX5_back_45 rfl 0 rfl ?_
    refine zz_getR 49 C dX5_back_46 rfl fl_X5_7 sr_0 rfl ?_
    refine zz_iconst 50 C dX5_back_49 rfl zz_i0 ?_
    refine zz_bipush 52 C dX5_back_50 rfl zz_bp6 ?_
    obtain ⟨M3, hc2, hf⟩ := zz_b1E hf
    refine zz_callS 55 [.ref (ad 11), .int 0, .ref (ad 1), .int 0, .int 6] C dX5_back_52 rfl ml_X5_169 (k_X5_copy (hka := sr_11) (hkb := sr_1) hc2) rfl rfl rfl (Nat.le_of_ble_eq_true rfl) (zz_hR (Nat.le_of_ble_eq_true rfl) (Nat.le_of_ble_eq_true rfl)) ?_
    refine zz_aload_n 56 C dX5_back_55 rfl 0 rfl ?_
    refine zz_getR 59 C dX5_back_56 rfl fl_X5_40 sr_0 rfl ?_
    refine zz_bipush 61 C dX5_back_59 rfl zz_bp6 ?_
    refine zz_aload_n 62 C dX5_back_61 rfl 0 rfl ?_
    refine zz_getR 65 C dX5_back_62 rfl fl_X5_13 sr_0 rfl ?_
    refine zz_iconst 66 C dX5_back_65 rfl zz_i0 ?_
    refine zz_bipush 68 C dX5_back_66 rfl zz_bp6 ?_
    obtain ⟨M5, hc4, hf⟩ := zz_b1E hf
    refine zz_callS 71 [.ref (ad 11), .int 6, .ref (ad 2), .int 0, .int 6] C dX5_back_68 rfl ml_X5_169 (k_X5_copy (hka := sr_11) (hkb := sr_2) hc4) rfl rfl rfl (Nat.le_of_ble_eq_true rfl) (zz_hR (Nat.le_of_ble_eq_true rfl) (Nat.le_of_ble_eq_true rfl)) ?_
    refine zz_aload_n 72 C dX5_back_71 rfl 0 rfl ?_
    refine zz_getR 75 C dX5_back_72 rfl fl_X5_40 sr_0 rfl ?_
    refine zz_bipush 77 C dX5_back_75 rfl zz_bp12 ?_
    refine zz_aload_n 78 C dX5_back_77 rfl 0 rfl ?_
    refine zz_getR 81 C dX5_back_78 rfl fl_X5_16 sr_0 rfl ?_
    refine zz_iconst 82 C dX5_back_81 rfl zz_i0 ?_
    refine zz_bipush 84 C dX5_back_82 rfl zz_bp6 ?_
    obtain ⟨M7, hc6, hf⟩ := zz_b1E hf
    refine zz_callS 87 [.ref (ad 11), .int 12, .ref (ad 3), .int 0, .int 6] C dX5_back_84 rfl ml_X5_169 (k_X5_copy (hka := sr_11) (hkb := sr_3) hc6) rfl rfl rfl (Nat.le_of_ble_eq_true rfl) (zz_hR (Nat.le_of_ble_eq_true rfl) (Nat.le_of_ble_eq_true rfl)) ?_
    refine zz_aload_n 88 C dX5_back_87 rfl 0 rfl ?_
    refine zz_getR 91 C dX5_back_88 rfl fl_X5_40 sr_0 rfl ?_
    refine zz_bipush 93 C dX5_back_91 rfl zz_bp18 ?_
    refine zz_aload_n 94 C dX5_back_93 rfl 0 rfl ?_
    refine zz_getR 97 C dX5_back_94 rfl fl_X5_19 sr_0 rfl ?_
    refine zz_iconst 98 C dX5_back_97 rfl zz_i0 ?_
    refine zz_bipush 100 C dX5_back_98 rfl zz_bp6 ?_
    obtain ⟨M9, hc8, hf⟩ := zz_b1E hf
    refine zz_callS 103 [.ref (ad 11), .int 18, .ref (ad 4), .int 0, .int 6] C dX5_back_100 rfl ml_X5_169 (k_X5_copy (hka := sr_11) (hkb := sr_4) hc8) rfl rfl rfl (Nat.le_of_ble_eq_true rfl) (zz_hR (Nat.le_of_ble_eq_true rfl) (Nat.le_of_ble_eq_true rfl)) ?_
    refine zz_aload_n 104 C dX5_back_103 rfl 0 rfl ?_
    refine zz_getR 107 C dX5_back_104 rfl fl_X5_40 sr_0 rfl ?_
    refine zz_bipush 109 C dX5_back_107 rfl zz_bp24 ?_
    refine zz_aload_n 110 C dX5_back_109 rfl 0 rfl ?_
    refine zz_getR 113 C dX5_back_110 rfl fl_X5_22 sr_0 rfl ?_
    refine zz_iconst 114 C dX5_back_113 rfl zz_i0 ?_
    refine zz_bipush 116 C dX5_back_114 rfl zz_bp6 ?_
    obtain ⟨M11, hc10, hf⟩ := zz_b1E hf
    refine zz_callS 119 [.ref (ad 11), .int 24, .ref (ad 5), .int 0, .int 6] C dX5_back_116 rfl ml_X5_169 (k_X5_copy (hka := sr_11) (hkb := sr_5) hc10) rfl rfl rfl (Nat.le_of_ble_eq_true rfl) (zz_hR (Nat.le_of_ble_eq_true rfl) (Nat.le_of_ble_eq_true rfl)) ?_
    refine zz_aload_n 120 C dX5_back_119 rfl 0 rfl ?_
    refine zz_getR 123 C dX5_back_120 rfl fl_X5_40 sr_0 rfl ?_
    refine zz_bipush 125 C dX5_back_123 rfl zz_bp30 ?_
    refine zz_aload_n 126 C dX5_back_125 rfl 0 rfl ?_
    refine zz_getR 129 C dX5_back_126 rfl fl_X5_25 sr_0 rfl ?_
    refine zz_iconst 130 C dX5_back_129 rfl zz_i0 ?_
    refine zz_bipush 132 C dX5_back_130 rfl zz_bp6 ?_
    obtain ⟨M13, hc12, hf⟩ := zz_b1E hf
    refine zz_callS 135 [.ref (ad 11), .int 30, .ref (ad 6), .int 0, .int 6] C dX5_back_132 rfl ml_X5_169 (k_X5_copy (hka := sr_11) (hkb := sr_6) hc12) rfl rfl rfl (Nat.le_of_ble_eq_true rfl) (zz_hR (Nat.le_of_ble_eq_true rfl) (Nat.le_of_ble_eq_true rfl)) ?_
    refine zz_aload_n 136 C dX5_back_135 rfl 0 rfl ?_
    refine zz_getR 139 C dX5_back_136 rfl fl_X5_43 sr_0 rfl ?_
    refine zz_iconst 140 C dX5_back_139 rfl zz_i0 ?_
    refine zz_aload_n 141 C dX5_back_140 rfl 0 rfl ?_
    refine zz_getR 144 C dX5_back_141 rfl fl_X5_28 sr_0 rfl ?_
    refine zz_iconst 145 C dX5_back_144 rfl zz_i0 ?_
    refine zz_bipush 147 C dX5_back_145 rfl zz_bp16 ?_
    obtain ⟨M15, hc14, hf⟩ := zz_b1E hf
    refine zz_callS 150 [.ref (ad 12), .int 0, .ref (ad 7), .int 0, .int 16] C dX5_back_147 rfl ml_X5_169 (k_X5_copy (hka := sr_12) (hkb := sr_7) hc14) rfl rfl rfl (Nat.le_of_ble_eq_true rfl) (zz_hR (Nat.le_of_ble_eq_true rfl) (Nat.le_of_ble_eq_true rfl)) ?_
    refine zz_aload_n 151 C dX5_back_150 rfl 0 rfl ?_
    refine zz_getR 154 C dX5_back_151 rfl fl_X5_43 sr_0 rfl ?_
    refine zz_bipush 156 C dX5_back_154 rfl zz_bp16 ?_
    refine zz_aload_n 157 C dX5_back_156 rfl 0 rfl ?_
    refine zz_getR 160 C dX5_back_157 rfl fl_X5_31 sr_0 rfl ?_
    refine zz_iconst 161 C dX5_back_160 rfl zz_i0 ?_
    refine zz_bipush 163 C dX5_back_161 rfl zz_bp16 ?_
    obtain ⟨M17, hc16, hf⟩ := zz_b1E hf
    refine zz_callS 166 [.ref (ad 12), .int 16, .ref (ad 8), .int 0, .int 16] C dX5_back_163 rfl ml_X5_169 (k_X5_copy (hka := sr_12) (hkb := sr_8) hc16) rfl rfl rfl (Nat.le_of_ble_eq_true rfl) (zz_hR (Nat.le_of_ble_eq_true rfl) (Nat.le_of_ble_eq_true rfl)) ?_
    refine zz_aload_n 167 C dX5_back_166 rfl 0 rfl ?_
    refine zz_getR 170 C dX5_back_167 rfl fl_X5_43 sr_0 rfl ?_
    refine zz_bipush 172 C dX5_back_170 rfl zz_bp32 ?_
    refine zz_aload_n 173 C dX5_back_172 rfl 0 rfl ?_
    refine zz_getR 176 C dX5_back_173 rfl fl_X5_34 sr_0 rfl ?_
    refine zz_iconst 177 C dX5_back_176 rfl zz_i0 ?_
    refine zz_bipush 179 C dX5_back_177 rfl zz_bp96 ?_
    obtain ⟨M19, hc18, hf⟩ := zz_b1E hf
    refine zz_callS 182 [.ref (ad 12), .int 32, .ref (ad 9), .int 0, .int 96] C dX5_back_179 rfl ml_X5_169 (k_X5_copy (hka := sr_12) (hkb := sr_9) hc18) rfl rfl rfl (Nat.le_of_ble_eq_true rfl) (zz_hR (Nat.le_of_ble_eq_true rfl) (Nat.le_of_ble_eq_true rfl)) ?_
    refine zz_iconst 183 C dX5_back_182 rfl zz_i1 ?_
    cases hf
    exact zz_iret C dX5_back_183 rfl rfl
  · refine zz_bipush 9 C dX5_back_7 rfl zz_bpm4 ?_
    cases hf
    exact zz_iret C dX5_back_9 rfl rfl
