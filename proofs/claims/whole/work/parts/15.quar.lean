def f_J6_bitCount_0f7a4 (a0 : Int32) (M : zz_Mem) : Option (Int32 × zz_Mem) := some ((((((((a0 - (((a0.toUInt32 >>> ((1 : Int32).toUInt32 &&& Int32.toUInt32 31)).toInt32) &&& 1431655765)) &&& 858993459) + ((((a0 - (((a0.toUInt32 >>> ((1 : Int32).toUInt32 &&& Int32.toUInt32 31)).toInt32) &&& 1431655765)).toUInt32 >>> ((2 : Int32).toUInt32 &&& Int32.toUInt32 31)).toInt32) &&& 858993459)) + (((((a0 - (((a0.toUInt32 >>> ((1 : Int32).toUInt32 &&& Int32.toUInt32 31)).toInt32) &&& 1431655765)) &&& 858993459) + ((((a0 - (((a0.toUInt32 >>> ((1 : Int32).toUInt32 &&& Int32.toUInt32 31)).toInt32) &&& 1431655765)).toUInt32 >>> ((2 : Int32).toUInt32 &&& Int32.toUInt32 31)).toInt32) &&& 858993459)).toUInt32 >>> ((4 : Int32).toUInt32 &&& Int32.toUInt32 31)).toInt32)) &&& 252645135) + (((((((a0 - (((a0.toUInt32 >>> ((1 : Int32).toUInt32 &&& Int32.toUInt32 31)).toInt32) &&& 1431655765)) &&& 858993459) + ((((a0 - (((a0.toUInt32 >>> ((1 : Int32).toUInt32 &&& Int32.toUInt32 31)).toInt32) &&& 1431655765)).toUInt32 >>> ((2 : Int32).toUInt32 &&& Int32.toUInt32 31)).toInt32) &&& 858993459)) + (((((a0 - (((a0.toUInt32 >>> ((1 : Int32).toUInt32 &&& Int32.toUInt32 31)).toInt32) &&& 1431655765)) &&& 858993459) + ((((a0 - (((a0.toUInt32 >>> ((1 : Int32).toUInt32 &&& Int32.toUInt32 31)).toInt32) &&& 1431655765)).toUInt32 >>> ((2 : Int32).toUInt32 &&& Int32.toUInt32 31)).toInt32) &&& 858993459)).toUInt32 >>> ((4 : Int32).toUInt32 &&& Int32.toUInt32 31)).toInt32)) &&& 252645135).toUInt32 >>> ((8 : Int32).toUInt32 &&& Int32.toUInt32 31)).toInt32)) + ((((((((a0 - (((a0.toUInt32 >>> ((1 : Int32).toUInt32 &&& Int32.toUInt32 31)).toInt32) &&& 1431655765)) &&& 858993459) + ((((a0 - (((a0.toUInt32 >>> ((1 : Int32).toUInt32 &&& Int32.toUInt32 31)).toInt32) &&& 1431655765)).toUInt32 >>> ((2 : Int32).toUInt32 &&& Int32.toUInt32 31)).toInt32) &&& 858993459)) + (((((a0 - (((a0.toUInt32 >>> ((1 : Int32).toUInt32 &&& Int32.toUInt32 31)).toInt32) &&& 1431655765)) &&& 858993459) + ((((a0 - (((a0.toUInt32 >>> ((1 : Int32).toUInt32 &&& Int32.toUInt32 31)).toInt32) &&& 1431655765)).toUInt32 >>> ((2 : Int32).toUInt32 &&& Int32.toUInt32 31)).toInt32) &&& 858993459)).toUInt32 >>> ((4 : Int32).toUInt32 &&& Int32.toUInt32 31)).toInt32)) &&& 252645135) + (((((((a0 - (((a0.toUInt32 >>> ((1 : Int32).toUInt32 &&& Int32.toUInt32 31)).toInt32) &&& 1431655765)) &&& 858993459) + ((((a0 - (((a0.toUInt32 >>> ((1 : Int32).toUInt32 &&& Int32.toUInt32 31)).toInt32) &&& 1431655765)).toUInt32 >>> ((2 : Int32).toUInt32 &&& Int32.toUInt32 31)).toInt32) &&& 858993459)) + (((((a0 - (((a0.toUInt32 >>> ((1 : Int32).toUInt32 &&& Int32.toUInt32 31)).toInt32) &&& 1431655765)) &&& 858993459) + ((((a0 - (((a0.toUInt32 >>> ((1 : Int32).toUInt32 &&& Int32.toUInt32 31)).toInt32) &&& 1431655765)).toUInt32 >>> ((2 : Int32).toUInt32 &&& Int32.toUInt32 31)).toInt32) &&& 858993459)).toUInt32 >>> ((4 : Int32).toUInt32 &&& Int32.toUInt32 31)).toInt32)) &&& 252645135).toUInt32 >>> ((8 : Int32).toUInt32 &&& Int32.toUInt32 31)).toInt32)).toUInt32 >>> ((16 : Int32).toUInt32 &&& Int32.toUInt32 31)).toInt32)) &&& 63, M)
set_option maxHeartbeats 4000000 in
set_option maxRecDepth 100000 in
theorem k_J6_bitCount_0f7a4 {l : Launch} {D : va_G} {cI : ClassId} {ad : Nat → Nat} {S : List zz_Sh} {a0 : Int32} {r : Int32} {M M1 : zz_Mem} (hf : f_J6_bitCount_0f7a4 a0 M = some (r, M1)) : zz_K l D S cI ad 0 yJ6_bitCount_0f7a4 cJ6_bitCount_0f7a4 1 (some .int) [.int a0] M (some (.int r)) M1 := by
  unfold f_J6_bitCount_0f7a4 at hf
  refine zz_entry (own := RJ6) (L := [(0, .int a0)]) (by decide +kernel) rfl (Nat.le_of_ble_eq_true rfl) rfl (fun p e s m args below meth c C => ?_)
  refine zz_iload_n 1 C dJ6_bitCount_0f7a4_0 rfl 0 rfl ?_
  refine zz_iload_n 2 C dJ6_bitCount_0f7a4_1 rfl 0 rfl ?_
  refine zz_iconst 3 C dJ6_bitCount_0f7a4_2 rfl zz_i1 ?_
  refine zz_iushr 4 C dJ6_bitCount_0f7a4_3 rfl ?_
  refine zz_ldcw 7 C dJ6_bitCount_0f7a4_4 rfl ct_J6_265 ?_
  refine zz_iand 8 C dJ6_bitCount_0f7a4_7 rfl ?_
  refine zz_isub 9 C dJ6_bitCount_0f7a4_8 rfl ?_
  refine zz_istore_n (L' := [(0, .int (a0 - (((a0.toUInt32 >>> ((1 : Int32).toUInt32 &&& Int32.toUInt32 31)).toInt32) &&& 1431655765)))]) 10 C dJ6_bitCount_0f7a4_9 rfl (Nat.le_of_ble_eq_true rfl) rfl ?_
  refine zz_iload_n 11 C dJ6_bitCount_0f7a4_10 rfl 0 rfl ?_
  refine zz_ldcw 14 C dJ6_bitCount_0f7a4_11 rfl ct_J6_266 ?_
  refine zz_iand 15 C dJ6_bitCount_0f7a4_14 rfl ?_
  refine zz_iload_n 16 C dJ6_bitCount_0f7a4_15 rfl 0 rfl ?_
  refine zz_iconst 17 C dJ6_bitCount_0f7a4_16 rfl zz_i2 ?_
  refine zz_iushr 18 C dJ6_bitCount_0f7a4_17 rfl ?_
  refine zz_ldcw 21 C dJ6_bitCount_0f7a4_18 rfl ct_J6_266 ?_
  refine zz_iand 22 C dJ6_bitCount_0f7a4_21 rfl ?_
  refine zz_iadd 23 C dJ6_bitCount_0f7a4_22 rfl ?_
  refine zz_istore_n (L' := [(0, .int (((a0 - (((a0.toUInt32 >>> ((1 : Int32).toUInt32 &&& Int32.toUInt32 31)).toInt32) &&& 1431655765)) &&& 858993459) + ((((a0 - (((a0.toUInt32 >>> ((1 : Int32).toUInt32 &&& Int32.toUInt32 31)).toInt32) &&& 1431655765)).toUInt32 >>> ((2 : Int32).toUInt32 &&& Int32.toUInt32 31)).toInt32) &&& 858993459)))]) 24 C dJ6_bitCount_0f7a4_23 rfl (Nat.le_of_ble_eq_true rfl) rfl ?_
  refine zz_iload_n 25 C dJ6_bitCount_0f7a4_24 rfl 0 rfl ?_
  refine zz_iload_n 26 C dJ6_bitCount_0f7a4_25 rfl 0 rfl ?_
  refine zz_iconst 27 C dJ6_bitCount_0f7a4_26 rfl zz_i4 ?_
  refine zz_iushr 28 C dJ6_bitCount_0f7a4_27 rfl ?_
  refine zz_iadd 29 C dJ6_bitCount_0f7a4_28 rfl ?_
  refine zz_ldcw 32 C dJ6_bitCount_0f7a4_29 rfl ct_J6_267 ?_
  refine zz_iand 33 C dJ6_bitCount_0f7a4_32 rfl ?_
  refine zz_istore_n (L' := [(0, .int (((((a0 - (((a0.toUInt32 >>> ((1 : Int32).toUInt32 &&& Int32.toUInt32 31)).toInt32) &&& 1431655765)) &&& 858993459) + ((((a0 - (((a0.toUInt32 >>> ((1 : Int32).toUInt32 &&& Int32.toUInt32 31)).toInt32) &&& 1431655765)).toUInt32 >>> ((2 : Int32).toUInt32 &&& Int32.toUInt32 31)).toInt32) &&& 858993459)) + (((((a0 - (((a0.toUInt32 >>> ((1 : Int32).toUInt32 &&& Int32.toUInt32 31)).toInt32) &&& 1431655765)) &&& 858993459) + ((((a0 - (((a0.toUInt32 >>> ((1 : Int32).toUInt32 &&& Int32.toUInt32 31)).toInt32) &&& 1431655765)).toUInt32 >>> ((2 : Int32).toUInt32 &&& Int32.toUInt32 31)).toInt32) &&& 858993459)).toUInt32 >>> ((4 : Int32).toUInt32 &&& Int32.toUInt32 31)).toInt32)) &&& 252645135))]) 34 C dJ6_bitCount_0f7a4_33 rfl (Nat.le_of_ble_eq_true rfl) rfl ?_
  refine zz_iload_n 35 C dJ6_bitCount_0f7a4_34 rfl 0 rfl ?_
  refine zz_iload_n 36 C dJ6_bitCount_0f7a4_35 rfl 0 rfl ?_
  refine zz_bipush 38 C dJ6_bitCount_0f7a4_36 rfl zz_bp8 ?_
  refine zz_iushr 39 C dJ6_bitCount_0f7a4_38 rfl ?_
  refine zz_iadd 40 C dJ6_bitCount_0f7a4_39 rfl ?_
  refine zz_istore_n (L' := [(0, .int ((((((a0 - (((a0.toUInt32 >>> ((1 : Int32).toUInt32 &&& Int32.toUInt32 31)).toInt32) &&& 1431655765)) &&& 858993459) + ((((a0 - (((a0.toUInt32 >>> ((1 : Int32).toUInt32 &&& Int32.toUInt32 31)).toInt32) &&& 1431655765)).toUInt32 >>> ((2 : Int32).toUInt32 &&& Int32.toUInt32 31)).toInt32) &&& 858993459)) + (((((a0 - (((a0.toUInt32 >>> ((1 : Int32).toUInt32 &&& Int32.toUInt32 31)).toInt32) &&& 1431655765)) &&& 858993459) + ((((a0 - (((a0.toUInt32 >>> ((1 : Int32).toUInt32 &&& Int32.toUInt32 31)).toInt32) &&& 1431655765)).toUInt32 >>> ((2 : Int32).toUInt32 &&& Int32.toUInt32 31)).toInt32) &&& 858993459)).toUInt32 >>> ((4 : Int32).toUInt32 &&& Int32.toUInt32 31)).toInt32)) &&& 252645135) + (((((((a0 - (((a0.toUInt32 >>> ((1 : Int32).toUInt32 &&& Int32.toUInt32 31)).toInt32) &&& 1431655765)) &&& 858993459) + ((((a0 - (((a0.toUInt32 >>> ((1 : Int32).toUInt32 &&& Int32.toUInt32 31)).toInt32) &&& 1431655765)).toUInt32 >>> ((2 : Int32).toUInt32 &&& Int32.toUInt32 31)).toInt32) &&& 858993459)) + (((((a0 - (((a0.toUInt32 >>> ((1 : Int32).toUInt32 &&& Int32.toUInt32 31)).toInt32) &&& 1431655765)) &&& 858993459) + ((((a0 - (((a0.toUInt32 >>> ((1 : Int32).toUInt32 &&& Int32.toUInt32 31)).toInt32) &&& 1431655765)).toUInt32 >>> ((2 : Int32).toUInt32 &&& Int32.toUInt32 31)).toInt32) &&& 858993459)).toUInt32 >>> ((4 : Int32).toUInt32 &&& Int32.toUInt32 31)).toInt32)) &&& 252645135).toUInt32 >>> ((8 : Int32).toUInt32 &&& Int32.toUInt32 31)).toInt32)))]) 41 C dJ6_bitCount_0f7a4_40 rfl (Nat.le_of_ble_eq_true rfl) rfl ?_
  refine zz_iload_n 42 C dJ6_bitCount_0f7a4_41 rfl 0 rfl ?_
  refine zz_iload_n 43 C dJ6_bitCount_0f7a4_42 rfl 0 rfl ?_
  refine zz_bipush 45 C dJ6_bitCount_0f7a4_43 rfl zz_bp16 ?_
  refine zz_iushr 46 C dJ6_bitCount_0f7a4_45 rfl ?_
  refine zz_iadd 47 C dJ6_bitCount_0f7a4_46 rfl ?_
  refine zz_istore_n (L' := [(0, .int (((((((a0 - (((a0.toUInt32 >>> ((1 : Int32).toUInt32 &&& Int32.toUInt32 31)).toInt32) &&& 1431655765)) &&& 858993459) + ((((a0 - (((a0.toUInt32 >>> ((1 : Int32).toUInt32 &&& Int32.toUInt32 31)).toInt32) &&& 1431655765)).toUInt32 >>> ((2 : Int32).toUInt32 &&& Int32.toUInt32 31)).toInt32) &&& 858993459)) + (((((a0 - (((a0.toUInt32 >>> ((1 : Int32).toUInt32 &&& Int32.toUInt32 31)).toInt32) &&& 1431655765)) &&& 858993459) + ((((a0 - (((a0.toUInt32 >>> ((1 : Int32).toUInt32 &&& Int32.toUInt32 31)).toInt32) &&& 1431655765)).toUInt32 >>> ((2 : Int32).toUInt32 &&& Int32.toUInt32 31)).toInt32) &&& 858993459)).toUInt32 >>> ((4 : Int32).toUInt32 &&& Int32.toUInt32 31)).toInt32)) &&& 252645135) + (((((((a0 - (((a0.toUInt32 >>> ((1 : Int32).toUInt32 &&& Int32.toUInt32 31)).toInt32) &&& 1431655765)) &&& 858993459) + ((((a0 - (((a0.toUInt32 >>> ((1 : Int32).toUInt32 &&& Int32.toUInt32 31)).toInt32) &&& 1431655765)).toUInt32 >>> ((2 : Int32).toUInt32 &&& Int32.toUInt32 31)).toInt32) &&& 858993459)) + (((((a0 - (((a0.toUInt32 >>> ((1 : Int32).toUInt32 &&& Int32.toUInt32 31)).toInt32) &&& 1431655765)) &&& 858993459) + ((((a0 - (((a0.toUInt32 >>> ((1 : Int32).toUInt32 &&& Int32.toUInt32 31)).toInt32) &&& 1431655765)).toUInt32 >>> ((2 : Int32).toUInt32 &&& Int32.toUInt32 31)).toInt32) &&& 858993459)).toUInt32 >>> ((4 : Int32).toUInt32 &&& Int32.toUInt32 31)).toInt32)) &&& 252645135).toUInt32 >>> ((8 : Int32).toUInt32 &&& Int32.toUInt32 31)).toInt32)) + ((((((((a0 - (((a0.toUInt32 >>> ((1 : Int32).toUInt32 &&& Int32.toUInt32 31)).toInt32) &&& 1431655765)) &&& 858993459) + ((((a0 - (((a0.toUInt32 >>> ((1 : Int32).toUInt32 &&& Int32.toUInt32 31)).toInt32) &&& 1431655765)).toUInt32 >>> ((2 : Int32).toUInt32 &&& Int32.toUInt32 31)).toInt32) &&& 858993459)) + (((((a0 - (((a0.toUInt32 >>> ((1 : Int32).toUInt32 &&& Int32.toUInt32 31)).toInt32) &&& 1431655765)) &&& 858993459) + ((((a0 - (((a0.toUInt32 >>> ((1 : Int32).toUInt32 &&& Int32.toUInt32 31)).toInt32) &&& 1431655765)).toUInt32 >>> ((2 : Int32).toUInt32 &&& Int32.toUInt32 31)).toInt32) &&& 858993459)).toUInt32 >>> ((4 : Int32).toUInt32 &&& Int32.toUInt32 31)).toInt32)) &&& 252645135) + (((((((a0 - (((a0.toUInt32 >>> ((1 : Int32).toUInt32 &&& Int32.toUInt32 31)).toInt32) &&& 1431655765)) &&& 858993459) + ((((a0 - (((a0.toUInt32 >>> ((1 : Int32).toUInt32 &&& Int32.toUInt32 31)).toInt32) &&& 1431655765)).toUInt32 >>> ((2 : Int32).toUInt32 &&& Int32.toUInt32 31)).toInt32) &&& 858993459)) + (((((a0 - (((a0.toUInt32 >>> ((1 : Int32).toUInt32 &&& Int32.toUInt32 31)).toInt32) &&& 1431655765)) &&& 858993459) + ((((a0 - (((a0.toUInt32 >>> ((1 : Int32).toUInt32 &&& Int32.toUInt32 31)).toInt32) &&& 1431655765)).toUInt32 >>> ((2 : Int32).toUInt32 &&& Int32.toUInt32 31)).toInt32) &&& 858993459)).toUInt32 >>> ((4 : Int32).toUInt32 &&& Int32.toUInt32 31)).toInt32)) &&& 252645135).toUInt32 >>> ((8 : Int32).toUInt32 &&& Int32.toUInt32 31)).toInt32)).toUInt32 >>> ((16 : Int32).toUInt32 &&& Int32.toUInt32 31)).toInt32)))]) 48 C dJ6_bitCount_0f7a4_47 rfl (Nat.le_of_ble_eq_true rfl) rfl ?_
  refine zz_iload_n 49 C dJ6_bitCount_0f7a4_48 rfl 0 rfl ?_
  refine zz_bipush 51 C dJ6_bitCount_0f7a4_49 rfl zz_bp63 ?_
  refine zz_iand 52 C dJ6_bitCount_0f7a4_51 rfl ?_
  cases hf
  exact zz_iret C dJ6_bitCount_0f7a4_52 rfl rfl
def f_X1_find_19 (x2 : Int32) : Nat → Int32 → zz_Mem → Option (Int32 × zz_Mem)
  | 0, _, _ => none
  | n + 1, v3, M => (if (M 1 0) ≤ v3 then some (v3, M) else zz_b2 (f_X3_chosenNoiseOf x2 v3 M) (fun r6 M5 => (if r6 ≤ 0 then f_X1_find_19 x2 n (v3 + 1) M5 else (if zz_in x2 6 then f_X1_find_19 x2 n (v3 + 1) (zz_up M5 30 x2.toNatClampNeg ((M5 30 x2.toNatClampNeg) ||| (1 <<< (v3 &&& 31)))) else none))))
set_option maxHeartbeats 4000000 in
set_option maxRecDepth 100000 in
theorem l_X1_find_19 {p : Program} {l : Launch} {e : Env} {s : State} {m : MethodId} {args : Array Value} {below : List Frame} {meth : Method} {c : Code} {D : va_G} {cI : ClassId} {ad : Nat → Nat} {x2 : Int32} {w : Option Value} {Mf : zz_Mem} (C : zz_C p (zz_rm 5) s m args meth c D cI RX1 cX1_find 4 none 0 0) {w3 : Int32} {M1 : zz_Mem} : ∀ {n : Nat} {v3 : Int32} {M : zz_Mem}, f_X1_find_19 x2 n v3 M = some (w3, M1) → zz_V p l e (zz_rm 5) s m args below meth c D zz_SC cI ad (zz_A zz_SC ad) 4 0 0 (MQ below (zz_Q D zz_SC cI ad w Mf) args s 0 0 (zz_A zz_SC ad)) 54 [(0, .ref (ad 5)), (1, .ref (ad 1)), (2, .int x2), (3, .int w3)] [] M1 → zz_V p l e (zz_rm 5) s m args below meth c D zz_SC cI ad (zz_A zz_SC ad) 4 0 0 (MQ below (zz_Q D zz_SC cI ad w Mf) args s 0 0 (zz_A zz_SC ad)) 19 [(0, .ref (ad 5)), (1, .ref (ad 1)), (2, .int x2), (3, .int v3)] [] M := by
  intro n
  induction n with
  | zero =>
    intro v3 M hf
    simp [f_X1_find_19] at hf
  | succ n ih0 =>
    intro v3 M hf hex
    have ih := fun v3 M hf => @ih0 v3 M hf
    rw [f_X1_find_19] at hf
    refine zz_iload_n 20 C dX1_find_19 rfl 3 rfl ?_
    refine zz_aload_n 21 C dX1_find_20 rfl 1 rfl ?_
    refine zz_getI 24 C dX1_find_21 rfl fl_X1_15 sc_1 rfl ?_
    refine zz_icmp_ge 27 54 C dX1_find_24 rfl rfl hf (fun h3 hf => ?_) (fun h3 hf => ?_)
    · cases hf
      exact zz_sub [0, 1, 2, 3] rfl hex
    · refine zz_aload_n 28 C dX1_find_27 rfl 1 rfl ?_
      refine zz_iload_n 29 C dX1_find_28 rfl 2 rfl ?_
      refine zz_iload_n 30 C dX1_find_29 rfl 3 rfl ?_
      obtain ⟨r6, M5, hc4, hf⟩ := zz_b2E hf
      refine zz_callV 33 [.int x2, .int v3] C dX1_find_30 rfl ml_X1_21 (k_X3_chosenNoiseOf hc4) sc_1 (vC := vwCl[3]) rfl rfl rfl rfl rfl (Nat.le_of_ble_eq_true rfl) (zz_hR (Nat.le_of_ble_eq_true rfl) (Nat.le_of_ble_eq_true rfl)) ?_
      refine zz_if_le 36 48 C dX1_find_33 rfl rfl hf (fun h7 hf => ?_) (fun h7 hf => ?_)
      · refine zz_iinc (L' := [(3, .int (v3 + 1)), (0, .ref (ad 5)), (1, .ref (ad 1)), (2, .int x2)]) 51 C dX1_find_48 rfl zz_i1 3 rfl (Nat.le_of_ble_eq_true rfl) rfl ?_
        refine zz_goto 19 C dX1_find_51 rfl ?_
        exact zz_sub [1, 2, 3, 0] rfl (ih _ _ hf hex)
      · refine zz_aload_n 37 C dX1_find_36 rfl 0 rfl ?_
        refine zz_getR 40 C dX1_find_37 rfl fl_X1_9 sc_5 rfl ?_
        refine zz_iload_n 41 C dX1_find_40 rfl 2 rfl ?_
        refine zz_dup2 42 C dX1_find_41 rfl rfl rfl ?_
        obtain ⟨hi8, hf⟩ := zz_chk hf
        refine zz_iald 43 C sc_30 dX1_find_42 rfl hi8 ?_
        refine zz_iconst 44 C dX1_find_43 rfl zz_i1 ?_
        refine zz_iload_n 45 C dX1_find_44 rfl 3 rfl ?_
        refine zz_ishl 46 C dX1_find_45 rfl ?_
        refine zz_ior 47 C dX1_find_46 rfl ?_
        refine zz_iast 48 C sc_30 dX1_find_47 rfl hi8 ?_
        refine zz_iinc (L' := [(3, .int (v3 + 1)), (0, .ref (ad 5)), (1, .ref (ad 1)), (2, .int x2)]) 51 C dX1_find_48 rfl zz_i1 3 rfl (Nat.le_of_ble_eq_true rfl) rfl ?_
        refine zz_goto 19 C dX1_find_51 rfl ?_
        exact zz_sub [1, 2, 3, 0] rfl (ih _ _ hf hex)
def f_X1_find_2 : Nat → Int32 → zz_Mem → Option (Int32 × zz_Mem)
  | 0, _, _ => none
  | n + 1, v2, M => (if (M 1 0) ≤ v2 then some (v2, M) else (if zz_in v2 6 then zz_b2 (f_X1_find_19 v2 5000 0 (zz_up M 30 v2.toNatClampNeg 0)) (fun w9 M10 => f_X1_find_2 n (v2 + 1) M10) else none))
set_option maxHeartbeats 4000000 in
set_option maxRecDepth 100000 in
theorem l_X1_find_2 {p : Program} {l : Launch} {e : Env} {s : State} {m : MethodId} {args : Array Value} {below : List Frame} {meth : Method} {c : Code} {D : va_G} {cI : ClassId} {ad : Nat → Nat} {w : Option Value} {Mf : zz_Mem} (C : zz_C p (zz_rm 5) s m args meth c D cI RX1 cX1_find 4 none 0 0) {w2 : Int32} {M1 : zz_Mem} : ∀ {n : Nat} {v2 : Int32} {M : zz_Mem}, f_X1_find_2 n v2 M = some (w2, M1) → zz_V p l e (zz_rm 5) s m args below meth c D zz_SC cI ad (zz_A zz_SC ad) 4 0 0 (MQ below (zz_Q D zz_SC cI ad w Mf) args s 0 0 (zz_A zz_SC ad)) 60 [(0, .ref (ad 5)), (1, .ref (ad 1)), (2, .int w2)] [] M1 → zz_V p l e (zz_rm 5) s m args below meth c D zz_SC cI ad (zz_A zz_SC ad) 4 0 0 (MQ below (zz_Q D zz_SC cI ad w Mf) args s 0 0 (zz_A zz_SC ad)) 2 [(0, .ref (ad 5)), (1, .ref (ad 1)), (2, .int v2)] [] M := by
  intro n
  induction n with
  | zero =>
    intro v2 M hf
    simp [f_X1_find_2] at hf
  | succ n ih0 =>
    intro v2 M hf hex
    have ih := fun v2 M hf => @ih0 v2 M hf
    rw [f_X1_find_2] at hf
    refine zz_iload_n 3 C dX1_find_2 rfl 2 rfl ?_
    refine zz_aload_n 4 C dX1_find_3 rfl 1 rfl ?_
    refine zz_getI 7 C dX1_find_4 rfl fl_X1_15 sc_1 rfl ?_
    refine zz_icmp_ge 10 60 C dX1_find_7 rfl rfl hf (fun h1 hf => ?_) (fun h1 hf => ?_)
    · cases hf
      exact zz_sub [0, 1, 2] rfl hex
    · refine zz_aload_n 11 C dX1_find_10 rfl 0 rfl ?_
      refine zz_getR 14 C dX1_find_11 rfl fl_X1_9 sc_5 rfl ?_
      refine zz_iload_n 15 C dX1_find_14 rfl 2 rfl ?_
      refine zz_iconst 16 C dX1_find_15 rfl zz_i0 ?_
      obtain ⟨hi2, hf⟩ := zz_chk hf
      refine zz_iast 17 C sc_30 dX1_find_16 rfl hi2 ?_
      refine zz_iconst 18 C dX1_find_17 rfl zz_i0 ?_
      refine zz_istore_n (L' := [(3, .int 0), (0, .ref (ad 5)), (1, .ref (ad 1)), (2, .int v2)]) 19 C dX1_find_18 rfl (Nat.le_of_ble_eq_true rfl) rfl ?_
      obtain ⟨w9, M10, hc11, hf⟩ := zz_b2E hf
      refine zz_sub [1, 2, 3, 0] rfl (l_X1_find_19 C  hc11 ?_)
      refine zz_iinc (L' := [(2, .int (v2 + 1)), (0, .ref (ad 5)), (1, .ref (ad 1)), (3, .int w9)]) 57 C dX1_find_54 rfl zz_i1 2 rfl (Nat.le_of_ble_eq_true rfl) rfl ?_
      refine zz_goto 2 C dX1_find_57 rfl ?_
      exact zz_sub [1, 2, 0] rfl (ih _ _ hf hex)
def f_X1_find (M : zz_Mem) : Option (zz_Mem) := zz_b2 (f_X1_find_2 5000 0 M) (fun w12 M13 => some M13)
set_option maxHeartbeats 4000000 in
set_option maxRecDepth 100000 in
theorem k_X1_find {l : Launch} {D : va_G} {cI : ClassId} {ad : Nat → Nat} {M M1 : zz_Mem} (hf : f_X1_find M = some M1) : zz_K l D zz_SC cI ad 5 yX1_find cX1_find 4 none [.ref (ad 5), .ref (ad 1)] M none M1 := by
  unfold f_X1_find at hf
  refine zz_entry (own := RX1) (L := [(0, .ref (ad 5)), (1, .ref (ad 1))]) (by decide +kernel) rfl (Nat.le_of_ble_eq_true rfl) rfl (fun p e s m args below meth c C => ?_)
  refine zz_iconst 1 C dX1_find_0 rfl zz_i0 ?_
  refine zz_istore_n (L' := [(2, .int 0), (0, .ref (ad 5)), (1, .ref (ad 1))]) 2 C dX1_find_1 rfl (Nat.le_of_ble_eq_true rfl) rfl ?_
  obtain ⟨w12, M13, hc14, hf⟩ := zz_b2E hf
  refine zz_sub [1, 2, 0] rfl (l_X1_find_2 C  hc14 ?_)
  cases hf
  exact zz_vret C dX1_find_60 rfl rfl
def f_X1_isPeaceful_2 (x1 : Int32) : Nat → Int32 → zz_Mem → Option (Sum (Int32 × zz_Mem) (Int32 × zz_Mem))
  | 0, _, _ => none
  | n + 1, v2, M => (if 6 ≤ v2 then some (.inr (v2, M)) else zz_b2 (f_X4_isIn x1 v2 M) (fun r4 M3 => (if r4 = 0 then f_X1_isPeaceful_2 x1 n (v2 + 1) M3 else (if zz_in v2 6 then (if ((M3 30 v2.toNatClampNeg) &&& x1) = 0 then f_X1_isPeaceful_2 x1 n (v2 + 1) M3 else some (.inl (0, M3))) else none))))
set_option maxHeartbeats 4000000 in
set_option maxRecDepth 100000 in
theorem l_X1_isPeaceful_2 {p : Program} {l : Launch} {e : Env} {s : State} {m : MethodId} {args : Array Value} {below : List Frame} {meth : Method} {c : Code} {D : va_G} {cI : ClassId} {ad : Nat → Nat} {x1 : Int32} {w : Option Value} {Mf : zz_Mem} (C : zz_C p (zz_rm 1) s m args meth c D cI RX1 cX1_isPeaceful 3 (some .boolean) 0 0) : ∀ {n : Nat} {v2 : Int32} {M : zz_Mem} {z : Sum (Int32 × zz_Mem) (Int32 × zz_Mem)}, f_X1_isPeaceful_2 x1 n v2 M = some z → (∀ r0 M0, z = .inl (r0, M0) → w = some (.int r0) ∧ Mf = M0) → (∀ w2 M1, z = .inr (w2, M1) → zz_V p l e (zz_rm 1) s m args below meth c D zz_SC cI ad (zz_A zz_SC ad) 3 0 0 (MQ below (zz_Q D zz_SC cI ad w Mf) args s 0 0 (zz_A zz_SC ad)) 35 [(0, .ref (ad 5)), (1, .int x1), (2, .int w2)] [] M1) → zz_V p l e (zz_rm 1) s m args below meth c D zz_SC cI ad (zz_A zz_SC ad) 3 0 0 (MQ below (zz_Q D zz_SC cI ad w Mf) args s 0 0 (zz_A zz_SC ad)) 2 [(0, .ref (ad 5)), (1, .int x1), (2, .int v2)] [] M := by
  intro n
  induction n with
  | zero =>
    intro v2 M z hf
    simp [f_X1_isPeaceful_2] at hf
  | succ n ih0 =>
    intro v2 M z hf hret hex
    have ih := fun v2 M hf => @ih0 v2 M z hf
    rw [f_X1_isPeaceful_2] at hf
    refine zz_iload_n 3 C dX1_isPeaceful_2 rfl 2 rfl ?_
    refine zz_bipush 5 C dX1_isPeaceful_3 rfl zz_bp6 ?_
    refine zz_icmp_ge 8 35 C dX1_isPeaceful_5 rfl rfl hf (fun h1 hf => ?_) (fun h1 hf => ?_)
    · cases hf
      exact zz_sub [0, 1, 2] rfl (hex _ _ rfl)
    · refine zz_iload_n 9 C dX1_isPeaceful_8 rfl 1 rfl ?_
      refine zz_iload_n 10 C dX1_isPeaceful_9 rfl 2 rfl ?_
      obtain ⟨r4, M3, hc2, hf⟩ := zz_b2E hf
      refine zz_callS 13 [.int x1, .int v2] C dX1_isPeaceful_10 rfl ml_X1_35 (k_X4_isIn hc2) rfl rfl rfl (Nat.le_of_ble_eq_true rfl) (zz_hR (Nat.le_of_ble_eq_true rfl) (Nat.le_of_ble_eq_true rfl)) ?_
      refine zz_if_eq 16 29 C dX1_isPeaceful_13 rfl rfl hf (fun h5 hf => ?_) (fun h5 hf => ?_)
      · refine zz_iinc (L' := [(2, .int (v2 + 1)), (0, .ref (ad 5)), (1, .int x1)]) 32 C dX1_isPeaceful_29 rfl zz_i1 2 rfl (Nat.le_of_ble_eq_true rfl) rfl ?_
        refine zz_goto 2 C dX1_isPeaceful_32 rfl ?_
        exact zz_sub [1, 2, 0] rfl (ih _ _ hf hret hex)
      · refine zz_aload_n 17 C dX1_isPeaceful_16 rfl 0 rfl ?_
        refine zz_getR 20 C dX1_isPeaceful_17 rfl fl_X1_9 sc_5 rfl ?_
        refine zz_iload_n 21 C dX1_isPeaceful_20 rfl 2 rfl ?_
        obtain ⟨hi6, hf⟩ := zz_chk hf
        refine zz_iald 22 C sc_30 dX1_isPeaceful_21 rfl hi6 ?_
        refine zz_iload_n 23 C dX1_isPeaceful_22 rfl 1 rfl ?_
        refine zz_iand 24 C dX1_isPeaceful_23 rfl ?_
        refine zz_if_eq 27 29 C dX1_isPeaceful_24 rfl rfl hf (fun h7 hf => ?_) (fun h7 hf => ?_)
        · refine zz_iinc (L' := [(2, .int (v2 + 1)), (0, .ref (ad 5)), (1, .int x1)]) 32 C dX1_isPeaceful_29 rfl zz_i1 2 rfl (Nat.le_of_ble_eq_true rfl) rfl ?_
          refine zz_goto 2 C dX1_isPeaceful_32 rfl ?_
          exact zz_sub [1, 2, 0] rfl (ih _ _ hf hret hex)
        · refine zz_iconst 28 C dX1_isPeaceful_27 rfl zz_i0 ?_
          cases hf
          exact zz_zret C dX1_isPeaceful_28 (hret _ _ rfl).1 (hret _ _ rfl).2 (by decide)
def f_X1_isPeaceful (a1 : Int32) (M : zz_Mem) : Option (Int32 × zz_Mem) := zz_bs2 (f_X1_isPeaceful_2 a1 5000 0 M) (fun w8 M9 => some (1, M9))
set_option maxHeartbeats 4000000 in
set_option maxRecDepth 100000 in
theorem k_X1_isPeaceful {l : Launch} {D : va_G} {cI : ClassId} {ad : Nat → Nat} {a1 : Int32} {r : Int32} {M M1 : zz_Mem} (hf : f_X1_isPeaceful a1 M = some (r, M1)) : zz_K l D zz_SC cI ad 1 yX1_isPeaceful cX1_isPeaceful 3 (some .boolean) [.ref (ad 5), .int a1] M (some (.int r)) M1 := by
  unfold f_X1_isPeaceful at hf
  refine zz_entry (own := RX1) (L := [(0, .ref (ad 5)), (1, .int a1)]) (by decide +kernel) rfl (Nat.le_of_ble_eq_true rfl) rfl (fun p e s m args below meth c C => ?_)
  refine zz_iconst 1 C dX1_isPeaceful_0 rfl zz_i0 ?_
  refine zz_istore_n (L' := [(2, .int 0), (0, .ref (ad 5)), (1, .int a1)]) 2 C dX1_isPeaceful_1 rfl (Nat.le_of_ble_eq_true rfl) rfl ?_
  obtain ⟨z11, hc10, e12, e13⟩ := zz_bs2E hf
  refine zz_sub [1, 2, 0] rfl (l_X1_isPeaceful_2 C  hc10 e12 (fun w8 M9 hz => ?_))
  replace hf := e13 _ _ hz
  refine zz_iconst 36 C dX1_isPeaceful_35 rfl zz_i1 ?_
  cases hf
  exact zz_zret C dX1_isPeaceful_36 rfl rfl (by decide)
def f_X1_leastReshoots_11 (x1 x2 : Int32) : Nat → Int32 → Int32 → zz_Mem → Option (Int32 × Int32 × zz_Mem)
  | 0, _, _, _ => none
  | n + 1, v3, v4, M => (if x2 ≤ v4 then some (v3, v4, M) else zz_b2 (f_J6_bitCount_0f7a4 v4 M) (fun r4 M3 => zz_b2 (f_J6_bitCount_0f7a4 v3 M3) (fun r7 M6 => (if r7 ≤ r4 then f_X1_leastReshoots_11 x1 x2 n v3 (v4 + 1) M6 else zz_b2 (f_X1_isPeaceful (x2 &&& (v4 ^^^ (-1))) M6) (fun r11 M10 => (if r11 = 0 then f_X1_leastReshoots_11 x1 x2 n v3 (v4 + 1) M10 else f_X1_leastReshoots_11 x1 x2 n v4 (v4 + 1) M10))))))
set_option maxHeartbeats 4000000 in
set_option maxRecDepth 100000 in
theorem l_X1_leastReshoots_11 {p : Program} {l : Launch} {e : Env} {s : State} {m : MethodId} {args : Array Value} {below : List Frame} {meth : Method} {c : Code} {D : va_G} {cI : ClassId} {ad : Nat → Nat} {x1 x2 : Int32} {w : Option Value} {Mf : zz_Mem} (C : zz_C p (zz_rm 2) s m args meth c D cI RX1 cX1_leastReshoots 5 (some .int) 0 0) {w3 w4 : Int32} {M1 : zz_Mem} : ∀ {n : Nat} {v3 v4 : Int32} {M : zz_Mem}, f_X1_leastReshoots_11 x1 x2 n v3 v4 M = some (w3, w4, M1) → zz_V p l e (zz_rm 2) s m args below meth c D zz_SC cI ad (zz_A zz_SC ad) 5 0 0 (MQ below (zz_Q D zz_SC cI ad w Mf) args s 0 0 (zz_A zz_SC ad)) 51 [(0, .ref (ad 5)), (1, .int x1), (2, .int x2), (3, .int w3), (4, .int w4)] [] M1 → zz_V p l e (zz_rm 2) s m args below meth c D zz_SC cI ad (zz_A zz_SC ad) 5 0 0 (MQ below (zz_Q D zz_SC cI ad w Mf) args s 0 0 (zz_A zz_SC ad)) 11 [(0, .ref (ad 5)), (1, .int x1), (2, .int x2), (3, .int v3), (4, .int v4)] [] M := by
  intro n
  induction n with
  | zero =>
    intro v3 v4 M hf
    simp [f_X1_leastReshoots_11] at hf
  | succ n ih0 =>
    intro v3 v4 M hf hex
    have ih := fun v3 v4 M hf => @ih0 v3 v4 M hf
    rw [f_X1_leastReshoots_11] at hf
    refine zz_iload 13 C dX1_leastReshoots_11 rfl 4 rfl ?_
    refine zz_iload_n 14 C dX1_leastReshoots_13 rfl 2 rfl ?_
    refine zz_icmp_ge 17 51 C dX1_leastReshoots_14 rfl rfl hf (fun h1 hf => ?_) (fun h1 hf => ?_)
    · cases hf
      exact zz_sub [0, 1, 2, 3, 4] rfl hex
    · refine zz_iload 19 C dX1_leastReshoots_17 rfl 4 rfl ?_
      obtain ⟨r4, M3, hc2, hf⟩ := zz_b2E hf
      refine zz_callS 22 [.int v4] C dX1_leastReshoots_19 rfl ml_X1_25 (k_J6_bitCount_0f7a4 hc2) rfl rfl rfl (Nat.le_of_ble_eq_true rfl) (zz_hR (Nat.le_of_ble_eq_true rfl) (Nat.le_of_ble_eq_true rfl)) ?_
      refine zz_iload_n 23 C dX1_leastReshoots_22 rfl 3 rfl ?_
      obtain ⟨r7, M6, hc5, hf⟩ := zz_b2E hf
      refine zz_callS 26 [.int v3] C dX1_leastReshoots_23 rfl ml_X1_25 (k_J6_bitCount_0f7a4 hc5) rfl rfl rfl (Nat.le_of_ble_eq_true rfl) (zz_hR (Nat.le_of_ble_eq_true rfl) (Nat.le_of_ble_eq_true rfl)) ?_
      refine zz_icmp_ge 29 45 C dX1_leastReshoots_26 rfl rfl hf (fun h8 hf => ?_) (fun h8 hf => ?_)
      · refine zz_iinc (L' := [(4, .int (v4 + 1)), (0, .ref (ad 5)), (1, .int x1), (2, .int x2), (3, .int v3)]) 48 C dX1_leastReshoots_45 rfl zz_i1 4 rfl (Nat.le_of_ble_eq_true rfl) rfl ?_
        refine zz_goto 11 C dX1_leastReshoots_48 rfl ?_
        exact zz_sub [1, 2, 3, 4, 0] rfl (ih _ _ _ hf hex)
      · refine zz_aload_n 30 C dX1_leastReshoots_29 rfl 0 rfl ?_
        refine zz_iload_n 31 C dX1_leastReshoots_30 rfl 2 rfl ?_
        refine zz_iload 33 C dX1_leastReshoots_31 rfl 4 rfl ?_
        refine zz_iconst 34 C dX1_leastReshoots_33 rfl zz_im1 ?_
        refine zz_ixor 35 C dX1_leastReshoots_34 rfl ?_
        refine zz_iand 36 C dX1_leastReshoots_35 rfl ?_
        obtain ⟨r11, M10, hc9, hf⟩ := zz_b2E hf
        refine zz_callV 39 [.int (x2 &&& (v4 ^^^ (-1)))] C dX1_leastReshoots_36 rfl ml_X1_31 (k_X1_isPeaceful hc9) sc_5 (vC := vwCl[1]) rfl rfl rfl rfl rfl (Nat.le_of_ble_eq_true rfl) (zz_hR (Nat.le_of_ble_eq_true rfl) (Nat.le_of_ble_eq_true rfl)) ?_
        refine zz_if_eq 42 45 C dX1_leastReshoots_39 rfl rfl hf (fun h12 hf => ?_) (fun h12 hf => ?_)
        · refine zz_iinc (L' := [(4, .int (v4 + 1)), (0, .ref (ad 5)), (1, .int x1), (2, .int x2), (3, .int v3)]) 48 C dX1_leastReshoots_45 rfl zz_i1 4 rfl (Nat.le_of_ble_eq_true rfl) rfl ?_
          refine zz_goto 11 C dX1_leastReshoots_48 rfl ?_
          exact zz_sub [1, 2, 3, 4, 0] rfl (ih _ _ _ hf hex)
        · refine zz_iload 44 C dX1_leastReshoots_42 rfl 4 rfl ?_
          refine zz_istore_n (L' := [(3, .int v4), (0, .ref (ad 5)), (1, .int x1), (2, .int x2), (4, .int v4)]) 45 C dX1_leastReshoots_44 rfl (Nat.le_of_ble_eq_true rfl) rfl ?_
          refine zz_iinc (L' := [(4, .int (v4 + 1)), (3, .int v4), (0, .ref (ad 5)), (1, .int x1), (2, .int x2)]) 48 C dX1_leastReshoots_45 rfl zz_i1 4 rfl (Nat.le_of_ble_eq_true rfl) rfl ?_
          refine zz_goto 11 C dX1_leastReshoots_48 rfl ?_
          exact zz_sub [2, 3, 4, 1, 0] rfl (ih _ _ _ hf hex)
def f_X1_leastReshoots (a1 : Int32) (M : zz_Mem) : Option (Int32 × zz_Mem) := zz_b3 (f_X1_leastReshoots_11 a1 ((1 <<< (a1 &&& 31)) - 1) 5000 ((1 <<< (a1 &&& 31)) - 1) 0 M) (fun w13 w14 M15 => some (w13, M15))
set_option maxHeartbeats 4000000 in
set_option maxRecDepth 100000 in
theorem k_X1_leastReshoots {l : Launch} {D : va_G} {cI : ClassId} {ad : Nat → Nat} {a1 : Int32} {r : Int32} {M M1 : zz_Mem} (hf : f_X1_leastReshoots a1 M = some (r, M1)) : zz_K l D zz_SC cI ad 2 yX1_leastReshoots cX1_leastReshoots 5 (some .int) [.ref (ad 5), .int a1] M (some (.int r)) M1 := by
  unfold f_X1_leastReshoots at hf
  refine zz_entry (own := RX1) (L := [(0, .ref (ad 5)), (1, .int a1)]) (by decide +kernel) rfl (Nat.le_of_ble_eq_true rfl) rfl (fun p e s m args below meth c C => ?_)
  refine zz_iconst 1 C dX1_leastReshoots_0 rfl zz_i1 ?_
  refine zz_iload_n 2 C dX1_leastReshoots_1 rfl 1 rfl ?_
  refine zz_ishl 3 C dX1_leastReshoots_2 rfl ?_
  refine zz_iconst 4 C dX1_leastReshoots_3 rfl zz_i1 ?_
  refine zz_isub 5 C dX1_leastReshoots_4 rfl ?_
  refine zz_istore_n (L' := [(2, .int ((1 <<< (a1 &&& 31)) - 1)), (0, .ref (ad 5)), (1, .int a1)]) 6 C dX1_leastReshoots_5 rfl (Nat.le_of_ble_eq_true rfl) rfl ?_
  refine zz_iload_n 7 C dX1_leastReshoots_6 rfl 0 rfl ?_
  refine zz_istore_n (L' := [(3, .int ((1 <<< (a1 &&& 31)) - 1)), (2, .int ((1 <<< (a1 &&& 31)) - 1)), (0, .ref (ad 5)), (1, .int a1)]) 8 C dX1_leastReshoots_7 rfl (Nat.le_of_ble_eq_true rfl) rfl ?_
  refine zz_iconst 9 C dX1_leastReshoots_8 rfl zz_i0 ?_
  refine zz_istore (L' := [(4, .int 0), (3, .int ((1 <<< (a1 &&& 31)) - 1)), (2, .int ((1 <<< (a1 &&& 31)) - 1)), (0, .ref (ad 5)), (1, .int a1)]) 11 C dX1_leastReshoots_9 rfl (Nat.le_of_ble_eq_true rfl) rfl ?_
  obtain ⟨w13, w14, M15, hc16, hf⟩ := zz_b3E hf
  refine zz_sub [3, 4, 2, 1, 0] rfl (l_X1_leastReshoots_11 C  hc16 ?_)
  refine zz_iload_n 52 C dX1_leastReshoots_51 rfl 3 rfl ?_
  cases hf
  exact zz_iret C dX1_leastReshoots_52 rfl rfl
