def f_X3_orderOf (a1 a2 : Int32) (M : zz_Mem) : Option (Int32 × zz_Mem) := (if zz_in a1 6 then (if zz_in a2 6 then (if ((M 6 a1.toNatClampNeg) - (M 6 a2.toNatClampNeg)) = 0 then (if ((M 7 a1.toNatClampNeg) - (M 7 a2.toNatClampNeg)) = 0 then some (0, M) else (if 0 ≤ ((M 7 a1.toNatClampNeg) - (M 7 a2.toNatClampNeg)) then some (2, M) else some (1, M))) else (if ((M 6 a1.toNatClampNeg) - (M 6 a2.toNatClampNeg)) = 0 then some (0, M) else (if 0 ≤ ((M 6 a1.toNatClampNeg) - (M 6 a2.toNatClampNeg)) then some (2, M) else some (1, M)))) else none) else none)
set_option maxHeartbeats 4000000 in
set_option maxRecDepth 100000 in
theorem k_X3_orderOf {l : Launch} {D : va_G} {cI : ClassId} {ad : Nat → Nat} {a1 a2 : Int32} {r : Int32} {M M1 : zz_Mem} (hf : f_X3_orderOf a1 a2 M = some (r, M1)) : zz_K l D zz_SC cI ad 0 yX3_orderOf cX3_orderOf 5 (some .int) [.ref (ad 1), .int a1, .int a2] M (some (.int r)) M1 := by
  unfold f_X3_orderOf at hf
  refine zz_entry (own := RX3) (L := [(0, .ref (ad 1)), (1, .int a1), (2, .int a2)]) (by decide +kernel) rfl (Nat.le_of_ble_eq_true rfl) rfl (fun p e s m args below meth c C => ?_)
  refine zz_aload_n 1 C dX3_orderOf_0 rfl 0 rfl ?_
  refine zz_getR 4 C dX3_orderOf_1 rfl fl_X3_15 sc_1 rfl ?_
  refine zz_iload_n 5 C dX3_orderOf_4 rfl 1 rfl ?_
  obtain ⟨hi1, hf⟩ := zz_chk hf
  refine zz_iald 6 C sc_6 dX3_orderOf_5 rfl hi1 ?_
  refine zz_aload_n 7 C dX3_orderOf_6 rfl 0 rfl ?_
  refine zz_getR 10 C dX3_orderOf_7 rfl fl_X3_15 sc_1 rfl ?_
  refine zz_iload_n 11 C dX3_orderOf_10 rfl 2 rfl ?_
  obtain ⟨hi2, hf⟩ := zz_chk hf
  refine zz_iald 12 C sc_6 dX3_orderOf_11 rfl hi2 ?_
  refine zz_isub 13 C dX3_orderOf_12 rfl ?_
  refine zz_istore_n (L' := [(3, .int ((M 6 a1.toNatClampNeg) - (M 6 a2.toNatClampNeg))), (0, .ref (ad 1)), (1, .int a1), (2, .int a2)]) 14 C dX3_orderOf_13 rfl (Nat.le_of_ble_eq_true rfl) rfl ?_
  refine zz_iload_n 15 C dX3_orderOf_14 rfl 0 rfl ?_
  refine zz_if_eq 18 22 C dX3_orderOf_15 rfl rfl hf (fun h3 hf => ?_) (fun h3 hf => ?_)
  · refine zz_aload_n 23 C dX3_orderOf_22 rfl 1 rfl ?_
    refine zz_getR 26 C dX3_orderOf_23 rfl fl_X3_19 sc_1 rfl ?_
    refine zz_iload_n 27 C dX3_orderOf_26 rfl 2 rfl ?_
    refine zz_iald 28 C sc_7 dX3_orderOf_27 rfl hi1 ?_
    refine zz_aload_n 29 C dX3_orderOf_28 rfl 1 rfl ?_
    refine zz_getR 32 C dX3_orderOf_29 rfl fl_X3_19 sc_1 rfl ?_
    refine zz_iload_n 33 C dX3_orderOf_32 rfl 3 rfl ?_
    refine zz_iald 34 C sc_7 dX3_orderOf_33 rfl hi2 ?_
    refine zz_isub 35 C dX3_orderOf_34 rfl ?_
    refine zz_istore (L' := [(4, .int ((M 7 a1.toNatClampNeg) - (M 7 a2.toNatClampNeg))), (3, .int ((M 6 a1.toNatClampNeg) - (M 6 a2.toNatClampNeg))), (0, .ref (ad 1)), (1, .int a1), (2, .int a2)]) 37 C dX3_orderOf_35 rfl (Nat.le_of_ble_eq_true rfl) rfl ?_
    refine zz_iload 39 C dX3_orderOf_37 rfl 0 rfl ?_
    refine zz_if_ne 42 44 C dX3_orderOf_39 rfl rfl hf (fun h4 hf => ?_) (fun h4 hf => ?_)
    · refine zz_iload 46 C dX3_orderOf_44 rfl 0 rfl ?_
      refine zz_if_ge 49 53 C dX3_orderOf_46 rfl rfl hf (fun h5 hf => ?_) (fun h5 hf => ?_)
      · refine zz_iconst 54 C dX3_orderOf_53 rfl zz_i2 ?_
        cases hf
        exact zz_iret C dX3_orderOf_54 rfl rfl
      · refine zz_iconst 50 C dX3_orderOf_49 rfl zz_i1 ?_
        refine zz_goto 54 C dX3_orderOf_50 rfl ?_
        cases hf
        exact zz_iret C dX3_orderOf_54 rfl rfl
    · refine zz_iconst 43 C dX3_orderOf_42 rfl zz_i0 ?_
      cases hf
      exact zz_iret C dX3_orderOf_43 rfl rfl
  · refine zz_iload_n 19 C dX3_orderOf_18 rfl 0 rfl ?_
    refine zz_goto 35 C dX3_orderOf_19 rfl ?_
    refine zz_istore (L' := [(4, .int ((M 6 a1.toNatClampNeg) - (M 6 a2.toNatClampNeg))), (3, .int ((M 6 a1.toNatClampNeg) - (M 6 a2.toNatClampNeg))), (0, .ref (ad 1)), (1, .int a1), (2, .int a2)]) 37 C dX3_orderOf_35 rfl (Nat.le_of_ble_eq_true rfl) rfl ?_
    refine zz_iload 39 C dX3_orderOf_37 rfl 0 rfl ?_
    refine zz_if_ne 42 44 C dX3_orderOf_39 rfl rfl hf (fun h6 hf => ?_) (fun h6 hf => ?_)
    · refine zz_iload 46 C dX3_orderOf_44 rfl 0 rfl ?_
      refine zz_if_ge 49 53 C dX3_orderOf_46 rfl rfl hf (fun h7 hf => ?_) (fun h7 hf => ?_)
      · refine zz_iconst 54 C dX3_orderOf_53 rfl zz_i2 ?_
        cases hf
        exact zz_iret C dX3_orderOf_54 rfl rfl
      · refine zz_iconst 50 C dX3_orderOf_49 rfl zz_i1 ?_
        refine zz_goto 54 C dX3_orderOf_50 rfl ?_
        cases hf
        exact zz_iret C dX3_orderOf_54 rfl rfl
    · refine zz_iconst 43 C dX3_orderOf_42 rfl zz_i0 ?_
      cases hf
      exact zz_iret C dX3_orderOf_43 rfl rfl
def f_X3_healedBetween (a1 a2 a3 : Int32) (M : zz_Mem) : Option (Int32 × zz_Mem) := (if zz_in a1 6 then (if zz_in a3 6 then (if zz_in a2 6 then some ((M 10 a1.toNatClampNeg) * ((M 6 a3.toNatClampNeg) - (M 6 a2.toNatClampNeg)), M) else none) else none) else none)
set_option maxHeartbeats 4000000 in
set_option maxRecDepth 100000 in
theorem k_X3_healedBetween {l : Launch} {D : va_G} {cI : ClassId} {ad : Nat → Nat} {a1 a2 a3 : Int32} {r : Int32} {M M1 : zz_Mem} (hf : f_X3_healedBetween a1 a2 a3 M = some (r, M1)) : zz_K l D zz_SC cI ad 0 yX3_healedBetween cX3_healedBetween 4 (some .int) [.ref (ad 1), .int a1, .int a2, .int a3] M (some (.int r)) M1 := by
  unfold f_X3_healedBetween at hf
  refine zz_entry (own := RX3) (L := [(0, .ref (ad 1)), (1, .int a1), (2, .int a2), (3, .int a3)]) (by decide +kernel) rfl (Nat.le_of_ble_eq_true rfl) rfl (fun p e s m args below meth c C => ?_)
  refine zz_aload_n 1 C dX3_healedBetween_0 rfl 0 rfl ?_
  refine zz_getR 4 C dX3_healedBetween_1 rfl fl_X3_31 sc_1 rfl ?_
  refine zz_iload_n 5 C dX3_healedBetween_4 rfl 1 rfl ?_
  obtain ⟨hi1, hf⟩ := zz_chk hf
  refine zz_iald 6 C sc_10 dX3_healedBetween_5 rfl hi1 ?_
  refine zz_aload_n 7 C dX3_healedBetween_6 rfl 0 rfl ?_
  refine zz_getR 10 C dX3_healedBetween_7 rfl fl_X3_15 sc_1 rfl ?_
  refine zz_iload_n 11 C dX3_healedBetween_10 rfl 3 rfl ?_
  obtain ⟨hi2, hf⟩ := zz_chk hf
  refine zz_iald 12 C sc_6 dX3_healedBetween_11 rfl hi2 ?_
  refine zz_aload_n 13 C dX3_healedBetween_12 rfl 0 rfl ?_
  refine zz_getR 16 C dX3_healedBetween_13 rfl fl_X3_15 sc_1 rfl ?_
  refine zz_iload_n 17 C dX3_healedBetween_16 rfl 2 rfl ?_
  obtain ⟨hi3, hf⟩ := zz_chk hf
  refine zz_iald 18 C sc_6 dX3_healedBetween_17 rfl hi3 ?_
  refine zz_isub 19 C dX3_healedBetween_18 rfl ?_
  refine zz_imul 20 C dX3_healedBetween_19 rfl ?_
  cases hf
  exact zz_iret C dX3_healedBetween_20 rfl rfl
def f_X3_breaksLaw (a1 a2 a3 a4 : Int32) (M : zz_Mem) : Option (Int32 × zz_Mem) := (if zz_in a1 6 then (if (M 9 a1.toNatClampNeg) = 1 then (if a3 ≤ a2 then some (0, M) else some (1, M)) else (if (M 9 a1.toNatClampNeg) = 2 then (if a2 ≤ a3 then some (0, M) else some (1, M)) else (if (M 9 a1.toNatClampNeg) = 3 then (if a3 = (if 0 < (a2 - a4) then a2 - a4 else 0) then some (0, M) else some (1, M)) else some (0, M)))) else none)
set_option maxHeartbeats 4000000 in
set_option maxRecDepth 100000 in
theorem k_X3_breaksLaw {l : Launch} {D : va_G} {cI : ClassId} {ad : Nat → Nat} {a1 a2 a3 a4 : Int32} {r : Int32} {M M1 : zz_Mem} (hf : f_X3_breaksLaw a1 a2 a3 a4 M = some (r, M1)) : zz_K l D zz_SC cI ad 1 yX3_breaksLaw cX3_breaksLaw 5 (some .boolean) [.ref (ad 1), .int a1, .int a2, .int a3, .int a4] M (some (.int r)) M1 := by
  unfold f_X3_breaksLaw at hf
  refine zz_entry (own := RX3) (L := [(0, .ref (ad 1)), (1, .int a1), (2, .int a2), (3, .int a3), (4, .int a4)]) (by decide +kernel) rfl (Nat.le_of_ble_eq_true rfl) rfl (fun p e s m args below meth c C => ?_)
  refine zz_aload_n 1 C dX3_breaksLaw_0 rfl 0 rfl ?_
  refine zz_getR 4 C dX3_breaksLaw_1 rfl fl_X3_28 sc_1 rfl ?_
  refine zz_iload_n 5 C dX3_breaksLaw_4 rfl 1 rfl ?_
  obtain ⟨hi1, hf⟩ := zz_chk hf
  refine zz_iald 6 C sc_9 dX3_breaksLaw_5 rfl hi1 ?_
  by_cases h2 : (M 9 a1.toNatClampNeg) = 1
  · rw [if_pos h2] at hf
    refine zz_tabIn 32 C dX3_breaksLaw_6 h2 (by decide) (by decide) rfl rfl ?_
    refine zz_iload_n 33 C dX3_breaksLaw_32 rfl 3 rfl ?_
    refine zz_iload_n 34 C dX3_breaksLaw_33 rfl 2 rfl ?_
    refine zz_icmp_le 37 41 C dX3_breaksLaw_34 rfl rfl hf (fun h3 hf => ?_) (fun h3 hf => ?_)
    · refine zz_iconst 42 C dX3_breaksLaw_41 rfl zz_i0 ?_
      cases hf
      exact zz_zret C dX3_breaksLaw_42 rfl rfl (by decide)
    · refine zz_iconst 38 C dX3_breaksLaw_37 rfl zz_i1 ?_
      refine zz_goto 42 C dX3_breaksLaw_38 rfl ?_
      cases hf
      exact zz_zret C dX3_breaksLaw_42 rfl rfl (by decide)
  · rw [if_neg h2] at hf
    by_cases h4 : (M 9 a1.toNatClampNeg) = 2
    · rw [if_pos h4] at hf
      refine zz_tabIn 43 C dX3_breaksLaw_6 h4 (by decide) (by decide) rfl rfl ?_
      refine zz_iload_n 44 C dX3_breaksLaw_43 rfl 3 rfl ?_
      refine zz_iload_n 45 C dX3_breaksLaw_44 rfl 2 rfl ?_
      refine zz_icmp_ge 48 52 C dX3_breaksLaw_45 rfl rfl hf (fun h5 hf => ?_) (fun h5 hf => ?_)
      · refine zz_iconst 53 C dX3_breaksLaw_52 rfl zz_i0 ?_
        cases hf
        exact zz_zret C dX3_breaksLaw_53 rfl rfl (by decide)
      · refine zz_iconst 49 C dX3_breaksLaw_48 rfl zz_i1 ?_
        refine zz_goto 53 C dX3_breaksLaw_49 rfl ?_
        cases hf
        exact zz_zret C dX3_breaksLaw_53 rfl rfl (by decide)
    · rw [if_neg h4] at hf
      by_cases h6 : (M 9 a1.toNatClampNeg) = 3
      · rw [if_pos h6] at hf
        refine zz_tabIn 54 C dX3_breaksLaw_6 h6 (by decide) (by decide) rfl rfl ?_
        refine zz_iload_n 55 C dX3_breaksLaw_54 rfl 3 rfl ?_
        refine zz_iconst 56 C dX3_breaksLaw_55 rfl zz_i0 ?_
        refine zz_iload_n 57 C dX3_breaksLaw_56 rfl 2 rfl ?_
        refine zz_iload 59 C dX3_breaksLaw_57 rfl 4 rfl ?_
        refine zz_isub 60 C dX3_breaksLaw_59 rfl ?_
        refine zz_max 63 C dX3_breaksLaw_60 rfl mx_X3_80 ⟨Nat.le_of_ble_eq_true rfl, Nat.le_of_ble_eq_true rfl⟩ ?_
        refine zz_icmp_eq 66 70 C dX3_breaksLaw_63 rfl rfl hf (fun h7 hf => ?_) (fun h7 hf => ?_)
        · refine zz_iconst 71 C dX3_breaksLaw_70 rfl zz_i0 ?_
          cases hf
          exact zz_zret C dX3_breaksLaw_71 rfl rfl (by decide)
        · refine zz_iconst 67 C dX3_breaksLaw_66 rfl zz_i1 ?_
          refine zz_goto 71 C dX3_breaksLaw_67 rfl ?_
          cases hf
          exact zz_zret C dX3_breaksLaw_71 rfl rfl (by decide)
      · rw [if_neg h6] at hf
        have eh2 := lv_neT h2 (show (1 : Int32).toInt = 1 from by decide)
        have eh4 := lv_neT h4 (show (2 : Int32).toInt = 2 from by decide)
        have eh6 := lv_neT h6 (show (3 : Int32).toInt = 3 from by decide)
        refine zz_tabOut 72 C dX3_breaksLaw_6 (by omega) rfl ?_
        refine zz_iconst 73 C dX3_breaksLaw_72 rfl zz_i0 ?_
        cases hf
        exact zz_zret C dX3_breaksLaw_73 rfl rfl (by decide)
def f_X3_doClash (a1 a2 a3 : Int32) (M : zz_Mem) : Option (Int32 × zz_Mem) := (if zz_in a1 16 then (if zz_in a2 16 then zz_b2 (f_X3_measureOf a1 a3 M) (fun r5 M4 => zz_b2 (f_X3_measureOf a2 a3 M4) (fun r8 M7 => (if (M 12 a1.toNatClampNeg) = (M 12 a2.toNatClampNeg) then some (0, M7) else (if r5 = (-1) then some (0, M7) else (if r8 = (-1) then some (0, M7) else (if zz_in a3 6 then (if (M7 9 a3.toNatClampNeg) = 0 then (if zz_in (M 12 a1.toNatClampNeg) 6 then (if zz_in (M 12 a2.toNatClampNeg) 6 then (if (M7 6 ((M 12 a1.toNatClampNeg).toNatClampNeg)) = (M7 6 ((M 12 a2.toNatClampNeg).toNatClampNeg)) then (if r5 = r8 then some (0, M7) else some (1, M7)) else some (0, M7)) else none) else none) else zz_b2 (f_X3_orderOf (M 12 a1.toNatClampNeg) (M 12 a2.toNatClampNeg) M7) (fun r16 M15 => (if r16 = 1 then zz_b2 (f_X3_healedBetween a3 (M 12 a1.toNatClampNeg) (M 12 a2.toNatClampNeg) M15) (fun r20 M19 => zz_b2 (f_X3_breaksLaw a3 r5 r8 r20 M19) (fun r23 M22 => (if r23 &&& 1 = r23 then some (r23, M22) else none))) else (if r16 = 2 then zz_b2 (f_X3_healedBetween a3 (M 12 a2.toNatClampNeg) (M 12 a1.toNatClampNeg) M15) (fun r28 M27 => zz_b2 (f_X3_breaksLaw a3 r8 r5 r28 M27) (fun r31 M30 => (if r31 &&& 1 = r31 then some (r31, M30) else none))) else some (0, M15))))) else none)))))) else none) else none)
set_option maxHeartbeats 4000000 in
set_option maxRecDepth 100000 in
theorem k_X3_doClash {l : Launch} {D : va_G} {cI : ClassId} {ad : Nat → Nat} {a1 a2 a3 : Int32} {r : Int32} {M M1 : zz_Mem} (hf : f_X3_doClash a1 a2 a3 M = some (r, M1)) : zz_K l D zz_SC cI ad 2 yX3_doClash cX3_doClash 8 (some .boolean) [.ref (ad 1), .int a1, .int a2, .int a3] M (some (.int r)) M1 := by
  unfold f_X3_doClash at hf
  refine zz_entry (own := RX3) (L := [(0, .ref (ad 1)), (1, .int a1), (2, .int a2), (3, .int a3)]) (by decide +kernel) rfl (Nat.le_of_ble_eq_true rfl) rfl (fun p e s m args below meth c C => ?_)
  refine zz_aload_n 1 C dX3_doClash_0 rfl 0 rfl ?_
  refine zz_getR 4 C dX3_doClash_1 rfl fl_X3_40 sc_1 rfl ?_
  refine zz_iload_n 5 C dX3_doClash_4 rfl 1 rfl ?_
  obtain ⟨hi1, hf⟩ := zz_chk hf
  refine zz_iald 6 C sc_12 dX3_doClash_5 rfl hi1 ?_
  refine zz_istore (L' := [(4, .int (M 12 a1.toNatClampNeg)), (0, .ref (ad 1)), (1, .int a1), (2, .int a2), (3, .int a3)]) 8 C dX3_doClash_6 rfl (Nat.le_of_ble_eq_true rfl) rfl ?_
  refine zz_aload_n 9 C dX3_doClash_8 rfl 1 rfl ?_
  refine zz_getR 12 C dX3_doClash_9 rfl fl_X3_40 sc_1 rfl ?_
  refine zz_iload_n 13 C dX3_doClash_12 rfl 3 rfl ?_
  obtain ⟨hi2, hf⟩ := zz_chk hf
  refine zz_iald 14 C sc_12 dX3_doClash_13 rfl hi2 ?_
  refine zz_istore (L' := [(5, .int (M 12 a2.toNatClampNeg)), (4, .int (M 12 a1.toNatClampNeg)), (0, .ref (ad 1)), (1, .int a1), (2, .int a2), (3, .int a3)]) 16 C dX3_doClash_14 rfl (Nat.le_of_ble_eq_true rfl) rfl ?_
  refine zz_aload_n 17 C dX3_doClash_16 rfl 2 rfl ?_
  refine zz_iload_n 18 C dX3_doClash_17 rfl 3 rfl ?_
  refine zz_iload_n 19 C dX3_doClash_18 rfl 5 rfl ?_
  obtain ⟨r5, M4, hc3, hf⟩ := zz_b2E hf
  refine zz_callV 22 [.int a1, .int a3] C dX3_doClash_19 rfl ml_X3_61 (k_X3_measureOf hc3) sc_1 (vC := vwCl[3]) rfl rfl rfl rfl rfl (Nat.le_of_ble_eq_true rfl) (zz_hR (Nat.le_of_ble_eq_true rfl) (Nat.le_of_ble_eq_true rfl)) ?_
  refine zz_istore (L' := [(6, .int r5), (5, .int (M 12 a2.toNatClampNeg)), (4, .int (M 12 a1.toNatClampNeg)), (0, .ref (ad 1)), (1, .int a1), (2, .int a2), (3, .int a3)]) 24 C dX3_doClash_22 rfl (Nat.le_of_ble_eq_true rfl) rfl ?_
  refine zz_aload_n 25 C dX3_doClash_24 rfl 3 rfl ?_
  refine zz_iload_n 26 C dX3_doClash_25 rfl 5 rfl ?_
  refine zz_iload_n 27 C dX3_doClash_26 rfl 6 rfl ?_
  obtain ⟨r8, M7, hc6, hf⟩ := zz_b2E hf
  refine zz_callV 30 [.int a2, .int a3] C dX3_doClash_27 rfl ml_X3_61 (k_X3_measureOf hc6) sc_1 (vC := vwCl[3]) rfl rfl rfl rfl rfl (Nat.le_of_ble_eq_true rfl) (zz_hR (Nat.le_of_ble_eq_true rfl) (Nat.le_of_ble_eq_true rfl)) ?_
  refine zz_istore (L' := [(7, .int r8), (6, .int r5), (5, .int (M 12 a2.toNatClampNeg)), (4, .int (M 12 a1.toNatClampNeg)), (0, .ref (ad 1)), (1, .int a1), (2, .int a2), (3, .int a3)]) 32 C dX3_doClash_30 rfl (Nat.le_of_ble_eq_true rfl) rfl ?_
  refine zz_iload 34 C dX3_doClash_32 rfl 3 rfl ?_
  refine zz_iload 36 C dX3_doClash_34 rfl 2 rfl ?_
  refine zz_icmp_eq 39 51 C dX3_doClash_36 rfl rfl hf (fun h9 hf => ?_) (fun h9 hf => ?_)
  · refine zz_iconst 52 C dX3_doClash_51 rfl zz_i0 ?_
    cases hf
    exact zz_zret C dX3_doClash_52 rfl rfl (by decide)
  · refine zz_iload 41 C dX3_doClash_39 rfl 1 rfl ?_
    refine zz_iconst 42 C dX3_doClash_41 rfl zz_im1 ?_
    refine zz_icmp_eq 45 51 C dX3_doClash_42 rfl rfl hf (fun h10 hf => ?_) (fun h10 hf => ?_)
    · refine zz_iconst 52 C dX3_doClash_51 rfl zz_i0 ?_
      cases hf
      exact zz_zret C dX3_doClash_52 rfl rfl (by decide)
    · refine zz_iload 47 C dX3_doClash_45 rfl 0 rfl ?_
      refine zz_iconst 48 C dX3_doClash_47 rfl zz_im1 ?_
      refine zz_icmp_ne 51 53 C dX3_doClash_48 rfl rfl hf (fun h11 hf => ?_) (fun h11 hf => ?_)
      · refine zz_aload_n 54 C dX3_doClash_53 rfl 4 rfl ?_
        refine zz_getR 57 C dX3_doClash_54 rfl fl_X3_28 sc_1 rfl ?_
        refine zz_iload_n 58 C dX3_doClash_57 rfl 7 rfl ?_
        obtain ⟨hi12, hf⟩ := zz_chk hf
        refine zz_iald 59 C sc_9 dX3_doClash_58 rfl hi12 ?_
        refine zz_if_ne 62 92 C dX3_doClash_59 rfl rfl hf (fun h13 hf => ?_) (fun h13 hf => ?_)
        · refine zz_aload_n 93 C dX3_doClash_92 rfl 4 rfl ?_
          refine zz_iload 95 C dX3_doClash_93 rfl 3 rfl ?_
          refine zz_iload 97 C dX3_doClash_95 rfl 2 rfl ?_
          obtain ⟨r16, M15, hc14, hf⟩ := zz_b2E hf
          refine zz_callV 100 [.int (M 12 a1.toNatClampNeg), .int (M 12 a2.toNatClampNeg)] C dX3_doClash_97 rfl ml_X3_69 (k_X3_orderOf hc14) sc_1 (vC := vwCl[3]) rfl rfl rfl rfl rfl (Nat.le_of_ble_eq_true rfl) (zz_hR (Nat.le_of_ble_eq_true rfl) (Nat.le_of_ble_eq_true rfl)) ?_
          by_cases h17 : r16 = 1
          · rw [if_pos h17] at hf
            refine zz_lookup 128 C dX3_doClash_100 (by decide) (by rw [h17]) rfl ?_
            refine zz_aload_n 129 C dX3_doClash_128 rfl 4 rfl ?_
            refine zz_iload_n 130 C dX3_doClash_129 rfl 7 rfl ?_
            refine zz_iload 132 C dX3_doClash_130 rfl 1 rfl ?_
            refine zz_iload 134 C dX3_doClash_132 rfl 0 rfl ?_
            refine zz_aload_n 135 C dX3_doClash_134 rfl 4 rfl ?_
            refine zz_iload_n 136 C dX3_doClash_135 rfl 7 rfl ?_
            refine zz_iload 138 C dX3_doClash_136 rfl 3 rfl ?_
            refine zz_iload 140 C dX3_doClash_138 rfl 2 rfl ?_
            obtain ⟨r20, M19, hc18, hf⟩ := zz_b2E hf
            refine zz_callV 143 [.int a3, .int (M 12 a1.toNatClampNeg), .int (M 12 a2.toNatClampNeg)] C dX3_doClash_140 rfl ml_X3_72 (k_X3_healedBetween hc18) sc_1 (vC := vwCl[3]) rfl rfl rfl rfl rfl (Nat.le_of_ble_eq_true rfl) (zz_hR (Nat.le_of_ble_eq_true rfl) (Nat.le_of_ble_eq_true rfl)) ?_
            obtain ⟨r23, M22, hc21, hf⟩ := zz_b2E hf
            refine zz_callV 146 [.int a3, .int r5, .int r8, .int r20] C dX3_doClash_143 rfl ml_X3_76 (k_X3_breaksLaw hc21) sc_1 (vC := vwCl[3]) rfl rfl rfl rfl rfl (Nat.le_of_ble_eq_true rfl) (zz_hR (Nat.le_of_ble_eq_true rfl) (Nat.le_of_ble_eq_true rfl)) ?_
            obtain ⟨hz24, hf⟩ := zz_chk hf
            cases hf
            exact zz_zret C dX3_doClash_146 rfl rfl hz24
          · rw [if_neg h17] at hf
            by_cases h25 : r16 = 2
            · rw [if_pos h25] at hf
              refine zz_lookup 147 C dX3_doClash_100 (by decide) (by rw [h25]) rfl ?_
              refine zz_aload_n 148 C dX3_doClash_147 rfl 4 rfl ?_
              refine zz_iload_n 149 C dX3_doClash_148 rfl 7 rfl ?_
              refine zz_iload 151 C dX3_doClash_149 rfl 0 rfl ?_
              refine zz_iload 153 C dX3_doClash_151 rfl 1 rfl ?_
              refine zz_aload_n 154 C dX3_doClash_153 rfl 4 rfl ?_
              refine zz_iload_n 155 C dX3_doClash_154 rfl 7 rfl ?_
              refine zz_iload 157 C dX3_doClash_155 rfl 2 rfl ?_
              refine zz_iload 159 C dX3_doClash_157 rfl 3 rfl ?_
              obtain ⟨r28, M27, hc26, hf⟩ := zz_b2E hf
              refine zz_callV 162 [.int a3, .int (M 12 a2.toNatClampNeg), .int (M 12 a1.toNatClampNeg)] C dX3_doClash_159 rfl ml_X3_72 (k_X3_healedBetween hc26) sc_1 (vC := vwCl[3]) rfl rfl rfl rfl rfl (Nat.le_of_ble_eq_true rfl) (zz_hR (Nat.le_of_ble_eq_true rfl) (Nat.le_of_ble_eq_true rfl)) ?_
              obtain ⟨r31, M30, hc29, hf⟩ := zz_b2E hf
              refine zz_callV 165 [.int a3, .int r8, .int r5, .int r28] C dX3_doClash_162 rfl ml_X3_76 (k_X3_breaksLaw hc29) sc_1 (vC := vwCl[3]) rfl rfl rfl rfl rfl (Nat.le_of_ble_eq_true rfl) (zz_hR (Nat.le_of_ble_eq_true rfl) (Nat.le_of_ble_eq_true rfl)) ?_
              obtain ⟨hz32, hf⟩ := zz_chk hf
              cases hf
              exact zz_zret C dX3_doClash_165 rfl rfl hz32
            · rw [if_neg h25] at hf
              refine zz_lookup 166 C dX3_doClash_100 (by decide) ((lv_osw h17 (by decide)).trans ((lv_osw h25 (by decide)).trans rfl)) rfl ?_
              refine zz_iconst 167 C dX3_doClash_166 rfl zz_i0 ?_
              cases hf
              exact zz_zret C dX3_doClash_167 rfl rfl (by decide)
        · refine zz_aload_n 63 C dX3_doClash_62 rfl 4 rfl ?_
          refine zz_getR 66 C dX3_doClash_63 rfl fl_X3_15 sc_1 rfl ?_
          refine zz_iload 68 C dX3_doClash_66 rfl 3 rfl ?_
          obtain ⟨hi33, hf⟩ := zz_chk hf
          refine zz_iald 69 C sc_6 dX3_doClash_68 rfl hi33 ?_
          refine zz_aload_n 70 C dX3_doClash_69 rfl 4 rfl ?_
          refine zz_getR 73 C dX3_doClash_70 rfl fl_X3_15 sc_1 rfl ?_
          refine zz_iload 75 C dX3_doClash_73 rfl 2 rfl ?_
          obtain ⟨hi34, hf⟩ := zz_chk hf
          refine zz_iald 76 C sc_6 dX3_doClash_75 rfl hi34 ?_
          refine zz_icmp_ne 79 90 C dX3_doClash_76 rfl rfl hf (fun h35 hf => ?_) (fun h35 hf => ?_)
          · refine zz_iconst 91 C dX3_doClash_90 rfl zz_i0 ?_
            cases hf
            exact zz_zret C dX3_doClash_91 rfl rfl (by decide)
          · refine zz_iload 81 C dX3_doClash_79 rfl 1 rfl ?_
            refine zz_iload 83 C dX3_doClash_81 rfl 0 rfl ?_
            refine zz_icmp_eq 86 90 C dX3_doClash_83 rfl rfl hf (fun h36 hf => ?_) (fun h36 hf => ?_)
            · refine zz_iconst 91 C dX3_doClash_90 rfl zz_i0 ?_
              cases hf
              exact zz_zret C dX3_doClash_91 rfl rfl (by decide)
            · refine zz_iconst 87 C dX3_doClash_86 rfl zz_i1 ?_
              refine zz_goto 91 C dX3_doClash_87 rfl ?_
              cases hf
              exact zz_zret C dX3_doClash_91 rfl rfl (by decide)
      · refine zz_iconst 52 C dX3_doClash_51 rfl zz_i0 ?_
        cases hf
        exact zz_zret C dX3_doClash_52 rfl rfl (by decide)
def f_X3_noiseOf_5 (x1 x2 : Int32) : Nat → Int32 → Int32 → zz_Mem → Option (Int32 × Int32 × zz_Mem)
  | 0, _, _, _ => none
  | n + 1, v3, v4, M => (if (M 1 4) ≤ v4 then some (v3, v4, M) else zz_b2 (f_X3_doClash x1 x2 v4 M) (fun r4 M3 => (if r4 = 0 then f_X3_noiseOf_5 x1 x2 n v3 (v4 + 1) M3 else (if zz_in v4 6 then f_X3_noiseOf_5 x1 x2 n (v3 + (M3 11 v4.toNatClampNeg)) (v4 + 1) M3 else none))))
set_option maxHeartbeats 4000000 in
set_option maxRecDepth 100000 in
theorem l_X3_noiseOf_5 {p : Program} {l : Launch} {e : Env} {s : State} {m : MethodId} {args : Array Value} {below : List Frame} {meth : Method} {c : Code} {D : va_G} {cI : ClassId} {ad : Nat → Nat} {x1 x2 : Int32} {w : Option Value} {Mf : zz_Mem} (C : zz_C p (zz_rm 3) s m args meth c D cI RX3 cX3_noiseOf 5 (some .int) 0 0) {w3 w4 : Int32} {M1 : zz_Mem} : ∀ {n : Nat} {v3 v4 : Int32} {M : zz_Mem}, f_X3_noiseOf_5 x1 x2 n v3 v4 M = some (w3, w4, M1) → zz_V p l e (zz_rm 3) s m args below meth c D zz_SC cI ad (zz_A zz_SC ad) 5 0 0 (MQ below (zz_Q D zz_SC cI ad w Mf) args s 0 0 (zz_A zz_SC ad)) 41 [(0, .ref (ad 1)), (1, .int x1), (2, .int x2), (3, .int w3), (4, .int w4)] [] M1 → zz_V p l e (zz_rm 3) s m args below meth c D zz_SC cI ad (zz_A zz_SC ad) 5 0 0 (MQ below (zz_Q D zz_SC cI ad w Mf) args s 0 0 (zz_A zz_SC ad)) 5 [(0, .ref (ad 1)), (1, .int x1), (2, .int x2), (3, .int v3), (4, .int v4)] [] M := by
  intro n
  induction n with
  | zero =>
    intro v3 v4 M hf
    simp [f_X3_noiseOf_5] at hf
  | succ n ih0 =>
    intro v3 v4 M hf hex
    have ih := fun v3 v4 M hf => @ih0 v3 v4 M hf
    rw [f_X3_noiseOf_5] at hf
    refine zz_iload 7 C dX3_noiseOf_5 rfl 4 rfl ?_
    refine zz_aload_n 8 C dX3_noiseOf_7 rfl 0 rfl ?_
    refine zz_getI 11 C dX3_noiseOf_8 rfl fl_X3_25 sc_1 rfl ?_
    refine zz_icmp_ge 14 41 C dX3_noiseOf_11 rfl rfl hf (fun h1 hf => ?_) (fun h1 hf => ?_)
    · cases hf
      exact zz_sub [0, 1, 2, 3, 4] rfl hex
    · refine zz_aload_n 15 C dX3_noiseOf_14 rfl 0 rfl ?_
      refine zz_iload_n 16 C dX3_noiseOf_15 rfl 1 rfl ?_
      refine zz_iload_n 17 C dX3_noiseOf_16 rfl 2 rfl ?_
      refine zz_iload 19 C dX3_noiseOf_17 rfl 4 rfl ?_
      obtain ⟨r4, M3, hc2, hf⟩ := zz_b2E hf
      refine zz_callV 22 [.int x1, .int x2, .int v4] C dX3_noiseOf_19 rfl ml_X3_85 (k_X3_doClash hc2) sc_1 (vC := vwCl[3]) rfl rfl rfl rfl rfl (Nat.le_of_ble_eq_true rfl) (zz_hR (Nat.le_of_ble_eq_true rfl) (Nat.le_of_ble_eq_true rfl)) ?_
      refine zz_if_eq 25 35 C dX3_noiseOf_22 rfl rfl hf (fun h5 hf => ?_) (fun h5 hf => ?_)
      · refine zz_iinc (L' := [(4, .int (v4 + 1)), (0, .ref (ad 1)), (1, .int x1), (2, .int x2), (3, .int v3)]) 38 C dX3_noiseOf_35 rfl zz_i1 4 rfl (Nat.le_of_ble_eq_true rfl) rfl ?_
        refine zz_goto 5 C dX3_noiseOf_38 rfl ?_
        exact zz_sub [1, 2, 3, 4, 0] rfl (ih _ _ _ hf hex)
      · refine zz_iload_n 26 C dX3_noiseOf_25 rfl 3 rfl ?_
        refine zz_aload_n 27 C dX3_noiseOf_26 rfl 0 rfl ?_
        refine zz_getR 30 C dX3_noiseOf_27 rfl fl_X3_34 sc_1 rfl ?_
        refine zz_iload 32 C dX3_noiseOf_30 rfl 4 rfl ?_
        obtain ⟨hi6, hf⟩ := zz_chk hf
        refine zz_iald 33 C sc_11 dX3_noiseOf_32 rfl hi6 ?_
        refine zz_iadd 34 C dX3_noiseOf_33 rfl ?_
        refine zz_istore_n (L' := [(3, .int (v3 + (M3 11 v4.toNatClampNeg))), (0, .ref (ad 1)), (1, .int x1), (2, .int x2), (4, .int v4)]) 35 C dX3_noiseOf_34 rfl (Nat.le_of_ble_eq_true rfl) rfl ?_
        refine zz_iinc (L' := [(4, .int (v4 + 1)), (3, .int (v3 + (M3 11 v4.toNatClampNeg))), (0, .ref (ad 1)), (1, .int x1), (2, .int x2)]) 38 C dX3_noiseOf_35 rfl zz_i1 4 rfl (Nat.le_of_ble_eq_true rfl) rfl ?_
        refine zz_goto 5 C dX3_noiseOf_38 rfl ?_
        exact zz_sub [2, 3, 4, 1, 0] rfl (ih _ _ _ hf hex)
def f_X3_noiseOf (a1 a2 : Int32) (M : zz_Mem) : Option (Int32 × zz_Mem) := zz_b3 (f_X3_noiseOf_5 a1 a2 5000 0 0 M) (fun w7 w8 M9 => some (w7, M9))
set_option maxHeartbeats 4000000 in
set_option maxRecDepth 100000 in
theorem k_X3_noiseOf {l : Launch} {D : va_G} {cI : ClassId} {ad : Nat → Nat} {a1 a2 : Int32} {r : Int32} {M M1 : zz_Mem} (hf : f_X3_noiseOf a1 a2 M = some (r, M1)) : zz_K l D zz_SC cI ad 3 yX3_noiseOf cX3_noiseOf 5 (some .int) [.ref (ad 1), .int a1, .int a2] M (some (.int r)) M1 := by
  unfold f_X3_noiseOf at hf
  refine zz_entry (own := RX3) (L := [(0, .ref (ad 1)), (1, .int a1), (2, .int a2)]) (by decide +kernel) rfl (Nat.le_of_ble_eq_true rfl) rfl (fun p e s m args below meth c C => ?_)
  refine zz_iconst 1 C dX3_noiseOf_0 rfl zz_i0 ?_
  refine zz_istore_n (L' := [(3, .int 0), (0, .ref (ad 1)), (1, .int a1), (2, .int a2)]) 2 C dX3_noiseOf_1 rfl (Nat.le_of_ble_eq_true rfl) rfl ?_
  refine zz_iconst 3 C dX3_noiseOf_2 rfl zz_i0 ?_
  refine zz_istore (L' := [(4, .int 0), (3, .int 0), (0, .ref (ad 1)), (1, .int a1), (2, .int a2)]) 5 C dX3_noiseOf_3 rfl (Nat.le_of_ble_eq_true rfl) rfl ?_
  obtain ⟨w7, w8, M9, hc10, hf⟩ := zz_b3E hf
  refine zz_sub [2, 3, 4, 1, 0] rfl (l_X3_noiseOf_5 C  hc10 ?_)
  refine zz_iload_n 42 C dX3_noiseOf_41 rfl 3 rfl ?_
  cases hf
  exact zz_iret C dX3_noiseOf_42 rfl rfl
def f_X3_countNoisyPairs_14 (x2 : Int32) : Nat → Int32 → Int32 → zz_Mem → Option (Int32 × Int32 × zz_Mem)
  | 0, _, _, _ => none
  | n + 1, v1, v3, M => (if x2 ≤ v3 then some (v1, v3, M) else zz_b2 (f_X3_noiseOf x2 v3 M) (fun r5 M4 => (if r5 ≤ 0 then f_X3_countNoisyPairs_14 x2 n v1 (v3 + 1) M4 else f_X3_countNoisyPairs_14 x2 n (v1 + 1) (v3 + 1) M4)))
set_option maxHeartbeats 4000000 in
set_option maxRecDepth 100000 in
theorem l_X3_countNoisyPairs_14 {p : Program} {l : Launch} {e : Env} {s : State} {m : MethodId} {args : Array Value} {below : List Frame} {meth : Method} {c : Code} {D : va_G} {cI : ClassId} {ad : Nat → Nat} {x2 : Int32} {w : Option Value} {Mf : zz_Mem} (C : zz_C p (zz_rm 4) s m args meth c D cI RX3 cX3_countNoisyPairs 4 (some .int) 0 0) {w1 w3 : Int32} {M1 : zz_Mem} : ∀ {n : Nat} {v1 v3 : Int32} {M : zz_Mem}, f_X3_countNoisyPairs_14 x2 n v1 v3 M = some (w1, w3, M1) → zz_V p l e (zz_rm 4) s m args below meth c D zz_SC cI ad (zz_A zz_SC ad) 4 0 0 (MQ below (zz_Q D zz_SC cI ad w Mf) args s 0 0 (zz_A zz_SC ad)) 37 [(0, .ref (ad 1)), (1, .int w1), (2, .int x2), (3, .int w3)] [] M1 → zz_V p l e (zz_rm 4) s m args below meth c D zz_SC cI ad (zz_A zz_SC ad) 4 0 0 (MQ below (zz_Q D zz_SC cI ad w Mf) args s 0 0 (zz_A zz_SC ad)) 14 [(0, .ref (ad 1)), (1, .int v1), (2, .int x2), (3, .int v3)] [] M := by
  intro n
  induction n with
  | zero =>
    intro v1 v3 M hf
    simp [f_X3_countNoisyPairs_14] at hf
  | succ n ih0 =>
    intro v1 v3 M hf hex
    have ih := fun v1 v3 M hf => @ih0 v1 v3 M hf
    rw [f_X3_countNoisyPairs_14] at hf
    refine zz_iload_n 15 C dX3_countNoisyPairs_14 rfl 3 rfl ?_
    refine zz_iload_n 16 C dX3_countNoisyPairs_15 rfl 2 rfl ?_
    refine zz_icmp_ge 19 37 C dX3_countNoisyPairs_16 rfl rfl hf (fun h2 hf => ?_) (fun h2 hf => ?_)
    · cases hf
      exact zz_sub [0, 1, 2, 3] rfl hex
    · refine zz_aload_n 20 C dX3_countNoisyPairs_19 rfl 0 rfl ?_
      refine zz_iload_n 21 C dX3_countNoisyPairs_20 rfl 2 rfl ?_
      refine zz_iload_n 22 C dX3_countNoisyPairs_21 rfl 3 rfl ?_
      obtain ⟨r5, M4, hc3, hf⟩ := zz_b2E hf
      refine zz_callV 25 [.int x2, .int v3] C dX3_countNoisyPairs_22 rfl ml_X3_89 (k_X3_noiseOf hc3) sc_1 (vC := vwCl[3]) rfl rfl rfl rfl rfl (Nat.le_of_ble_eq_true rfl) (zz_hR (Nat.le_of_ble_eq_true rfl) (Nat.le_of_ble_eq_true rfl)) ?_
      refine zz_if_le 28 31 C dX3_countNoisyPairs_25 rfl rfl hf (fun h6 hf => ?_) (fun h6 hf => ?_)
      · refine zz_iinc (L' := [(3, .int (v3 + 1)), (0, .ref (ad 1)), (1, .int v1), (2, .int x2)]) 34 C dX3_countNoisyPairs_31 rfl zz_i1 3 rfl (Nat.le_of_ble_eq_true rfl) rfl ?_
        refine zz_goto 14 C dX3_countNoisyPairs_34 rfl ?_
        exact zz_sub [1, 2, 3, 0] rfl (ih _ _ _ hf hex)
      · refine zz_iinc (L' := [(1, .int (v1 + 1)), (0, .ref (ad 1)), (2, .int x2), (3, .int v3)]) 31 C dX3_countNoisyPairs_28 rfl zz_i1 1 rfl (Nat.le_of_ble_eq_true rfl) rfl ?_
        refine zz_iinc (L' := [(3, .int (v3 + 1)), (1, .int (v1 + 1)), (0, .ref (ad 1)), (2, .int x2)]) 34 C dX3_countNoisyPairs_31 rfl zz_i1 3 rfl (Nat.le_of_ble_eq_true rfl) rfl ?_
        refine zz_goto 14 C dX3_countNoisyPairs_34 rfl ?_
        exact zz_sub [2, 1, 3, 0] rfl (ih _ _ _ hf hex)
def f_X3_countNoisyPairs_4 : Nat → Int32 → Int32 → zz_Mem → Option (Int32 × Int32 × zz_Mem)
  | 0, _, _, _ => none
  | n + 1, v1, v2, M => (if (M 1 8) ≤ v2 then some (v1, v2, M) else zz_b3 (f_X3_countNoisyPairs_14 v2 5000 v1 0 M) (fun w7 w8 M9 => f_X3_countNoisyPairs_4 n w7 (v2 + 1) M9))
set_option maxHeartbeats 4000000 in
set_option maxRecDepth 100000 in
theorem l_X3_countNoisyPairs_4 {p : Program} {l : Launch} {e : Env} {s : State} {m : MethodId} {args : Array Value} {below : List Frame} {meth : Method} {c : Code} {D : va_G} {cI : ClassId} {ad : Nat → Nat} {w : Option Value} {Mf : zz_Mem} (C : zz_C p (zz_rm 4) s m args meth c D cI RX3 cX3_countNoisyPairs 4 (some .int) 0 0) {w1 w2 : Int32} {M1 : zz_Mem} : ∀ {n : Nat} {v1 v2 : Int32} {M : zz_Mem}, f_X3_countNoisyPairs_4 n v1 v2 M = some (w1, w2, M1) → zz_V p l e (zz_rm 4) s m args below meth c D zz_SC cI ad (zz_A zz_SC ad) 4 0 0 (MQ below (zz_Q D zz_SC cI ad w Mf) args s 0 0 (zz_A zz_SC ad)) 43 [(0, .ref (ad 1)), (1, .int w1), (2, .int w2)] [] M1 → zz_V p l e (zz_rm 4) s m args below meth c D zz_SC cI ad (zz_A zz_SC ad) 4 0 0 (MQ below (zz_Q D zz_SC cI ad w Mf) args s 0 0 (zz_A zz_SC ad)) 4 [(0, .ref (ad 1)), (1, .int v1), (2, .int v2)] [] M := by
  intro n
  induction n with
  | zero =>
    intro v1 v2 M hf
    simp [f_X3_countNoisyPairs_4] at hf
  | succ n ih0 =>
    intro v1 v2 M hf hex
    have ih := fun v1 v2 M hf => @ih0 v1 v2 M hf
    rw [f_X3_countNoisyPairs_4] at hf
    refine zz_iload_n 5 C dX3_countNoisyPairs_4 rfl 2 rfl ?_
    refine zz_aload_n 6 C dX3_countNoisyPairs_5 rfl 0 rfl ?_
    refine zz_getI 9 C dX3_countNoisyPairs_6 rfl fl_X3_37 sc_1 rfl ?_
    refine zz_icmp_ge 12 43 C dX3_countNoisyPairs_9 rfl rfl hf (fun h1 hf => ?_) (fun h1 hf => ?_)
    · cases hf
      exact zz_sub [0, 1, 2] rfl hex
    · refine zz_iconst 13 C dX3_countNoisyPairs_12 rfl zz_i0 ?_
      refine zz_istore_n (L' := [(3, .int 0), (0, .ref (ad 1)), (1, .int v1), (2, .int v2)]) 14 C dX3_countNoisyPairs_13 rfl (Nat.le_of_ble_eq_true rfl) rfl ?_
      obtain ⟨w7, w8, M9, hc10, hf⟩ := zz_b3E hf
      refine zz_sub [1, 2, 3, 0] rfl (l_X3_countNoisyPairs_14 C  hc10 ?_)
      refine zz_iinc (L' := [(2, .int (v2 + 1)), (0, .ref (ad 1)), (1, .int w7), (3, .int w8)]) 40 C dX3_countNoisyPairs_37 rfl zz_i1 2 rfl (Nat.le_of_ble_eq_true rfl) rfl ?_
      refine zz_goto 4 C dX3_countNoisyPairs_40 rfl ?_
      exact zz_sub [1, 2, 0] rfl (ih _ _ _ hf hex)
def f_X3_countNoisyPairs (M : zz_Mem) : Option (Int32 × zz_Mem) := zz_b3 (f_X3_countNoisyPairs_4 5000 0 0 M) (fun w11 w12 M13 => some (w11, M13))
set_option maxHeartbeats 4000000 in
set_option maxRecDepth 100000 in
theorem k_X3_countNoisyPairs {l : Launch} {D : va_G} {cI : ClassId} {ad : Nat → Nat} {r : Int32} {M M1 : zz_Mem} (hf : f_X3_countNoisyPairs M = some (r, M1)) : zz_K l D zz_SC cI ad 4 yX3_countNoisyPairs cX3_countNoisyPairs 4 (some .int) [.ref (ad 1)] M (some (.int r)) M1 := by
  unfold f_X3_countNoisyPairs at hf
  refine zz_entry (own := RX3) (L := [(0, .ref (ad 1))]) (by decide +kernel) rfl (Nat.le_of_ble_eq_true rfl) rfl (fun p e s m args below meth c C => ?_)
  refine zz_iconst 1 C dX3_countNoisyPairs_0 rfl zz_i0 ?_
  refine zz_istore_n (L' := [(1, .int 0), (0, .ref (ad 1))]) 2 C dX3_countNoisyPairs_1 rfl (Nat.le_of_ble_eq_true rfl) rfl ?_
  refine zz_iconst 3 C dX3_countNoisyPairs_2 rfl zz_i0 ?_
  refine zz_istore_n (L' := [(2, .int 0), (1, .int 0), (0, .ref (ad 1))]) 4 C dX3_countNoisyPairs_3 rfl (Nat.le_of_ble_eq_true rfl) rfl ?_
  obtain ⟨w11, w12, M13, hc14, hf⟩ := zz_b3E hf
  refine zz_sub [2, 1, 0] rfl (l_X3_countNoisyPairs_4 C  hc14 ?_)
  refine zz_iload_n 44 C dX3_countNoisyPairs_43 rfl 1 rfl ?_
  cases hf
  exact zz_iret C dX3_countNoisyPairs_44 rfl rfl
def f_X3_areBothChosen (a1 a2 : Int32) (M : zz_Mem) : Option (Int32 × zz_Mem) := (if zz_in a1 6 then (if (M 8 a1.toNatClampNeg) = (-1) then some (0, M) else (if zz_in a2 6 then (if (M 8 a2.toNatClampNeg) = (-1) then some (0, M) else some (1, M)) else none)) else none)
set_option maxHeartbeats 4000000 in
set_option maxRecDepth 100000 in
theorem k_X3_areBothChosen {l : Launch} {D : va_G} {cI : ClassId} {ad : Nat → Nat} {a1 a2 : Int32} {r : Int32} {M M1 : zz_Mem} (hf : f_X3_areBothChosen a1 a2 M = some (r, M1)) : zz_K l D zz_SC cI ad 0 yX3_areBothChosen cX3_areBothChosen 3 (some .boolean) [.ref (ad 1), .int a1, .int a2] M (some (.int r)) M1 := by
  unfold f_X3_areBothChosen at hf
  refine zz_entry (own := RX3) (L := [(0, .ref (ad 1)), (1, .int a1), (2, .int a2)]) (by decide +kernel) rfl (Nat.le_of_ble_eq_true rfl) rfl (fun p e s m args below meth c C => ?_)
  refine zz_aload_n 1 C dX3_areBothChosen_0 rfl 0 rfl ?_
  refine zz_getR 4 C dX3_areBothChosen_1 rfl fl_X3_22 sc_1 rfl ?_
  refine zz_iload_n 5 C dX3_areBothChosen_4 rfl 1 rfl ?_
  obtain ⟨hi1, hf⟩ := zz_chk hf
  refine zz_iald 6 C sc_8 dX3_areBothChosen_5 rfl hi1 ?_
  refine zz_iconst 7 C dX3_areBothChosen_6 rfl zz_im1 ?_
  refine zz_icmp_eq 10 24 C dX3_areBothChosen_7 rfl rfl hf (fun h2 hf => ?_) (fun h2 hf => ?_)
  · refine zz_iconst 25 C dX3_areBothChosen_24 rfl zz_i0 ?_
    cases hf
    exact zz_zret C dX3_areBothChosen_25 rfl rfl (by decide)
  · refine zz_aload_n 11 C dX3_areBothChosen_10 rfl 0 rfl ?_
    refine zz_getR 14 C dX3_areBothChosen_11 rfl fl_X3_22 sc_1 rfl ?_
    refine zz_iload_n 15 C dX3_areBothChosen_14 rfl 2 rfl ?_
    obtain ⟨hi3, hf⟩ := zz_chk hf
    refine zz_iald 16 C sc_8 dX3_areBothChosen_15 rfl hi3 ?_
    refine zz_iconst 17 C dX3_areBothChosen_16 rfl zz_im1 ?_
    refine zz_icmp_eq 20 24 C dX3_areBothChosen_17 rfl rfl hf (fun h4 hf => ?_) (fun h4 hf => ?_)
    · refine zz_iconst 25 C dX3_areBothChosen_24 rfl zz_i0 ?_
      cases hf
      exact zz_zret C dX3_areBothChosen_25 rfl rfl (by decide)
    · refine zz_iconst 21 C dX3_areBothChosen_20 rfl zz_i1 ?_
      refine zz_goto 25 C dX3_areBothChosen_21 rfl ?_
      cases hf
      exact zz_zret C dX3_areBothChosen_25 rfl rfl (by decide)
def f_X3_chosenNoiseOf (a1 a2 : Int32) (M : zz_Mem) : Option (Int32 × zz_Mem) := zz_b2 (f_X3_areBothChosen a1 a2 M) (fun r3 M2 => (if r3 = 0 then some (0, M2) else (if zz_in a1 6 then (if zz_in a2 6 then zz_b2 (f_X3_noiseOf (M2 8 a1.toNatClampNeg) (M2 8 a2.toNatClampNeg) M2) (fun r9 M8 => some (r9, M8)) else none) else none)))
set_option maxHeartbeats 4000000 in
set_option maxRecDepth 100000 in
theorem k_X3_chosenNoiseOf {l : Launch} {D : va_G} {cI : ClassId} {ad : Nat → Nat} {a1 a2 : Int32} {r : Int32} {M M1 : zz_Mem} (hf : f_X3_chosenNoiseOf a1 a2 M = some (r, M1)) : zz_K l D zz_SC cI ad 4 yX3_chosenNoiseOf cX3_chosenNoiseOf 3 (some .int) [.ref (ad 1), .int a1, .int a2] M (some (.int r)) M1 := by
  unfold f_X3_chosenNoiseOf at hf
  refine zz_entry (own := RX3) (L := [(0, .ref (ad 1)), (1, .int a1), (2, .int a2)]) (by decide +kernel) rfl (Nat.le_of_ble_eq_true rfl) rfl (fun p e s m args below meth c C => ?_)
  refine zz_aload_n 1 C dX3_chosenNoiseOf_0 rfl 0 rfl ?_
  refine zz_iload_n 2 C dX3_chosenNoiseOf_1 rfl 1 rfl ?_
  refine zz_iload_n 3 C dX3_chosenNoiseOf_2 rfl 2 rfl ?_
  obtain ⟨r3, M2, hc1, hf⟩ := zz_b2E hf
  refine zz_callV 6 [.int a1, .int a2] C dX3_chosenNoiseOf_3 rfl ml_X3_95 (k_X3_areBothChosen hc1) sc_1 (vC := vwCl[3]) rfl rfl rfl rfl rfl (Nat.le_of_ble_eq_true rfl) (zz_hR (Nat.le_of_ble_eq_true rfl) (Nat.le_of_ble_eq_true rfl)) ?_
  refine zz_if_eq 9 28 C dX3_chosenNoiseOf_6 rfl rfl hf (fun h4 hf => ?_) (fun h4 hf => ?_)
  · refine zz_iconst 29 C dX3_chosenNoiseOf_28 rfl zz_i0 ?_
    cases hf
    exact zz_iret C dX3_chosenNoiseOf_29 rfl rfl
  · refine zz_aload_n 10 C dX3_chosenNoiseOf_9 rfl 0 rfl ?_
    refine zz_aload_n 11 C dX3_chosenNoiseOf_10 rfl 0 rfl ?_
    refine zz_getR 14 C dX3_chosenNoiseOf_11 rfl fl_X3_22 sc_1 rfl ?_
    refine zz_iload_n 15 C dX3_chosenNoiseOf_14 rfl 1 rfl ?_
    obtain ⟨hi5, hf⟩ := zz_chk hf
    refine zz_iald 16 C sc_8 dX3_chosenNoiseOf_15 rfl hi5 ?_
    refine zz_aload_n 17 C dX3_chosenNoiseOf_16 rfl 0 rfl ?_
    refine zz_getR 20 C dX3_chosenNoiseOf_17 rfl fl_X3_22 sc_1 rfl ?_
    refine zz_iload_n 21 C dX3_chosenNoiseOf_20 rfl 2 rfl ?_
    obtain ⟨hi6, hf⟩ := zz_chk hf
    refine zz_iald 22 C sc_8 dX3_chosenNoiseOf_21 rfl hi6 ?_
    obtain ⟨r9, M8, hc7, hf⟩ := zz_b2E hf
    refine zz_callV 25 [.int (M2 8 a1.toNatClampNeg), .int (M2 8 a2.toNatClampNeg)] C dX3_chosenNoiseOf_22 rfl ml_X3_89 (k_X3_noiseOf hc7) sc_1 (vC := vwCl[3]) rfl rfl rfl rfl rfl (Nat.le_of_ble_eq_true rfl) (zz_hR (Nat.le_of_ble_eq_true rfl) (Nat.le_of_ble_eq_true rfl)) ?_
    refine zz_goto 29 C dX3_chosenNoiseOf_25 rfl ?_
    cases hf
    exact zz_iret C dX3_chosenNoiseOf_29 rfl rfl
def f_X3_costOfChosen_38 (x2 : Int32) : Nat → Int32 → Int32 → zz_Mem → Option (Int32 × Int32 × zz_Mem)
  | 0, _, _, _ => none
  | n + 1, v1, v3, M => (if x2 ≤ v3 then some (v1, v3, M) else zz_b2 (f_X3_chosenNoiseOf x2 v3 M) (fun r7 M6 => f_X3_costOfChosen_38 x2 n (v1 + r7) (v3 + 1) M6))
set_option maxHeartbeats 4000000 in
set_option maxRecDepth 100000 in
theorem l_X3_costOfChosen_38 {p : Program} {l : Launch} {e : Env} {s : State} {m : MethodId} {args : Array Value} {below : List Frame} {meth : Method} {c : Code} {D : va_G} {cI : ClassId} {ad : Nat → Nat} {x2 : Int32} {w : Option Value} {Mf : zz_Mem} (C : zz_C p (zz_rm 5) s m args meth c D cI RX3 cX3_costOfChosen 4 (some .int) 0 0) {w1 w3 : Int32} {M1 : zz_Mem} : ∀ {n : Nat} {v1 v3 : Int32} {M : zz_Mem}, f_X3_costOfChosen_38 x2 n v1 v3 M = some (w1, w3, M1) → zz_V p l e (zz_rm 5) s m args below meth c D zz_SC cI ad (zz_A zz_SC ad) 4 0 0 (MQ below (zz_Q D zz_SC cI ad w Mf) args s 0 0 (zz_A zz_SC ad)) 58 [(0, .ref (ad 1)), (1, .int w1), (2, .int x2), (3, .int w3)] [] M1 → zz_V p l e (zz_rm 5) s m args below meth c D zz_SC cI ad (zz_A zz_SC ad) 4 0 0 (MQ below (zz_Q D zz_SC cI ad w Mf) args s 0 0 (zz_A zz_SC ad)) 38 [(0, .ref (ad 1)), (1, .int v1), (2, .int x2), (3, .int v3)] [] M := by
  intro n
  induction n with
  | zero =>
    intro v1 v3 M hf
    simp [f_X3_costOfChosen_38] at hf
  | succ n ih0 =>
    intro v1 v3 M hf hex
    have ih := fun v1 v3 M hf => @ih0 v1 v3 M hf
    rw [f_X3_costOfChosen_38] at hf
    refine zz_iload_n 39 C dX3_costOfChosen_38 rfl 3 rfl ?_
    refine zz_iload_n 40 C dX3_costOfChosen_39 rfl 2 rfl ?_
    refine zz_icmp_ge 43 58 C dX3_costOfChosen_40 rfl rfl hf (fun h4 hf => ?_) (fun h4 hf => ?_)
    · cases hf
      exact zz_sub [0, 1, 2, 3] rfl hex
    · refine zz_iload_n 44 C dX3_costOfChosen_43 rfl 1 rfl ?_
      refine zz_aload_n 45 C dX3_costOfChosen_44 rfl 0 rfl ?_
      refine zz_iload_n 46 C dX3_costOfChosen_45 rfl 2 rfl ?_
      refine zz_iload_n 47 C dX3_costOfChosen_46 rfl 3 rfl ?_
      obtain ⟨r7, M6, hc5, hf⟩ := zz_b2E hf
      refine zz_callV 50 [.int x2, .int v3] C dX3_costOfChosen_47 rfl ml_X3_92 (k_X3_chosenNoiseOf hc5) sc_1 (vC := vwCl[3]) rfl rfl rfl rfl rfl (Nat.le_of_ble_eq_true rfl) (zz_hR (Nat.le_of_ble_eq_true rfl) (Nat.le_of_ble_eq_true rfl)) ?_
      refine zz_iadd 51 C dX3_costOfChosen_50 rfl ?_
      refine zz_istore_n (L' := [(1, .int (v1 + r7)), (0, .ref (ad 1)), (2, .int x2), (3, .int v3)]) 52 C dX3_costOfChosen_51 rfl (Nat.le_of_ble_eq_true rfl) rfl ?_
      refine zz_iinc (L' := [(3, .int (v3 + 1)), (1, .int (v1 + r7)), (0, .ref (ad 1)), (2, .int x2)]) 55 C dX3_costOfChosen_52 rfl zz_i1 3 rfl (Nat.le_of_ble_eq_true rfl) rfl ?_
      refine zz_goto 38 C dX3_costOfChosen_55 rfl ?_
      exact zz_sub [2, 1, 3, 0] rfl (ih _ _ _ hf hex)
def f_X3_costOfChosen_4 : Nat → Int32 → Int32 → zz_Mem → Option (Int32 × Int32 × zz_Mem)
  | 0, _, _, _ => none
  | n + 1, v1, v2, M => (if (M 1 0) ≤ v2 then some (v1, v2, M) else (if zz_in v2 6 then (if (M 8 v2.toNatClampNeg) = (-1) then zz_b3 (f_X3_costOfChosen_38 v2 5000 v1 0 M) (fun w8 w9 M10 => f_X3_costOfChosen_4 n w8 (v2 + 1) M10) else (if zz_in (M 8 v2.toNatClampNeg) 16 then zz_b3 (f_X3_costOfChosen_38 v2 5000 (v1 + (M 13 ((M 8 v2.toNatClampNeg).toNatClampNeg))) 0 M) (fun w13 w14 M15 => f_X3_costOfChosen_4 n w13 (v2 + 1) M15) else none)) else none))
set_option maxHeartbeats 4000000 in
set_option maxRecDepth 100000 in
theorem l_X3_costOfChosen_4 {p : Program} {l : Launch} {e : Env} {s : State} {m : MethodId} {args : Array Value} {below : List Frame} {meth : Method} {c : Code} {D : va_G} {cI : ClassId} {ad : Nat → Nat} {w : Option Value} {Mf : zz_Mem} (C : zz_C p (zz_rm 5) s m args meth c D cI RX3 cX3_costOfChosen 4 (some .int) 0 0) {w1 w2 : Int32} {M1 : zz_Mem} : ∀ {n : Nat} {v1 v2 : Int32} {M : zz_Mem}, f_X3_costOfChosen_4 n v1 v2 M = some (w1, w2, M1) → zz_V p l e (zz_rm 5) s m args below meth c D zz_SC cI ad (zz_A zz_SC ad) 4 0 0 (MQ below (zz_Q D zz_SC cI ad w Mf) args s 0 0 (zz_A zz_SC ad)) 64 [(0, .ref (ad 1)), (1, .int w1), (2, .int w2)] [] M1 → zz_V p l e (zz_rm 5) s m args below meth c D zz_SC cI ad (zz_A zz_SC ad) 4 0 0 (MQ below (zz_Q D zz_SC cI ad w Mf) args s 0 0 (zz_A zz_SC ad)) 4 [(0, .ref (ad 1)), (1, .int v1), (2, .int v2)] [] M := by
  intro n
  induction n with
  | zero =>
    intro v1 v2 M hf
    simp [f_X3_costOfChosen_4] at hf
  | succ n ih0 =>
    intro v1 v2 M hf hex
    have ih := fun v1 v2 M hf => @ih0 v1 v2 M hf
    rw [f_X3_costOfChosen_4] at hf
    refine zz_iload_n 5 C dX3_costOfChosen_4 rfl 2 rfl ?_
    refine zz_aload_n 6 C dX3_costOfChosen_5 rfl 0 rfl ?_
    refine zz_getI 9 C dX3_costOfChosen_6 rfl fl_X3_9 sc_1 rfl ?_
    refine zz_icmp_ge 12 64 C dX3_costOfChosen_9 rfl rfl hf (fun h1 hf => ?_) (fun h1 hf => ?_)
    · cases hf
      exact zz_sub [0, 1, 2] rfl hex
    · refine zz_aload_n 13 C dX3_costOfChosen_12 rfl 0 rfl ?_
      refine zz_getR 16 C dX3_costOfChosen_13 rfl fl_X3_22 sc_1 rfl ?_
      refine zz_iload_n 17 C dX3_costOfChosen_16 rfl 2 rfl ?_
      obtain ⟨hi2, hf⟩ := zz_chk hf
      refine zz_iald 18 C sc_8 dX3_costOfChosen_17 rfl hi2 ?_
      refine zz_iconst 19 C dX3_costOfChosen_18 rfl zz_im1 ?_
      refine zz_icmp_eq 22 36 C dX3_costOfChosen_19 rfl rfl hf (fun h3 hf => ?_) (fun h3 hf => ?_)
      · refine zz_iconst 37 C dX3_costOfChosen_36 rfl zz_i0 ?_
        refine zz_istore_n (L' := [(3, .int 0), (0, .ref (ad 1)), (1, .int v1), (2, .int v2)]) 38 C dX3_costOfChosen_37 rfl (Nat.le_of_ble_eq_true rfl) rfl ?_
        obtain ⟨w8, w9, M10, hc11, hf⟩ := zz_b3E hf
        refine zz_sub [1, 2, 3, 0] rfl (l_X3_costOfChosen_38 C  hc11 ?_)
        refine zz_iinc (L' := [(2, .int (v2 + 1)), (0, .ref (ad 1)), (1, .int w8), (3, .int w9)]) 61 C dX3_costOfChosen_58 rfl zz_i1 2 rfl (Nat.le_of_ble_eq_true rfl) rfl ?_
        refine zz_goto 4 C dX3_costOfChosen_61 rfl ?_
        exact zz_sub [1, 2, 0] rfl (ih _ _ _ hf hex)
      · refine zz_iload_n 23 C dX3_costOfChosen_22 rfl 1 rfl ?_
        refine zz_aload_n 24 C dX3_costOfChosen_23 rfl 0 rfl ?_
        refine zz_getR 27 C dX3_costOfChosen_24 rfl fl_X3_43 sc_1 rfl ?_
        refine zz_aload_n 28 C dX3_costOfChosen_27 rfl 0 rfl ?_
        refine zz_getR 31 C dX3_costOfChosen_28 rfl fl_X3_22 sc_1 rfl ?_
        refine zz_iload_n 32 C dX3_costOfChosen_31 rfl 2 rfl ?_
        refine zz_iald 33 C sc_8 dX3_costOfChosen_32 rfl hi2 ?_
        obtain ⟨hi12, hf⟩ := zz_chk hf
        refine zz_iald 34 C sc_13 dX3_costOfChosen_33 rfl hi12 ?_
        refine zz_iadd 35 C dX3_costOfChosen_34 rfl ?_
        refine zz_istore_n (L' := [(1, .int (v1 + (M 13 ((M 8 v2.toNatClampNeg).toNatClampNeg)))), (0, .ref (ad 1)), (2, .int v2)]) 36 C dX3_costOfChosen_35 rfl (Nat.le_of_ble_eq_true rfl) rfl ?_
        refine zz_iconst 37 C dX3_costOfChosen_36 rfl zz_i0 ?_
        refine zz_istore_n (L' := [(3, .int 0), (1, .int (v1 + (M 13 ((M 8 v2.toNatClampNeg).toNatClampNeg)))), (0, .ref (ad 1)), (2, .int v2)]) 38 C dX3_costOfChosen_37 rfl (Nat.le_of_ble_eq_true rfl) rfl ?_
        obtain ⟨w13, w14, M15, hc16, hf⟩ := zz_b3E hf
        refine zz_sub [2, 1, 3, 0] rfl (l_X3_costOfChosen_38 C  hc16 ?_)
        refine zz_iinc (L' := [(2, .int (v2 + 1)), (0, .ref (ad 1)), (1, .int w13), (3, .int w14)]) 61 C dX3_costOfChosen_58 rfl zz_i1 2 rfl (Nat.le_of_ble_eq_true rfl) rfl ?_
        refine zz_goto 4 C dX3_costOfChosen_61 rfl ?_
        exact zz_sub [1, 2, 0] rfl (ih _ _ _ hf hex)
def f_X3_costOfChosen (M : zz_Mem) : Option (Int32 × zz_Mem) := zz_b3 (f_X3_costOfChosen_4 5000 0 0 M) (fun w17 w18 M19 => some (w17, M19))
set_option maxHeartbeats 4000000 in
set_option maxRecDepth 100000 in
theorem k_X3_costOfChosen {l : Launch} {D : va_G} {cI : ClassId} {ad : Nat → Nat} {r : Int32} {M M1 : zz_Mem} (hf : f_X3_costOfChosen M = some (r, M1)) : zz_K l D zz_SC cI ad 5 yX3_costOfChosen cX3_costOfChosen 4 (some .int) [.ref (ad 1)] M (some (.int r)) M1 := by
  unfold f_X3_costOfChosen at hf
  refine zz_entry (own := RX3) (L := [(0, .ref (ad 1))]) (by decide +kernel) rfl (Nat.le_of_ble_eq_true rfl) rfl (fun p e s m args below meth c C => ?_)
  refine zz_iconst 1 C dX3_costOfChosen_0 rfl zz_i0 ?_
  refine zz_istore_n (L' := [(1, .int 0), (0, .ref (ad 1))]) 2 C dX3_costOfChosen_1 rfl (Nat.le_of_ble_eq_true rfl) rfl ?_
  refine zz_iconst 3 C dX3_costOfChosen_2 rfl zz_i0 ?_
  refine zz_istore_n (L' := [(2, .int 0), (1, .int 0), (0, .ref (ad 1))]) 4 C dX3_costOfChosen_3 rfl (Nat.le_of_ble_eq_true rfl) rfl ?_
  obtain ⟨w17, w18, M19, hc20, hf⟩ := zz_b3E hf
  refine zz_sub [2, 1, 0] rfl (l_X3_costOfChosen_4 C  hc20 ?_)
  refine zz_iload_n 65 C dX3_costOfChosen_64 rfl 1 rfl ?_
  cases hf
  exact zz_iret C dX3_costOfChosen_65 rfl rfl
def f_X3_countChosenClashesBy_15 (x1 x3 : Int32) : Nat → Int32 → Int32 → zz_Mem → Option (Int32 × Int32 × zz_Mem)
  | 0, _, _, _ => none
  | n + 1, v2, v4, M => (if x3 ≤ v4 then some (v2, v4, M) else zz_b2 (f_X3_areBothChosen x3 v4 M) (fun r5 M4 => (if r5 = 0 then f_X3_countChosenClashesBy_15 x1 x3 n v2 (v4 + 1) M4 else (if zz_in x3 6 then (if zz_in v4 6 then zz_b2 (f_X3_doClash (M4 8 x3.toNatClampNeg) (M4 8 v4.toNatClampNeg) x1 M4) (fun r11 M10 => (if r11 = 0 then f_X3_countChosenClashesBy_15 x1 x3 n v2 (v4 + 1) M10 else f_X3_countChosenClashesBy_15 x1 x3 n (v2 + 1) (v4 + 1) M10)) else none) else none))))
set_option maxHeartbeats 4000000 in
set_option maxRecDepth 100000 in
theorem l_X3_countChosenClashesBy_15 {p : Program} {l : Launch} {e : Env} {s : State} {m : MethodId} {args : Array Value} {below : List Frame} {meth : Method} {c : Code} {D : va_G} {cI : ClassId} {ad : Nat → Nat} {x1 x3 : Int32} {w : Option Value} {Mf : zz_Mem} (C : zz_C p (zz_rm 3) s m args meth c D cI RX3 cX3_countChosenClashesBy 5 (some .int) 0 0) {w2 w4 : Int32} {M1 : zz_Mem} : ∀ {n : Nat} {v2 v4 : Int32} {M : zz_Mem}, f_X3_countChosenClashesBy_15 x1 x3 n v2 v4 M = some (w2, w4, M1) → zz_V p l e (zz_rm 3) s m args below meth c D zz_SC cI ad (zz_A zz_SC ad) 5 0 0 (MQ below (zz_Q D zz_SC cI ad w Mf) args s 0 0 (zz_A zz_SC ad)) 61 [(0, .ref (ad 1)), (1, .int x1), (2, .int w2), (3, .int x3), (4, .int w4)] [] M1 → zz_V p l e (zz_rm 3) s m args below meth c D zz_SC cI ad (zz_A zz_SC ad) 5 0 0 (MQ below (zz_Q D zz_SC cI ad w Mf) args s 0 0 (zz_A zz_SC ad)) 15 [(0, .ref (ad 1)), (1, .int x1), (2, .int v2), (3, .int x3), (4, .int v4)] [] M := by
  intro n
  induction n with
  | zero =>
    intro v2 v4 M hf
    simp [f_X3_countChosenClashesBy_15] at hf
  | succ n ih0 =>
    intro v2 v4 M hf hex
    have ih := fun v2 v4 M hf => @ih0 v2 v4 M hf
    rw [f_X3_countChosenClashesBy_15] at hf
    refine zz_iload 17 C dX3_countChosenClashesBy_15 rfl 4 rfl ?_
    refine zz_iload_n 18 C dX3_countChosenClashesBy_17 rfl 3 rfl ?_
    refine zz_icmp_ge 21 61 C dX3_countChosenClashesBy_18 rfl rfl hf (fun h2 hf => ?_) (fun h2 hf => ?_)
    · cases hf
      exact zz_sub [0, 1, 2, 3, 4] rfl hex
    · refine zz_aload_n 22 C dX3_countChosenClashesBy_21 rfl 0 rfl ?_
      refine zz_iload_n 23 C dX3_countChosenClashesBy_22 rfl 3 rfl ?_
      refine zz_iload 25 C dX3_countChosenClashesBy_23 rfl 4 rfl ?_
      obtain ⟨r5, M4, hc3, hf⟩ := zz_b2E hf
      refine zz_callV 28 [.int x3, .int v4] C dX3_countChosenClashesBy_25 rfl ml_X3_95 (k_X3_areBothChosen hc3) sc_1 (vC := vwCl[3]) rfl rfl rfl rfl rfl (Nat.le_of_ble_eq_true rfl) (zz_hR (Nat.le_of_ble_eq_true rfl) (Nat.le_of_ble_eq_true rfl)) ?_
      refine zz_if_eq 31 55 C dX3_countChosenClashesBy_28 rfl rfl hf (fun h6 hf => ?_) (fun h6 hf => ?_)
      · refine zz_iinc (L' := [(4, .int (v4 + 1)), (0, .ref (ad 1)), (1, .int x1), (2, .int v2), (3, .int x3)]) 58 C dX3_countChosenClashesBy_55 rfl zz_i1 4 rfl (Nat.le_of_ble_eq_true rfl) rfl ?_
        refine zz_goto 15 C dX3_countChosenClashesBy_58 rfl ?_
        exact zz_sub [1, 2, 3, 4, 0] rfl (ih _ _ _ hf hex)
      · refine zz_aload_n 32 C dX3_countChosenClashesBy_31 rfl 0 rfl ?_
        refine zz_aload_n 33 C dX3_countChosenClashesBy_32 rfl 0 rfl ?_
        refine zz_getR 36 C dX3_countChosenClashesBy_33 rfl fl_X3_22 sc_1 rfl ?_
        refine zz_iload_n 37 C dX3_countChosenClashesBy_36 rfl 3 rfl ?_
        obtain ⟨hi7, hf⟩ := zz_chk hf
        refine zz_iald 38 C sc_8 dX3_countChosenClashesBy_37 rfl hi7 ?_
        refine zz_aload_n 39 C dX3_countChosenClashesBy_38 rfl 0 rfl ?_
        refine zz_getR 42 C dX3_countChosenClashesBy_39 rfl fl_X3_22 sc_1 rfl ?_
        refine zz_iload 44 C dX3_countChosenClashesBy_42 rfl 4 rfl ?_
        obtain ⟨hi8, hf⟩ := zz_chk hf
        refine zz_iald 45 C sc_8 dX3_countChosenClashesBy_44 rfl hi8 ?_
        refine zz_iload_n 46 C dX3_countChosenClashesBy_45 rfl 1 rfl ?_
        obtain ⟨r11, M10, hc9, hf⟩ := zz_b2E hf
        refine zz_callV 49 [.int (M4 8 x3.toNatClampNeg), .int (M4 8 v4.toNatClampNeg), .int x1] C dX3_countChosenClashesBy_46 rfl ml_X3_85 (k_X3_doClash hc9) sc_1 (vC := vwCl[3]) rfl rfl rfl rfl rfl (Nat.le_of_ble_eq_true rfl) (zz_hR (Nat.le_of_ble_eq_true rfl) (Nat.le_of_ble_eq_true rfl)) ?_
        refine zz_if_eq 52 55 C dX3_countChosenClashesBy_49 rfl rfl hf (fun h12 hf => ?_) (fun h12 hf => ?_)
        · refine zz_iinc (L' := [(4, .int (v4 + 1)), (0, .ref (ad 1)), (1, .int x1), (2, .int v2), (3, .int x3)]) 58 C dX3_countChosenClashesBy_55 rfl zz_i1 4 rfl (Nat.le_of_ble_eq_true rfl) rfl ?_
          refine zz_goto 15 C dX3_countChosenClashesBy_58 rfl ?_
          exact zz_sub [1, 2, 3, 4, 0] rfl (ih _ _ _ hf hex)
        · refine zz_iinc (L' := [(2, .int (v2 + 1)), (0, .ref (ad 1)), (1, .int x1), (3, .int x3), (4, .int v4)]) 55 C dX3_countChosenClashesBy_52 rfl zz_i1 2 rfl (Nat.le_of_ble_eq_true rfl) rfl ?_
          refine zz_iinc (L' := [(4, .int (v4 + 1)), (2, .int (v2 + 1)), (0, .ref (ad 1)), (1, .int x1), (3, .int x3)]) 58 C dX3_countChosenClashesBy_55 rfl zz_i1 4 rfl (Nat.le_of_ble_eq_true rfl) rfl ?_
          refine zz_goto 15 C dX3_countChosenClashesBy_58 rfl ?_
          exact zz_sub [2, 3, 1, 4, 0] rfl (ih _ _ _ hf hex)
def f_X3_countChosenClashesBy_4 (x1 : Int32) : Nat → Int32 → Int32 → zz_Mem → Option (Int32 × Int32 × zz_Mem)
  | 0, _, _, _ => none
  | n + 1, v2, v3, M => (if (M 1 0) ≤ v3 then some (v2, v3, M) else zz_b3 (f_X3_countChosenClashesBy_15 x1 v3 5000 v2 0 M) (fun w13 w14 M15 => f_X3_countChosenClashesBy_4 x1 n w13 (v3 + 1) M15))
set_option maxHeartbeats 4000000 in
set_option maxRecDepth 100000 in
theorem l_X3_countChosenClashesBy_4 {p : Program} {l : Launch} {e : Env} {s : State} {m : MethodId} {args : Array Value} {below : List Frame} {meth : Method} {c : Code} {D : va_G} {cI : ClassId} {ad : Nat → Nat} {x1 : Int32} {w : Option Value} {Mf : zz_Mem} (C : zz_C p (zz_rm 3) s m args meth c D cI RX3 cX3_countChosenClashesBy 5 (some .int) 0 0) {w2 w3 : Int32} {M1 : zz_Mem} : ∀ {n : Nat} {v2 v3 : Int32} {M : zz_Mem}, f_X3_countChosenClashesBy_4 x1 n v2 v3 M = some (w2, w3, M1) → zz_V p l e (zz_rm 3) s m args below meth c D zz_SC cI ad (zz_A zz_SC ad) 5 0 0 (MQ below (zz_Q D zz_SC cI ad w Mf) args s 0 0 (zz_A zz_SC ad)) 67 [(0, .ref (ad 1)), (1, .int x1), (2, .int w2), (3, .int w3)] [] M1 → zz_V p l e (zz_rm 3) s m args below meth c D zz_SC cI ad (zz_A zz_SC ad) 5 0 0 (MQ below (zz_Q D zz_SC cI ad w Mf) args s 0 0 (zz_A zz_SC ad)) 4 [(0, .ref (ad 1)), (1, .int x1), (2, .int v2), (3, .int v3)] [] M := by
  intro n
  induction n with
  | zero =>
    intro v2 v3 M hf
    simp [f_X3_countChosenClashesBy_4] at hf
  | succ n ih0 =>
    intro v2 v3 M hf hex
    have ih := fun v2 v3 M hf => @ih0 v2 v3 M hf
    rw [f_X3_countChosenClashesBy_4] at hf
    refine zz_iload_n 5 C dX3_countChosenClashesBy_4 rfl 3 rfl ?_
    refine zz_aload_n 6 C dX3_countChosenClashesBy_5 rfl 0 rfl ?_
    refine zz_getI 9 C dX3_countChosenClashesBy_6 rfl fl_X3_9 sc_1 rfl ?_
    refine zz_icmp_ge 12 67 C dX3_countChosenClashesBy_9 rfl rfl hf (fun h1 hf => ?_) (fun h1 hf => ?_)
    · cases hf
      exact zz_sub [0, 1, 2, 3] rfl hex
    · refine zz_iconst 13 C dX3_countChosenClashesBy_12 rfl zz_i0 ?_
      refine zz_istore (L' := [(4, .int 0), (0, .ref (ad 1)), (1, .int x1), (2, .int v2), (3, .int v3)]) 15 C dX3_countChosenClashesBy_13 rfl (Nat.le_of_ble_eq_true rfl) rfl ?_
      obtain ⟨w13, w14, M15, hc16, hf⟩ := zz_b3E hf
      refine zz_sub [1, 2, 3, 4, 0] rfl (l_X3_countChosenClashesBy_15 C  hc16 ?_)
      refine zz_iinc (L' := [(3, .int (v3 + 1)), (0, .ref (ad 1)), (1, .int x1), (2, .int w13), (4, .int w14)]) 64 C dX3_countChosenClashesBy_61 rfl zz_i1 3 rfl (Nat.le_of_ble_eq_true rfl) rfl ?_
      refine zz_goto 4 C dX3_countChosenClashesBy_64 rfl ?_
      exact zz_sub [1, 2, 3, 0] rfl (ih _ _ _ hf hex)
def f_X3_countChosenClashesBy (a1 : Int32) (M : zz_Mem) : Option (Int32 × zz_Mem) := zz_b3 (f_X3_countChosenClashesBy_4 a1 5000 0 0 M) (fun w17 w18 M19 => some (w17, M19))
set_option maxHeartbeats 4000000 in
set_option maxRecDepth 100000 in
theorem k_X3_countChosenClashesBy {l : Launch} {D : va_G} {cI : ClassId} {ad : Nat → Nat} {a1 : Int32} {r : Int32} {M M1 : zz_Mem} (hf : f_X3_countChosenClashesBy a1 M = some (r, M1)) : zz_K l D zz_SC cI ad 3 yX3_countChosenClashesBy cX3_countChosenClashesBy 5 (some .int) [.ref (ad 1), .int a1] M (some (.int r)) M1 := by
  unfold f_X3_countChosenClashesBy at hf
  refine zz_entry (own := RX3) (L := [(0, .ref (ad 1)), (1, .int a1)]) (by decide +kernel) rfl (Nat.le_of_ble_eq_true rfl) rfl (fun p e s m args below meth c C => ?_)
  refine zz_iconst 1 C dX3_countChosenClashesBy_0 rfl zz_i0 ?_
  refine zz_istore_n (L' := [(2, .int 0), (0, .ref (ad 1)), (1, .int a1)]) 2 C dX3_countChosenClashesBy_1 rfl (Nat.le_of_ble_eq_true rfl) rfl ?_
  refine zz_iconst 3 C dX3_countChosenClashesBy_2 rfl zz_i0 ?_
  refine zz_istore_n (L' := [(3, .int 0), (2, .int 0), (0, .ref (ad 1)), (1, .int a1)]) 4 C dX3_countChosenClashesBy_3 rfl (Nat.le_of_ble_eq_true rfl) rfl ?_
  obtain ⟨w17, w18, M19, hc20, hf⟩ := zz_b3E hf
  refine zz_sub [2, 3, 1, 0] rfl (l_X3_countChosenClashesBy_4 C  hc20 ?_)
  refine zz_iload_n 68 C dX3_countChosenClashesBy_67 rfl 2 rfl ?_
  cases hf
  exact zz_iret C dX3_countChosenClashesBy_68 rfl rfl
def f_X3_becomeLike_k (M : zz_Mem) : Option (zz_Mem) := some (zz_cp (zz_cp (zz_cp (zz_up (zz_cp (zz_cp (zz_cp (zz_up (zz_cp (zz_cp (zz_cp (zz_up M 2 0 (M 1 0)) 6 15 ((0 : Int32).toNatClampNeg) ((0 : Int32).toNatClampNeg) ((6 : Int32).toNatClampNeg)) 7 16 ((0 : Int32).toNatClampNeg) ((0 : Int32).toNatClampNeg) ((6 : Int32).toNatClampNeg)) 8 17 ((0 : Int32).toNatClampNeg) ((0 : Int32).toNatClampNeg) ((6 : Int32).toNatClampNeg)) 2 4 ((zz_cp (zz_cp (zz_cp (zz_up M 2 0 (M 1 0)) 6 15 ((0 : Int32).toNatClampNeg) ((0 : Int32).toNatClampNeg) ((6 : Int32).toNatClampNeg)) 7 16 ((0 : Int32).toNatClampNeg) ((0 : Int32).toNatClampNeg) ((6 : Int32).toNatClampNeg)) 8 17 ((0 : Int32).toNatClampNeg) ((0 : Int32).toNatClampNeg) ((6 : Int32).toNatClampNeg)) 1 4)) 9 18 ((0 : Int32).toNatClampNeg) ((0 : Int32).toNatClampNeg) ((6 : Int32).toNatClampNeg)) 10 19 ((0 : Int32).toNatClampNeg) ((0 : Int32).toNatClampNeg) ((6 : Int32).toNatClampNeg)) 11 20 ((0 : Int32).toNatClampNeg) ((0 : Int32).toNatClampNeg) ((6 : Int32).toNatClampNeg)) 2 8 ((zz_cp (zz_cp (zz_cp (zz_up (zz_cp (zz_cp (zz_cp (zz_up M 2 0 (M 1 0)) 6 15 ((0 : Int32).toNatClampNeg) ((0 : Int32).toNatClampNeg) ((6 : Int32).toNatClampNeg)) 7 16 ((0 : Int32).toNatClampNeg) ((0 : Int32).toNatClampNeg) ((6 : Int32).toNatClampNeg)) 8 17 ((0 : Int32).toNatClampNeg) ((0 : Int32).toNatClampNeg) ((6 : Int32).toNatClampNeg)) 2 4 ((zz_cp (zz_cp (zz_cp (zz_up M 2 0 (M 1 0)) 6 15 ((0 : Int32).toNatClampNeg) ((0 : Int32).toNatClampNeg) ((6 : Int32).toNatClampNeg)) 7 16 ((0 : Int32).toNatClampNeg) ((0 : Int32).toNatClampNeg) ((6 : Int32).toNatClampNeg)) 8 17 ((0 : Int32).toNatClampNeg) ((0 : Int32).toNatClampNeg) ((6 : Int32).toNatClampNeg)) 1 4)) 9 18 ((0 : Int32).toNatClampNeg) ((0 : Int32).toNatClampNeg) ((6 : Int32).toNatClampNeg)) 10 19 ((0 : Int32).toNatClampNeg) ((0 : Int32).toNatClampNeg) ((6 : Int32).toNatClampNeg)) 11 20 ((0 : Int32).toNatClampNeg) ((0 : Int32).toNatClampNeg) ((6 : Int32).toNatClampNeg)) 1 8)) 12 21 ((0 : Int32).toNatClampNeg) ((0 : Int32).toNatClampNeg) ((16 : Int32).toNatClampNeg)) 13 22 ((0 : Int32).toNatClampNeg) ((0 : Int32).toNatClampNeg) ((16 : Int32).toNatClampNeg)) 14 23 ((0 : Int32).toNatClampNeg) ((0 : Int32).toNatClampNeg) ((96 : Int32).toNatClampNeg))
set_option maxHeartbeats 4000000 in
set_option maxRecDepth 100000 in
theorem k_X3_becomeLike_k {l : Launch} {D : va_G} {cI : ClassId} {ad : Nat → Nat} {M M1 : zz_Mem} (hf : f_X3_becomeLike_k M = some M1) : zz_K l D zz_SC cI ad 1 yX3_becomeLike cX3_becomeLike 2 none [.ref (ad 2), .ref (ad 1)] M none M1 := by
  unfold f_X3_becomeLike_k at hf
  refine zz_entry (own := RX3) (L := [(0, .ref (ad 2)), (1, .ref (ad 1))]) (by decide +kernel) rfl (Nat.le_of_ble_eq_true rfl) rfl (fun p e s m args below meth c C => ?_)
  refine zz_aload_n 1 C dX3_becomeLike_0 rfl 0 rfl ?_
  refine zz_aload_n 2 C dX3_becomeLike_1 rfl 1 rfl ?_
  refine zz_getI 5 C dX3_becomeLike_2 rfl fl_X3_9 sc_1 rfl ?_
  refine zz_putI 8 C dX3_becomeLike_5 rfl fl_X3_9 fs_X3_0 rfl rfl sc_2 rfl ?_
  refine zz_aload_n 9 C dX3_becomeLike_8 rfl 1 rfl ?_
  refine zz_getR 12 C dX3_becomeLike_9 rfl fl_X3_15 sc_1 rfl ?_
  refine zz_iconst 13 C dX3_becomeLike_12 rfl zz_i0 ?_
  refine zz_aload_n 14 C dX3_becomeLike_13 rfl 0 rfl ?_
  refine zz_getR 17 C dX3_becomeLike_14 rfl fl_X3_15 sc_2 rfl ?_
  refine zz_iconst 18 C dX3_becomeLike_17 rfl zz_i0 ?_
  refine zz_bipush 20 C dX3_becomeLike_18 rfl zz_bp6 ?_
  refine zz_copy 23 C dX3_becomeLike_20 rfl cp_X3_55 sc_6 sc_15 (by decide) (zz_hcp (Nat.le_of_ble_eq_true rfl)) ?_
  refine zz_aload_n 24 C dX3_becomeLike_23 rfl 1 rfl ?_
  refine zz_getR 27 C dX3_becomeLike_24 rfl fl_X3_19 sc_1 rfl ?_
  refine zz_iconst 28 C dX3_becomeLike_27 rfl zz_i0 ?_
  refine zz_aload_n 29 C dX3_becomeLike_28 rfl 0 rfl ?_
  refine zz_getR 32 C dX3_becomeLike_29 rfl fl_X3_19 sc_2 rfl ?_
  refine zz_iconst 33 C dX3_becomeLike_32 rfl zz_i0 ?_
  refine zz_bipush 35 C dX3_becomeLike_33 rfl zz_bp6 ?_
  refine zz_copy 38 C dX3_becomeLike_35 rfl cp_X3_55 sc_7 sc_16 (by decide) (zz_hcp (Nat.le_of_ble_eq_true rfl)) ?_
  refine zz_aload_n 39 C dX3_becomeLike_38 rfl 1 rfl ?_
  refine zz_getR 42 C dX3_becomeLike_39 rfl fl_X3_22 sc_1 rfl ?_
  refine zz_iconst 43 C dX3_becomeLike_42 rfl zz_i0 ?_
  refine zz_aload_n 44 C dX3_becomeLike_43 rfl 0 rfl ?_
  refine zz_getR 47 C dX3_becomeLike_44 rfl fl_X3_22 sc_2 rfl ?_
  refine zz_iconst 48 C dX3_becomeLike_47 rfl zz_i0 ?_
  refine zz_bipush 50 C dX3_becomeLike_48 rfl zz_bp6 ?_
  refine zz_copy 53 C dX3_becomeLike_50 rfl cp_X3_55 sc_8 sc_17 (by decide) (zz_hcp (Nat.le_of_ble_eq_true rfl)) ?_
  refine zz_aload_n 54 C dX3_becomeLike_53 rfl 0 rfl ?_
  refine zz_aload_n 55 C dX3_becomeLike_54 rfl 1 rfl ?_
  refine zz_getI 58 C dX3_becomeLike_55 rfl fl_X3_25 sc_1 rfl ?_
  refine zz_putI 61 C dX3_becomeLike_58 rfl fl_X3_25 fs_X3_4 rfl rfl sc_2 rfl ?_
  refine zz_aload_n 62 C dX3_becomeLike_61 rfl 1 rfl ?_
  refine zz_getR 65 C dX3_becomeLike_62 rfl fl_X3_28 sc_1 rfl ?_
  refine zz_iconst 66 C dX3_becomeLike_65 rfl zz_i0 ?_
  refine zz_aload_n 67 C dX3_becomeLike_66 rfl 0 rfl ?_
  refine zz_getR 70 C dX3_becomeLike_67 rfl fl_X3_28 sc_2 rfl ?_
  refine zz_iconst 71 C dX3_becomeLike_70 rfl zz_i0 ?_
  refine zz_bipush 73 C dX3_becomeLike_71 rfl zz_bp6 ?_
  refine zz_copy 76 C dX3_becomeLike_73 rfl cp_X3_55 sc_9 sc_18 (by decide) (zz_hcp (Nat.le_of_ble_eq_true rfl)) ?_
  refine zz_aload_n 77 C dX3_becomeLike_76 rfl 1 rfl ?_
  refine zz_getR 80 C dX3_becomeLike_77 rfl fl_X3_31 sc_1 rfl ?_
  refine zz_iconst 81 C dX3_becomeLike_80 rfl zz_i0 ?_
  refine zz_aload_n 82 C dX3_becomeLike_81 rfl 0 rfl ?_
  refine zz_getR 85 C dX3_becomeLike_82 rfl fl_X3_31 sc_2 rfl ?_
  refine zz_iconst 86 C dX3_becomeLike_85 rfl zz_i0 ?_
  refine zz_bipush 88 C dX3_becomeLike_86 rfl zz_bp6 ?_
  refine zz_copy 91 C dX3_becomeLike_88 rfl cp_X3_55 sc_10 sc_19 (by decide) (zz_hcp (Nat.le_of_ble_eq_true rfl)) ?_
  refine zz_aload_n 92 C dX3_becomeLike_91 rfl 1 rfl ?_
  refine zz_getR 95 C dX3_becomeLike_92 rfl fl_X3_34 sc_1 rfl ?_
  refine zz_iconst 96 C dX3_becomeLike_95 rfl zz_i0 ?_
  refine zz_aload_n 97 C dX3_becomeLike_96 rfl 0 rfl ?_
  refine zz_getR 100 C dX3_becomeLike_97 rfl fl_X3_34 sc_2 rfl ?_
  refine zz_iconst 101 C dX3_becomeLike_100 rfl zz_i0 ?_
  refine zz_bipush 103 C dX3_becomeLike_101 rfl zz_bp6 ?_
  refine zz_copy 106 C dX3_becomeLike_103 rfl cp_X3_55 sc_11 sc_20 (by decide) (zz_hcp (Nat.le_of_ble_eq_true rfl)) ?_
  refine zz_aload_n 107 C dX3_becomeLike_106 rfl 0 rfl ?_
  refine zz_aload_n 108 C dX3_becomeLike_107 rfl 1 rfl ?_
  refine zz_getI 111 C dX3_becomeLike_108 rfl fl_X3_37 sc_1 rfl ?_
  refine zz_putI 114 C dX3_becomeLike_111 rfl fl_X3_37 fs_X3_8 rfl rfl sc_2 rfl ?_
  refine zz_aload_n 115 C dX3_becomeLike_114 rfl 1 rfl ?_
  refine zz_getR 118 C dX3_becomeLike_115 rfl fl_X3_40 sc_1 rfl ?_
  refine zz_iconst 119 C dX3_becomeLike_118 rfl zz_i0 ?_
  refine zz_aload_n 120 C dX3_becomeLike_119 rfl 0 rfl ?_
  refine zz_getR 123 C dX3_becomeLike_120 rfl fl_X3_40 sc_2 rfl ?_
  refine zz_iconst 124 C dX3_becomeLike_123 rfl zz_i0 ?_
  refine zz_bipush 126 C dX3_becomeLike_124 rfl zz_bp16 ?_
  refine zz_copy 129 C dX3_becomeLike_126 rfl cp_X3_55 sc_12 sc_21 (by decide) (zz_hcp (Nat.le_of_ble_eq_true rfl)) ?_
  refine zz_aload_n 130 C dX3_becomeLike_129 rfl 1 rfl ?_
  refine zz_getR 133 C dX3_becomeLike_130 rfl fl_X3_43 sc_1 rfl ?_
  refine zz_iconst 134 C dX3_becomeLike_133 rfl zz_i0 ?_
  refine zz_aload_n 135 C dX3_becomeLike_134 rfl 0 rfl ?_
  refine zz_getR 138 C dX3_becomeLike_135 rfl fl_X3_43 sc_2 rfl ?_
  refine zz_iconst 139 C dX3_becomeLike_138 rfl zz_i0 ?_
  refine zz_bipush 141 C dX3_becomeLike_139 rfl zz_bp16 ?_
  refine zz_copy 144 C dX3_becomeLike_141 rfl cp_X3_55 sc_13 sc_22 (by decide) (zz_hcp (Nat.le_of_ble_eq_true rfl)) ?_
  refine zz_aload_n 145 C dX3_becomeLike_144 rfl 1 rfl ?_
  refine zz_getR 148 C dX3_becomeLike_145 rfl fl_X3_46 sc_1 rfl ?_
  refine zz_iconst 149 C dX3_becomeLike_148 rfl zz_i0 ?_
  refine zz_aload_n 150 C dX3_becomeLike_149 rfl 0 rfl ?_
  refine zz_getR 153 C dX3_becomeLike_150 rfl fl_X3_46 sc_2 rfl ?_
  refine zz_iconst 154 C dX3_becomeLike_153 rfl zz_i0 ?_
  refine zz_bipush 156 C dX3_becomeLike_154 rfl zz_bp96 ?_
  refine zz_copy 159 C dX3_becomeLike_156 rfl cp_X3_55 sc_14 sc_23 (by decide) (zz_hcp (Nat.le_of_ble_eq_true rfl)) ?_
  cases hf
  exact zz_vret C dX3_becomeLike_159 rfl rfl
def f_X3_becomeLike_n (M : zz_Mem) : Option (zz_Mem) := some (zz_cp (zz_cp (zz_cp (zz_up (zz_cp (zz_cp (zz_cp (zz_up (zz_cp (zz_cp (zz_cp (zz_up M 1 0 (M 2 0)) 15 6 ((0 : Int32).toNatClampNeg) ((0 : Int32).toNatClampNeg) ((6 : Int32).toNatClampNeg)) 16 7 ((0 : Int32).toNatClampNeg) ((0 : Int32).toNatClampNeg) ((6 : Int32).toNatClampNeg)) 17 8 ((0 : Int32).toNatClampNeg) ((0 : Int32).toNatClampNeg) ((6 : Int32).toNatClampNeg)) 1 4 ((zz_cp (zz_cp (zz_cp (zz_up M 1 0 (M 2 0)) 15 6 ((0 : Int32).toNatClampNeg) ((0 : Int32).toNatClampNeg) ((6 : Int32).toNatClampNeg)) 16 7 ((0 : Int32).toNatClampNeg) ((0 : Int32).toNatClampNeg) ((6 : Int32).toNatClampNeg)) 17 8 ((0 : Int32).toNatClampNeg) ((0 : Int32).toNatClampNeg) ((6 : Int32).toNatClampNeg)) 2 4)) 18 9 ((0 : Int32).toNatClampNeg) ((0 : Int32).toNatClampNeg) ((6 : Int32).toNatClampNeg)) 19 10 ((0 : Int32).toNatClampNeg) ((0 : Int32).toNatClampNeg) ((6 : Int32).toNatClampNeg)) 20 11 ((0 : Int32).toNatClampNeg) ((0 : Int32).toNatClampNeg) ((6 : Int32).toNatClampNeg)) 1 8 ((zz_cp (zz_cp (zz_cp (zz_up (zz_cp (zz_cp (zz_cp (zz_up M 1 0 (M 2 0)) 15 6 ((0 : Int32).toNatClampNeg) ((0 : Int32).toNatClampNeg) ((6 : Int32).toNatClampNeg)) 16 7 ((0 : Int32).toNatClampNeg) ((0 : Int32).toNatClampNeg) ((6 : Int32).toNatClampNeg)) 17 8 ((0 : Int32).toNatClampNeg) ((0 : Int32).toNatClampNeg) ((6 : Int32).toNatClampNeg)) 1 4 ((zz_cp (zz_cp (zz_cp (zz_up M 1 0 (M 2 0)) 15 6 ((0 : Int32).toNatClampNeg) ((0 : Int32).toNatClampNeg) ((6 : Int32).toNatClampNeg)) 16 7 ((0 : Int32).toNatClampNeg) ((0 : Int32).toNatClampNeg) ((6 : Int32).toNatClampNeg)) 17 8 ((0 : Int32).toNatClampNeg) ((0 : Int32).toNatClampNeg) ((6 : Int32).toNatClampNeg)) 2 4)) 18 9 ((0 : Int32).toNatClampNeg) ((0 : Int32).toNatClampNeg) ((6 : Int32).toNatClampNeg)) 19 10 ((0 : Int32).toNatClampNeg) ((0 : Int32).toNatClampNeg) ((6 : Int32).toNatClampNeg)) 20 11 ((0 : Int32).toNatClampNeg) ((0 : Int32).toNatClampNeg) ((6 : Int32).toNatClampNeg)) 2 8)) 21 12 ((0 : Int32).toNatClampNeg) ((0 : Int32).toNatClampNeg) ((16 : Int32).toNatClampNeg)) 22 13 ((0 : Int32).toNatClampNeg) ((0 : Int32).toNatClampNeg) ((16 : Int32).toNatClampNeg)) 23 14 ((0 : Int32).toNatClampNeg) ((0 : Int32).toNatClampNeg) ((96 : Int32).toNatClampNeg))
set_option maxHeartbeats 4000000 in
set_option maxRecDepth 100000 in
theorem k_X3_becomeLike_n {l : Launch} {D : va_G} {cI : ClassId} {ad : Nat → Nat} {M M1 : zz_Mem} (hf : f_X3_becomeLike_n M = some M1) : zz_K l D zz_SC cI ad 1 yX3_becomeLike cX3_becomeLike 2 none [.ref (ad 1), .ref (ad 2)] M none M1 := by
  unfold f_X3_becomeLike_n at hf
  refine zz_entry (own := RX3) (L := [(0, .ref (ad 1)), (1, .ref (ad 2))]) (by decide +kernel) rfl (Nat.le_of_ble_eq_true rfl) rfl (fun p e s m args below meth c C => ?_)
  refine zz_aload_n 1 C dX3_becomeLike_0 rfl 0 rfl ?_
  refine zz_aload_n 2 C dX3_becomeLike_1 rfl 1 rfl ?_
  refine zz_getI 5 C dX3_becomeLike_2 rfl fl_X3_9 sc_2 rfl ?_
  refine zz_putI 8 C dX3_becomeLike_5 rfl fl_X3_9 fs_X3_0 rfl rfl sc_1 rfl ?_
  refine zz_aload_n 9 C dX3_becomeLike_8 rfl 1 rfl ?_
  refine zz_getR 12 C dX3_becomeLike_9 rfl fl_X3_15 sc_2 rfl ?_
  refine zz_iconst 13 C dX3_becomeLike_12 rfl zz_i0 ?_
  refine zz_aload_n 14 C dX3_becomeLike_13 rfl 0 rfl ?_
  refine zz_getR 17 C dX3_becomeLike_14 rfl fl_X3_15 sc_1 rfl ?_
  refine zz_iconst 18 C dX3_becomeLike_17 rfl zz_i0 ?_
  refine zz_bipush 20 C dX3_becomeLike_18 rfl zz_bp6 ?_
  refine zz_copy 23 C dX3_becomeLike_20 rfl cp_X3_55 sc_15 sc_6 (by decide) (zz_hcp (Nat.le_of_ble_eq_true rfl)) ?_
  refine zz_aload_n 24 C dX3_becomeLike_23 rfl 1 rfl ?_
  refine zz_getR 27 C dX3_becomeLike_24 rfl fl_X3_19 sc_2 rfl ?_
  refine zz_iconst 28 C dX3_becomeLike_27 rfl zz_i0 ?_
  refine zz_aload_n 29 C dX3_becomeLike_28 rfl 0 rfl ?_
  refine zz_getR 32 C dX3_becomeLike_29 rfl fl_X3_19 sc_1 rfl ?_
  refine zz_iconst 33 C dX3_becomeLike_32 rfl zz_i0 ?_
  refine zz_bipush 35 C dX3_becomeLike_33 rfl zz_bp6 ?_
  refine zz_copy 38 C dX3_becomeLike_35 rfl cp_X3_55 sc_16 sc_7 (by decide) (zz_hcp (Nat.le_of_ble_eq_true rfl)) ?_
  refine zz_aload_n 39 C dX3_becomeLike_38 rfl 1 rfl ?_
  refine zz_getR 42 C dX3_becomeLike_39 rfl fl_X3_22 sc_2 rfl ?_
  refine zz_iconst 43 C dX3_becomeLike_42 rfl zz_i0 ?_
  refine zz_aload_n 44 C dX3_becomeLike_43 rfl 0 rfl ?_
  refine zz_getR 47 C dX3_becomeLike_44 rfl fl_X3_22 sc_1 rfl ?_
  refine zz_iconst 48 C dX3_becomeLike_47 rfl zz_i0 ?_
  refine zz_bipush 50 C dX3_becomeLike_48 rfl zz_bp6 ?_
  refine zz_copy 53 C dX3_becomeLike_50 rfl cp_X3_55 sc_17 sc_8 (by decide) (zz_hcp (Nat.le_of_ble_eq_true rfl)) ?_
  refine zz_aload_n 54 C dX3_becomeLike_53 rfl 0 rfl ?_
  refine zz_aload_n 55 C dX3_becomeLike_54 rfl 1 rfl ?_
  refine zz_getI 58 C dX3_becomeLike_55 rfl fl_X3_25 sc_2 rfl ?_
  refine zz_putI 61 C dX3_becomeLike_58 rfl fl_X3_25 fs_X3_4 rfl rfl sc_1 rfl ?_
  refine zz_aload_n 62 C dX3_becomeLike_61 rfl 1 rfl ?_
  refine zz_getR 65 C dX3_becomeLike_62 rfl fl_X3_28 sc_2 rfl ?_
  refine zz_iconst 66 C dX3_becomeLike_65 rfl zz_i0 ?_
  refine zz_aload_n 67 C dX3_becomeLike_66 rfl 0 rfl ?_
  refine zz_getR 70 C dX3_becomeLike_67 rfl fl_X3_28 sc_1 rfl ?_
  refine zz_iconst 71 C dX3_becomeLike_70 rfl zz_i0 ?_
  refine zz_bipush 73 C dX3_becomeLike_71 rfl zz_bp6 ?_
  refine zz_copy 76 C dX3_becomeLike_73 rfl cp_X3_55 sc_18 sc_9 (by decide) (zz_hcp (Nat.le_of_ble_eq_true rfl)) ?_
  refine zz_aload_n 77 C dX3_becomeLike_76 rfl 1 rfl ?_
  refine zz_getR 80 C dX3_becomeLike_77 rfl fl_X3_31 sc_2 rfl ?_
  refine zz_iconst 81 C dX3_becomeLike_80 rfl zz_i0 ?_
  refine zz_aload_n 82 C dX3_becomeLike_81 rfl 0 rfl ?_
  refine zz_getR 85 C dX3_becomeLike_82 rfl fl_X3_31 sc_1 rfl ?_
  refine zz_iconst 86 C dX3_becomeLike_85 rfl zz_i0 ?_
  refine zz_bipush 88 C dX3_becomeLike_86 rfl zz_bp6 ?_
  refine zz_copy 91 C dX3_becomeLike_88 rfl cp_X3_55 sc_19 sc_10 (by decide) (zz_hcp (Nat.le_of_ble_eq_true rfl)) ?_
  refine zz_aload_n 92 C dX3_becomeLike_91 rfl 1 rfl ?_
  refine zz_getR 95 C dX3_becomeLike_92 rfl fl_X3_34 sc_2 rfl ?_
  refine zz_iconst 96 C dX3_becomeLike_95 rfl zz_i0 ?_
  refine zz_aload_n 97 C dX3_becomeLike_96 rfl 0 rfl ?_
  refine zz_getR 100 C dX3_becomeLike_97 rfl fl_X3_34 sc_1 rfl ?_
  refine zz_iconst 101 C dX3_becomeLike_100 rfl zz_i0 ?_
  refine zz_bipush 103 C dX3_becomeLike_101 rfl zz_bp6 ?_
  refine zz_copy 106 C dX3_becomeLike_103 rfl cp_X3_55 sc_20 sc_11 (by decide) (zz_hcp (Nat.le_of_ble_eq_true rfl)) ?_
  refine zz_aload_n 107 C dX3_becomeLike_106 rfl 0 rfl ?_
  refine zz_aload_n 108 C dX3_becomeLike_107 rfl 1 rfl ?_
  refine zz_getI 111 C dX3_becomeLike_108 rfl fl_X3_37 sc_2 rfl ?_
  refine zz_putI 114 C dX3_becomeLike_111 rfl fl_X3_37 fs_X3_8 rfl rfl sc_1 rfl ?_
  refine zz_aload_n 115 C dX3_becomeLike_114 rfl 1 rfl ?_
  refine zz_getR 118 C dX3_becomeLike_115 rfl fl_X3_40 sc_2 rfl ?_
  refine zz_iconst 119 C dX3_becomeLike_118 rfl zz_i0 ?_
  refine zz_aload_n 120 C dX3_becomeLike_119 rfl 0 rfl ?_
  refine zz_getR 123 C dX3_becomeLike_120 rfl fl_X3_40 sc_1 rfl ?_
  refine zz_iconst 124 C dX3_becomeLike_123 rfl zz_i0 ?_
  refine zz_bipush 126 C dX3_becomeLike_124 rfl zz_bp16 ?_
  refine zz_copy 129 C dX3_becomeLike_126 rfl cp_X3_55 sc_21 sc_12 (by decide) (zz_hcp (Nat.le_of_ble_eq_true rfl)) ?_
  refine zz_aload_n 130 C dX3_becomeLike_129 rfl 1 rfl ?_
  refine zz_getR 133 C dX3_becomeLike_130 rfl fl_X3_43 sc_2 rfl ?_
  refine zz_iconst 134 C dX3_becomeLike_133 rfl zz_i0 ?_
  refine zz_aload_n 135 C dX3_becomeLike_134 rfl 0 rfl ?_
  refine zz_getR 138 C dX3_becomeLike_135 rfl fl_X3_43 sc_1 rfl ?_
  refine zz_iconst 139 C dX3_becomeLike_138 rfl zz_i0 ?_
  refine zz_bipush 141 C dX3_becomeLike_139 rfl zz_bp16 ?_
  refine zz_copy 144 C dX3_becomeLike_141 rfl cp_X3_55 sc_22 sc_13 (by decide) (zz_hcp (Nat.le_of_ble_eq_true rfl)) ?_
  refine zz_aload_n 145 C dX3_becomeLike_144 rfl 1 rfl ?_
  refine zz_getR 148 C dX3_becomeLike_145 rfl fl_X3_46 sc_2 rfl ?_
  refine zz_iconst 149 C dX3_becomeLike_148 rfl zz_i0 ?_
  refine zz_aload_n 150 C dX3_becomeLike_149 rfl 0 rfl ?_
  refine zz_getR 153 C dX3_becomeLike_150 rfl fl_X3_46 sc_1 rfl ?_
  refine zz_iconst 154 C dX3_becomeLike_153 rfl zz_i0 ?_
  refine zz_bipush 156 C dX3_becomeLike_154 rfl zz_bp96 ?_
  refine zz_copy 159 C dX3_becomeLike_156 rfl cp_X3_55 sc_23 sc_14 (by decide) (zz_hcp (Nat.le_of_ble_eq_true rfl)) ?_
  cases hf
  exact zz_vret C dX3_becomeLike_159 rfl rfl
