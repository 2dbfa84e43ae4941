def f_X2_sizeOf (a1 : Int32) (M : zz_Mem) : Option (Int32 × zz_Mem) := (if zz_in a1 6 then some ((if 0 < (((M 28 a1.toNatClampNeg) - (M 27 a1.toNatClampNeg)) + 1) then ((M 28 a1.toNatClampNeg) - (M 27 a1.toNatClampNeg)) + 1 else 0), M) else none)
set_option maxHeartbeats 4000000 in
set_option maxRecDepth 100000 in
theorem k_X2_sizeOf {l : Launch} {D : va_G} {cI : ClassId} {ad : Nat → Nat} {a1 : Int32} {r : Int32} {M M1 : zz_Mem} (hf : f_X2_sizeOf a1 M = some (r, M1)) : zz_K l D zz_SC cI ad 1 yX2_sizeOf cX2_sizeOf 2 (some .int) [.ref (ad 4), .int a1] M (some (.int r)) M1 := by
  unfold f_X2_sizeOf at hf
  refine zz_entry (own := RX2) (L := [(0, .ref (ad 4)), (1, .int a1)]) (by decide +kernel) rfl (Nat.le_of_ble_eq_true rfl) rfl (fun p e s m args below meth c C => ?_)
  refine zz_iconst 1 C dX2_sizeOf_0 rfl zz_i0 ?_
  refine zz_aload_n 2 C dX2_sizeOf_1 rfl 0 rfl ?_
  refine zz_getR 5 C dX2_sizeOf_2 rfl fl_X2_15 sc_4 rfl ?_
  refine zz_iload_n 6 C dX2_sizeOf_5 rfl 1 rfl ?_
  obtain ⟨hi1, hf⟩ := zz_chk hf
  refine zz_iald 7 C sc_28 dX2_sizeOf_6 rfl hi1 ?_
  refine zz_aload_n 8 C dX2_sizeOf_7 rfl 0 rfl ?_
  refine zz_getR 11 C dX2_sizeOf_8 rfl fl_X2_9 sc_4 rfl ?_
  refine zz_iload_n 12 C dX2_sizeOf_11 rfl 1 rfl ?_
  refine zz_iald 13 C sc_27 dX2_sizeOf_12 rfl hi1 ?_
  refine zz_isub 14 C dX2_sizeOf_13 rfl ?_
  refine zz_iconst 15 C dX2_sizeOf_14 rfl zz_i1 ?_
  refine zz_iadd 16 C dX2_sizeOf_15 rfl ?_
  refine zz_max 19 C dX2_sizeOf_16 rfl mx_X2_21 ⟨Nat.le_of_ble_eq_true rfl, Nat.le_of_ble_eq_true rfl⟩ ?_
  cases hf
  exact zz_iret C dX2_sizeOf_19 rfl rfl
def f_X2_keepWithin (a1 a2 a3 : Int32) (M : zz_Mem) : Option (zz_Mem) := (if zz_in a1 6 then some (zz_up (zz_up M 27 a1.toNatClampNeg (if (M 27 a1.toNatClampNeg) < a2 then a2 else M 27 a1.toNatClampNeg)) 28 a1.toNatClampNeg (if a3 < ((zz_up M 27 a1.toNatClampNeg (if (M 27 a1.toNatClampNeg) < a2 then a2 else M 27 a1.toNatClampNeg)) 28 a1.toNatClampNeg) then a3 else (zz_up M 27 a1.toNatClampNeg (if (M 27 a1.toNatClampNeg) < a2 then a2 else M 27 a1.toNatClampNeg)) 28 a1.toNatClampNeg)) else none)
set_option maxHeartbeats 4000000 in
set_option maxRecDepth 100000 in
theorem k_X2_keepWithin {l : Launch} {D : va_G} {cI : ClassId} {ad : Nat → Nat} {a1 a2 a3 : Int32} {M M1 : zz_Mem} (hf : f_X2_keepWithin a1 a2 a3 M = some M1) : zz_K l D zz_SC cI ad 1 yX2_keepWithin cX2_keepWithin 4 none [.ref (ad 4), .int a1, .int a2, .int a3] M none M1 := by
  unfold f_X2_keepWithin at hf
  refine zz_entry (own := RX2) (L := [(0, .ref (ad 4)), (1, .int a1), (2, .int a2), (3, .int a3)]) (by decide +kernel) rfl (Nat.le_of_ble_eq_true rfl) rfl (fun p e s m args below meth c C => ?_)
  refine zz_aload_n 1 C dX2_keepWithin_0 rfl 0 rfl ?_
  refine zz_getR 4 C dX2_keepWithin_1 rfl fl_X2_9 sc_4 rfl ?_
  refine zz_iload_n 5 C dX2_keepWithin_4 rfl 1 rfl ?_
  refine zz_aload_n 6 C dX2_keepWithin_5 rfl 0 rfl ?_
  refine zz_getR 9 C dX2_keepWithin_6 rfl fl_X2_9 sc_4 rfl ?_
  refine zz_iload_n 10 C dX2_keepWithin_9 rfl 1 rfl ?_
  obtain ⟨hi1, hf⟩ := zz_chk hf
  refine zz_iald 11 C sc_27 dX2_keepWithin_10 rfl hi1 ?_
  refine zz_iload_n 12 C dX2_keepWithin_11 rfl 2 rfl ?_
  refine zz_max 15 C dX2_keepWithin_12 rfl mx_X2_21 ⟨Nat.le_of_ble_eq_true rfl, Nat.le_of_ble_eq_true rfl⟩ ?_
  refine zz_iast 16 C sc_27 dX2_keepWithin_15 rfl hi1 ?_
  refine zz_aload_n 17 C dX2_keepWithin_16 rfl 0 rfl ?_
  refine zz_getR 20 C dX2_keepWithin_17 rfl fl_X2_15 sc_4 rfl ?_
  refine zz_iload_n 21 C dX2_keepWithin_20 rfl 1 rfl ?_
  refine zz_aload_n 22 C dX2_keepWithin_21 rfl 0 rfl ?_
  refine zz_getR 25 C dX2_keepWithin_22 rfl fl_X2_15 sc_4 rfl ?_
  refine zz_iload_n 26 C dX2_keepWithin_25 rfl 1 rfl ?_
  refine zz_iald 27 C sc_28 dX2_keepWithin_26 rfl hi1 ?_
  refine zz_iload_n 28 C dX2_keepWithin_27 rfl 3 rfl ?_
  refine zz_min 31 C dX2_keepWithin_28 rfl mx_X2_67 ⟨Nat.le_of_ble_eq_true rfl, Nat.le_of_ble_eq_true rfl⟩ ?_
  refine zz_iast 32 C sc_28 dX2_keepWithin_31 rfl hi1 ?_
  cases hf
  exact zz_vret C dX2_keepWithin_32 rfl rfl
def f_X2_narrowAfter (a1 a2 a3 a4 : Int32) (M : zz_Mem) : Option (zz_Mem) := (if a2 = 1 then zz_b1 (f_X2_keepWithin a1 0 a3 M) (fun M3 => some M3) else (if a2 = 2 then zz_b1 (f_X2_keepWithin a1 a3 99 M) (fun M6 => some M6) else (if a2 = 3 then zz_b1 (f_X2_keepWithin a1 (if 0 < (a3 - a4) then a3 - a4 else 0) (if 0 < (a3 - a4) then a3 - a4 else 0) M) (fun M9 => some M9) else some M)))
set_option maxHeartbeats 4000000 in
set_option maxRecDepth 100000 in
theorem k_X2_narrowAfter {l : Launch} {D : va_G} {cI : ClassId} {ad : Nat → Nat} {a1 a2 a3 a4 : Int32} {M M1 : zz_Mem} (hf : f_X2_narrowAfter a1 a2 a3 a4 M = some M1) : zz_K l D zz_SC cI ad 2 yX2_narrowAfter cX2_narrowAfter 5 none [.ref (ad 4), .int a1, .int a2, .int a3, .int a4] M none M1 := by
  unfold f_X2_narrowAfter at hf
  refine zz_entry (own := RX2) (L := [(0, .ref (ad 4)), (1, .int a1), (2, .int a2), (3, .int a3), (4, .int a4)]) (by decide +kernel) rfl (Nat.le_of_ble_eq_true rfl) rfl (fun p e s m args below meth c C => ?_)
  refine zz_iload_n 1 C dX2_narrowAfter_0 rfl 2 rfl ?_
  by_cases h1 : a2 = 1
  · rw [if_pos h1] at hf
    refine zz_tabIn 28 C dX2_narrowAfter_1 h1 (by decide) (by decide) rfl rfl ?_
    refine zz_aload_n 29 C dX2_narrowAfter_28 rfl 0 rfl ?_
    refine zz_iload_n 30 C dX2_narrowAfter_29 rfl 1 rfl ?_
    refine zz_iconst 31 C dX2_narrowAfter_30 rfl zz_i0 ?_
    refine zz_iload_n 32 C dX2_narrowAfter_31 rfl 3 rfl ?_
    obtain ⟨M3, hc2, hf⟩ := zz_b1E hf
    refine zz_callV 35 [.int a1, .int 0, .int a3] C dX2_narrowAfter_32 rfl ml_X2_49 (k_X2_keepWithin hc2) sc_4 (vC := vwCl[2]) rfl rfl rfl rfl rfl (Nat.le_of_ble_eq_true rfl) (zz_hR (Nat.le_of_ble_eq_true rfl) (Nat.le_of_ble_eq_true rfl)) ?_
    refine zz_goto 73 C dX2_narrowAfter_35 rfl ?_
    cases hf
    exact zz_vret C dX2_narrowAfter_73 rfl rfl
  · rw [if_neg h1] at hf
    by_cases h4 : a2 = 2
    · rw [if_pos h4] at hf
      refine zz_tabIn 38 C dX2_narrowAfter_1 h4 (by decide) (by decide) rfl rfl ?_
      refine zz_aload_n 39 C dX2_narrowAfter_38 rfl 0 rfl ?_
      refine zz_iload_n 40 C dX2_narrowAfter_39 rfl 1 rfl ?_
      refine zz_iload_n 41 C dX2_narrowAfter_40 rfl 3 rfl ?_
      refine zz_bipush 43 C dX2_narrowAfter_41 rfl zz_bp99 ?_
      obtain ⟨M6, hc5, hf⟩ := zz_b1E hf
      refine zz_callV 46 [.int a1, .int a3, .int 99] C dX2_narrowAfter_43 rfl ml_X2_49 (k_X2_keepWithin hc5) sc_4 (vC := vwCl[2]) rfl rfl rfl rfl rfl (Nat.le_of_ble_eq_true rfl) (zz_hR (Nat.le_of_ble_eq_true rfl) (Nat.le_of_ble_eq_true rfl)) ?_
      refine zz_goto 73 C dX2_narrowAfter_46 rfl ?_
      cases hf
      exact zz_vret C dX2_narrowAfter_73 rfl rfl
    · rw [if_neg h4] at hf
      by_cases h7 : a2 = 3
      · rw [if_pos h7] at hf
        refine zz_tabIn 49 C dX2_narrowAfter_1 h7 (by decide) (by decide) rfl rfl ?_
        refine zz_aload_n 50 C dX2_narrowAfter_49 rfl 0 rfl ?_
        refine zz_iload_n 51 C dX2_narrowAfter_50 rfl 1 rfl ?_
        refine zz_iconst 52 C dX2_narrowAfter_51 rfl zz_i0 ?_
        refine zz_iload_n 53 C dX2_narrowAfter_52 rfl 3 rfl ?_
        refine zz_iload 55 C dX2_narrowAfter_53 rfl 4 rfl ?_
        refine zz_isub 56 C dX2_narrowAfter_55 rfl ?_
        refine zz_max 59 C dX2_narrowAfter_56 rfl mx_X2_21 ⟨Nat.le_of_ble_eq_true rfl, Nat.le_of_ble_eq_true rfl⟩ ?_
        refine zz_iconst 60 C dX2_narrowAfter_59 rfl zz_i0 ?_
        refine zz_iload_n 61 C dX2_narrowAfter_60 rfl 3 rfl ?_
        refine zz_iload 63 C dX2_narrowAfter_61 rfl 4 rfl ?_
        refine zz_isub 64 C dX2_narrowAfter_63 rfl ?_
        refine zz_max 67 C dX2_narrowAfter_64 rfl mx_X2_21 ⟨Nat.le_of_ble_eq_true rfl, Nat.le_of_ble_eq_true rfl⟩ ?_
        obtain ⟨M9, hc8, hf⟩ := zz_b1E hf
        refine zz_callV 70 [.int a1, .int (if 0 < (a3 - a4) then a3 - a4 else 0), .int (if 0 < (a3 - a4) then a3 - a4 else 0)] C dX2_narrowAfter_67 rfl ml_X2_49 (k_X2_keepWithin hc8) sc_4 (vC := vwCl[2]) rfl rfl rfl rfl rfl (Nat.le_of_ble_eq_true rfl) (zz_hR (Nat.le_of_ble_eq_true rfl) (Nat.le_of_ble_eq_true rfl)) ?_
        refine zz_goto 73 C dX2_narrowAfter_70 rfl ?_
        cases hf
        exact zz_vret C dX2_narrowAfter_73 rfl rfl
      · rw [if_neg h7] at hf
        have eh1 := lv_neT h1 (show (1 : Int32).toInt = 1 from by decide)
        have eh4 := lv_neT h4 (show (2 : Int32).toInt = 2 from by decide)
        have eh7 := lv_neT h7 (show (3 : Int32).toInt = 3 from by decide)
        refine zz_tabOut 73 C dX2_narrowAfter_1 (by omega) rfl ?_
        cases hf
        exact zz_vret C dX2_narrowAfter_73 rfl rfl
def f_X2_narrowBefore (a1 a2 a3 a4 : Int32) (M : zz_Mem) : Option (zz_Mem) := (if a2 = 1 then zz_b1 (f_X2_keepWithin a1 a3 99 M) (fun M3 => some M3) else (if a2 = 2 then zz_b1 (f_X2_keepWithin a1 0 a3 M) (fun M6 => some M6) else (if a2 = 3 then (if a3 = 0 then zz_b1 (f_X2_keepWithin a1 0 (a3 + a4) M) (fun M12 => some M12) else zz_b1 (f_X2_keepWithin a1 (a3 + a4) (a3 + a4) M) (fun M10 => some M10)) else some M)))
set_option maxHeartbeats 4000000 in
set_option maxRecDepth 100000 in
theorem k_X2_narrowBefore {l : Launch} {D : va_G} {cI : ClassId} {ad : Nat → Nat} {a1 a2 a3 a4 : Int32} {M M1 : zz_Mem} (hf : f_X2_narrowBefore a1 a2 a3 a4 M = some M1) : zz_K l D zz_SC cI ad 2 yX2_narrowBefore cX2_narrowBefore 5 none [.ref (ad 4), .int a1, .int a2, .int a3, .int a4] M none M1 := by
  unfold f_X2_narrowBefore at hf
  refine zz_entry (own := RX2) (L := [(0, .ref (ad 4)), (1, .int a1), (2, .int a2), (3, .int a3), (4, .int a4)]) (by decide +kernel) rfl (Nat.le_of_ble_eq_true rfl) rfl (fun p e s m args below meth c C => ?_)
  refine zz_iload_n 1 C dX2_narrowBefore_0 rfl 2 rfl ?_
  by_cases h1 : a2 = 1
  · rw [if_pos h1] at hf
    refine zz_tabIn 28 C dX2_narrowBefore_1 h1 (by decide) (by decide) rfl rfl ?_
    refine zz_aload_n 29 C dX2_narrowBefore_28 rfl 0 rfl ?_
    refine zz_iload_n 30 C dX2_narrowBefore_29 rfl 1 rfl ?_
    refine zz_iload_n 31 C dX2_narrowBefore_30 rfl 3 rfl ?_
    refine zz_bipush 33 C dX2_narrowBefore_31 rfl zz_bp99 ?_
    obtain ⟨M3, hc2, hf⟩ := zz_b1E hf
    refine zz_callV 36 [.int a1, .int a3, .int 99] C dX2_narrowBefore_33 rfl ml_X2_49 (k_X2_keepWithin hc2) sc_4 (vC := vwCl[2]) rfl rfl rfl rfl rfl (Nat.le_of_ble_eq_true rfl) (zz_hR (Nat.le_of_ble_eq_true rfl) (Nat.le_of_ble_eq_true rfl)) ?_
    refine zz_goto 73 C dX2_narrowBefore_36 rfl ?_
    cases hf
    exact zz_vret C dX2_narrowBefore_73 rfl rfl
  · rw [if_neg h1] at hf
    by_cases h4 : a2 = 2
    · rw [if_pos h4] at hf
      refine zz_tabIn 39 C dX2_narrowBefore_1 h4 (by decide) (by decide) rfl rfl ?_
      refine zz_aload_n 40 C dX2_narrowBefore_39 rfl 0 rfl ?_
      refine zz_iload_n 41 C dX2_narrowBefore_40 rfl 1 rfl ?_
      refine zz_iconst 42 C dX2_narrowBefore_41 rfl zz_i0 ?_
      refine zz_iload_n 43 C dX2_narrowBefore_42 rfl 3 rfl ?_
      obtain ⟨M6, hc5, hf⟩ := zz_b1E hf
      refine zz_callV 46 [.int a1, .int 0, .int a3] C dX2_narrowBefore_43 rfl ml_X2_49 (k_X2_keepWithin hc5) sc_4 (vC := vwCl[2]) rfl rfl rfl rfl rfl (Nat.le_of_ble_eq_true rfl) (zz_hR (Nat.le_of_ble_eq_true rfl) (Nat.le_of_ble_eq_true rfl)) ?_
      refine zz_goto 73 C dX2_narrowBefore_46 rfl ?_
      cases hf
      exact zz_vret C dX2_narrowBefore_73 rfl rfl
    · rw [if_neg h4] at hf
      by_cases h7 : a2 = 3
      · rw [if_pos h7] at hf
        refine zz_tabIn 49 C dX2_narrowBefore_1 h7 (by decide) (by decide) rfl rfl ?_
        refine zz_aload_n 50 C dX2_narrowBefore_49 rfl 0 rfl ?_
        refine zz_iload_n 51 C dX2_narrowBefore_50 rfl 1 rfl ?_
        refine zz_iload_n 52 C dX2_narrowBefore_51 rfl 3 rfl ?_
        refine zz_if_ne 55 59 C dX2_narrowBefore_52 rfl rfl hf (fun h8 hf => ?_) (fun h8 hf => ?_)
        · refine zz_iload_n 60 C dX2_narrowBefore_59 rfl 3 rfl ?_
          refine zz_iload 62 C dX2_narrowBefore_60 rfl 4 rfl ?_
          refine zz_iadd 63 C dX2_narrowBefore_62 rfl ?_
          refine zz_iload_n 64 C dX2_narrowBefore_63 rfl 3 rfl ?_
          refine zz_iload 66 C dX2_narrowBefore_64 rfl 4 rfl ?_
          refine zz_iadd 67 C dX2_narrowBefore_66 rfl ?_
          obtain ⟨M10, hc9, hf⟩ := zz_b1E hf
          refine zz_callV 70 [.int a1, .int (a3 + a4), .int (a3 + a4)] C dX2_narrowBefore_67 rfl ml_X2_49 (k_X2_keepWithin hc9) sc_4 (vC := vwCl[2]) rfl rfl rfl rfl rfl (Nat.le_of_ble_eq_true rfl) (zz_hR (Nat.le_of_ble_eq_true rfl) (Nat.le_of_ble_eq_true rfl)) ?_
          refine zz_goto 73 C dX2_narrowBefore_70 rfl ?_
          cases hf
          exact zz_vret C dX2_narrowBefore_73 rfl rfl
        · refine zz_iconst 56 C dX2_narrowBefore_55 rfl zz_i0 ?_
          refine zz_goto 63 C dX2_narrowBefore_56 rfl ?_
          refine zz_iload_n 64 C dX2_narrowBefore_63 rfl 3 rfl ?_
          refine zz_iload 66 C dX2_narrowBefore_64 rfl 4 rfl ?_
          refine zz_iadd 67 C dX2_narrowBefore_66 rfl ?_
          obtain ⟨M12, hc11, hf⟩ := zz_b1E hf
          refine zz_callV 70 [.int a1, .int 0, .int (a3 + a4)] C dX2_narrowBefore_67 rfl ml_X2_49 (k_X2_keepWithin hc11) sc_4 (vC := vwCl[2]) rfl rfl rfl rfl rfl (Nat.le_of_ble_eq_true rfl) (zz_hR (Nat.le_of_ble_eq_true rfl) (Nat.le_of_ble_eq_true rfl)) ?_
          refine zz_goto 73 C dX2_narrowBefore_70 rfl ?_
          cases hf
          exact zz_vret C dX2_narrowBefore_73 rfl rfl
      · rw [if_neg h7] at hf
        have eh1 := lv_neT h1 (show (1 : Int32).toInt = 1 from by decide)
        have eh4 := lv_neT h4 (show (2 : Int32).toInt = 2 from by decide)
        have eh7 := lv_neT h7 (show (3 : Int32).toInt = 3 from by decide)
        refine zz_tabOut 73 C dX2_narrowBefore_1 (by omega) rfl ?_
        cases hf
        exact zz_vret C dX2_narrowBefore_73 rfl rfl
def f_X2_narrowBy (a2 a3 a4 a5 : Int32) (M : zz_Mem) : Option (zz_Mem) := (if zz_in a3 6 then (if (M 9 a3.toNatClampNeg) = 0 then (if zz_in a2 6 then (if zz_in a4 6 then (if (M 6 a2.toNatClampNeg) = (M 6 a4.toNatClampNeg) then zz_b1 (f_X2_keepWithin a2 a5 a5 M) (fun M22 => some M22) else some M) else none) else none) else zz_b2 (f_X3_orderOf a4 a2 M) (fun r5 M4 => (if r5 = 1 then zz_b2 (f_X3_healedBetween a3 a4 a2 M4) (fun r9 M8 => zz_b1 (f_X2_narrowAfter a2 (M4 9 a3.toNatClampNeg) a5 r9 M8) (fun M11 => some M11)) else (if r5 = 2 then zz_b2 (f_X3_healedBetween a3 a2 a4 M4) (fun r15 M14 => zz_b1 (f_X2_narrowBefore a2 (M4 9 a3.toNatClampNeg) a5 r15 M14) (fun M17 => some M17)) else some M4)))) else none)
set_option maxHeartbeats 4000000 in
set_option maxRecDepth 100000 in
theorem k_X2_narrowBy {l : Launch} {D : va_G} {cI : ClassId} {ad : Nat → Nat} {a2 a3 a4 a5 : Int32} {M M1 : zz_Mem} (hf : f_X2_narrowBy a2 a3 a4 a5 M = some M1) : zz_K l D zz_SC cI ad 3 yX2_narrowBy cX2_narrowBy 6 none [.ref (ad 4), .ref (ad 1), .int a2, .int a3, .int a4, .int a5] M none M1 := by
  unfold f_X2_narrowBy at hf
  refine zz_entry (own := RX2) (L := [(0, .ref (ad 4)), (1, .ref (ad 1)), (2, .int a2), (3, .int a3), (4, .int a4), (5, .int a5)]) (by decide +kernel) rfl (Nat.le_of_ble_eq_true rfl) rfl (fun p e s m args below meth c C => ?_)
  refine zz_aload_n 1 C dX2_narrowBy_0 rfl 1 rfl ?_
  refine zz_getR 4 C dX2_narrowBy_1 rfl fl_X2_43 sc_1 rfl ?_
  refine zz_iload_n 5 C dX2_narrowBy_4 rfl 3 rfl ?_
  obtain ⟨hi1, hf⟩ := zz_chk hf
  refine zz_iald 6 C sc_9 dX2_narrowBy_5 rfl hi1 ?_
  refine zz_if_ne 9 35 C dX2_narrowBy_6 rfl rfl hf (fun h2 hf => ?_) (fun h2 hf => ?_)
  · refine zz_aload_n 36 C dX2_narrowBy_35 rfl 1 rfl ?_
    refine zz_iload 38 C dX2_narrowBy_36 rfl 4 rfl ?_
    refine zz_iload_n 39 C dX2_narrowBy_38 rfl 2 rfl ?_
    obtain ⟨r5, M4, hc3, hf⟩ := zz_b2E hf
    refine zz_callV 42 [.int a4, .int a2] C dX2_narrowBy_39 rfl ml_X2_53 (k_X3_orderOf hc3) sc_1 (vC := vwCl[3]) rfl rfl rfl rfl rfl (Nat.le_of_ble_eq_true rfl) (zz_hR (Nat.le_of_ble_eq_true rfl) (Nat.le_of_ble_eq_true rfl)) ?_
    by_cases h6 : r5 = 1
    · rw [if_pos h6] at hf
      refine zz_lookup 68 C dX2_narrowBy_42 (by decide) (by rw [h6]) rfl ?_
      refine zz_aload_n 69 C dX2_narrowBy_68 rfl 0 rfl ?_
      refine zz_iload_n 70 C dX2_narrowBy_69 rfl 2 rfl ?_
      refine zz_aload_n 71 C dX2_narrowBy_70 rfl 1 rfl ?_
      refine zz_getR 74 C dX2_narrowBy_71 rfl fl_X2_43 sc_1 rfl ?_
      refine zz_iload_n 75 C dX2_narrowBy_74 rfl 3 rfl ?_
      refine zz_iald 76 C sc_9 dX2_narrowBy_75 rfl hi1 ?_
      refine zz_iload 78 C dX2_narrowBy_76 rfl 5 rfl ?_
      refine zz_aload_n 79 C dX2_narrowBy_78 rfl 1 rfl ?_
      refine zz_iload_n 80 C dX2_narrowBy_79 rfl 3 rfl ?_
      refine zz_iload 82 C dX2_narrowBy_80 rfl 4 rfl ?_
      refine zz_iload_n 83 C dX2_narrowBy_82 rfl 2 rfl ?_
      obtain ⟨r9, M8, hc7, hf⟩ := zz_b2E hf
      refine zz_callV 86 [.int a3, .int a4, .int a2] C dX2_narrowBy_83 rfl ml_X2_56 (k_X3_healedBetween hc7) sc_1 (vC := vwCl[3]) rfl rfl rfl rfl rfl (Nat.le_of_ble_eq_true rfl) (zz_hR (Nat.le_of_ble_eq_true rfl) (Nat.le_of_ble_eq_true rfl)) ?_
      obtain ⟨M11, hc10, hf⟩ := zz_b1E hf
      refine zz_callV 89 [.int a2, .int (M4 9 a3.toNatClampNeg), .int a5, .int r9] C dX2_narrowBy_86 rfl ml_X2_60 (k_X2_narrowAfter hc10) sc_4 (vC := vwCl[2]) rfl rfl rfl rfl rfl (Nat.le_of_ble_eq_true rfl) (zz_hR (Nat.le_of_ble_eq_true rfl) (Nat.le_of_ble_eq_true rfl)) ?_
      refine zz_goto 116 C dX2_narrowBy_89 rfl ?_
      cases hf
      exact zz_vret C dX2_narrowBy_116 rfl rfl
    · rw [if_neg h6] at hf
      by_cases h12 : r5 = 2
      · rw [if_pos h12] at hf
        refine zz_lookup 92 C dX2_narrowBy_42 (by decide) (by rw [h12]) rfl ?_
        refine zz_aload_n 93 C dX2_narrowBy_92 rfl 0 rfl ?_
        refine zz_iload_n 94 C dX2_narrowBy_93 rfl 2 rfl ?_
        refine zz_aload_n 95 C dX2_narrowBy_94 rfl 1 rfl ?_
        refine zz_getR 98 C dX2_narrowBy_95 rfl fl_X2_43 sc_1 rfl ?_
        refine zz_iload_n 99 C dX2_narrowBy_98 rfl 3 rfl ?_
        refine zz_iald 100 C sc_9 dX2_narrowBy_99 rfl hi1 ?_
        refine zz_iload 102 C dX2_narrowBy_100 rfl 5 rfl ?_
        refine zz_aload_n 103 C dX2_narrowBy_102 rfl 1 rfl ?_
        refine zz_iload_n 104 C dX2_narrowBy_103 rfl 3 rfl ?_
        refine zz_iload_n 105 C dX2_narrowBy_104 rfl 2 rfl ?_
        refine zz_iload 107 C dX2_narrowBy_105 rfl 4 rfl ?_
        obtain ⟨r15, M14, hc13, hf⟩ := zz_b2E hf
        refine zz_callV 110 [.int a3, .int a2, .int a4] C dX2_narrowBy_107 rfl ml_X2_56 (k_X3_healedBetween hc13) sc_1 (vC := vwCl[3]) rfl rfl rfl rfl rfl (Nat.le_of_ble_eq_true rfl) (zz_hR (Nat.le_of_ble_eq_true rfl) (Nat.le_of_ble_eq_true rfl)) ?_
        obtain ⟨M17, hc16, hf⟩ := zz_b1E hf
        refine zz_callV 113 [.int a2, .int (M4 9 a3.toNatClampNeg), .int a5, .int r15] C dX2_narrowBy_110 rfl ml_X2_64 (k_X2_narrowBefore hc16) sc_4 (vC := vwCl[2]) rfl rfl rfl rfl rfl (Nat.le_of_ble_eq_true rfl) (zz_hR (Nat.le_of_ble_eq_true rfl) (Nat.le_of_ble_eq_true rfl)) ?_
        refine zz_goto 116 C dX2_narrowBy_113 rfl ?_
        cases hf
        exact zz_vret C dX2_narrowBy_116 rfl rfl
      · rw [if_neg h12] at hf
        refine zz_lookup 116 C dX2_narrowBy_42 (by decide) ((lv_osw h6 (by decide)).trans ((lv_osw h12 (by decide)).trans rfl)) rfl ?_
        cases hf
        exact zz_vret C dX2_narrowBy_116 rfl rfl
  · refine zz_aload_n 10 C dX2_narrowBy_9 rfl 1 rfl ?_
    refine zz_getR 13 C dX2_narrowBy_10 rfl fl_X2_46 sc_1 rfl ?_
    refine zz_iload_n 14 C dX2_narrowBy_13 rfl 2 rfl ?_
    obtain ⟨hi18, hf⟩ := zz_chk hf
    refine zz_iald 15 C sc_6 dX2_narrowBy_14 rfl hi18 ?_
    refine zz_aload_n 16 C dX2_narrowBy_15 rfl 1 rfl ?_
    refine zz_getR 19 C dX2_narrowBy_16 rfl fl_X2_46 sc_1 rfl ?_
    refine zz_iload 21 C dX2_narrowBy_19 rfl 4 rfl ?_
    obtain ⟨hi19, hf⟩ := zz_chk hf
    refine zz_iald 22 C sc_6 dX2_narrowBy_21 rfl hi19 ?_
    refine zz_icmp_ne 25 34 C dX2_narrowBy_22 rfl rfl hf (fun h20 hf => ?_) (fun h20 hf => ?_)
    · cases hf
      exact zz_vret C dX2_narrowBy_34 rfl rfl
    · refine zz_aload_n 26 C dX2_narrowBy_25 rfl 0 rfl ?_
      refine zz_iload_n 27 C dX2_narrowBy_26 rfl 2 rfl ?_
      refine zz_iload 29 C dX2_narrowBy_27 rfl 5 rfl ?_
      refine zz_iload 31 C dX2_narrowBy_29 rfl 5 rfl ?_
      obtain ⟨M22, hc21, hf⟩ := zz_b1E hf
      refine zz_callV 34 [.int a2, .int a5, .int a5] C dX2_narrowBy_31 rfl ml_X2_49 (k_X2_keepWithin hc21) sc_4 (vC := vwCl[2]) rfl rfl rfl rfl rfl (Nat.le_of_ble_eq_true rfl) (zz_hR (Nat.le_of_ble_eq_true rfl) (Nat.le_of_ble_eq_true rfl)) ?_
      cases hf
      exact zz_vret C dX2_narrowBy_34 rfl rfl
def f_X2_find_18 (x2 x3 : Int32) : Nat → Int32 → zz_Mem → Option (Int32 × zz_Mem)
  | 0, _, _ => none
  | n + 1, v4, M => (if (M 1 0) ≤ v4 then some (v4, M) else (if zz_in v4 6 then (if v4 = x2 then f_X2_find_18 x2 x3 n (v4 + 1) M else (if (M 8 v4.toNatClampNeg) = (-1) then f_X2_find_18 x2 x3 n (v4 + 1) M else zz_b2 (f_X3_measureOf (M 8 v4.toNatClampNeg) x3 M) (fun r8 M7 => (if r8 = (-1) then f_X2_find_18 x2 x3 n (v4 + 1) M7 else zz_b2 (f_X3_measureOf (M 8 v4.toNatClampNeg) x3 M7) (fun r12 M11 => zz_b1 (f_X2_narrowBy x2 x3 v4 r12 M11) (fun M14 => f_X2_find_18 x2 x3 n (v4 + 1) M14)))))) else none))
set_option maxHeartbeats 4000000 in
set_option maxRecDepth 100000 in
theorem l_X2_find_18 {p : Program} {l : Launch} {e : Env} {s : State} {m : MethodId} {args : Array Value} {below : List Frame} {meth : Method} {c : Code} {D : va_G} {cI : ClassId} {ad : Nat → Nat} {x2 x3 : Int32} {w : Option Value} {Mf : zz_Mem} (C : zz_C p (zz_rm 4) s m args meth c D cI RX2 cX2_find 6 none 0 0) {w4 : Int32} {M1 : zz_Mem} : ∀ {n : Nat} {v4 : Int32} {M : zz_Mem}, f_X2_find_18 x2 x3 n v4 M = some (w4, M1) → zz_V p l e (zz_rm 4) s m args below meth c D zz_SC cI ad (zz_A zz_SC ad) 6 0 0 (MQ below (zz_Q D zz_SC cI ad w Mf) args s 0 0 (zz_A zz_SC ad)) 81 [(0, .ref (ad 4)), (1, .ref (ad 1)), (2, .int x2), (3, .int x3), (4, .int w4)] [] M1 → zz_V p l e (zz_rm 4) s m args below meth c D zz_SC cI ad (zz_A zz_SC ad) 6 0 0 (MQ below (zz_Q D zz_SC cI ad w Mf) args s 0 0 (zz_A zz_SC ad)) 18 [(0, .ref (ad 4)), (1, .ref (ad 1)), (2, .int x2), (3, .int x3), (4, .int v4)] [] M := by
  intro n
  induction n with
  | zero =>
    intro v4 M hf
    simp [f_X2_find_18] at hf
  | succ n ih0 =>
    intro v4 M hf hex
    have ih := fun v4 M hf => @ih0 v4 M hf
    rw [f_X2_find_18] at hf
    refine zz_iload 20 C dX2_find_18 rfl 4 rfl ?_
    refine zz_aload_n 21 C dX2_find_20 rfl 1 rfl ?_
    refine zz_getI 24 C dX2_find_21 rfl fl_X2_27 sc_1 rfl ?_
    refine zz_icmp_ge 27 81 C dX2_find_24 rfl rfl hf (fun h2 hf => ?_) (fun h2 hf => ?_)
    · cases hf
      exact zz_sub [0, 1, 2, 3, 4] rfl hex
    · refine zz_aload_n 28 C dX2_find_27 rfl 1 rfl ?_
      refine zz_getR 31 C dX2_find_28 rfl fl_X2_33 sc_1 rfl ?_
      refine zz_iload 33 C dX2_find_31 rfl 4 rfl ?_
      obtain ⟨hi3, hf⟩ := zz_chk hf
      refine zz_iald 34 C sc_8 dX2_find_33 rfl hi3 ?_
      refine zz_istore (L' := [(5, .int (M 8 v4.toNatClampNeg)), (0, .ref (ad 4)), (1, .ref (ad 1)), (2, .int x2), (3, .int x3), (4, .int v4)]) 36 C dX2_find_34 rfl (Nat.le_of_ble_eq_true rfl) rfl ?_
      refine zz_iload 38 C dX2_find_36 rfl 5 rfl ?_
      refine zz_iload_n 39 C dX2_find_38 rfl 3 rfl ?_
      refine zz_icmp_eq 42 75 C dX2_find_39 rfl rfl hf (fun h4 hf => ?_) (fun h4 hf => ?_)
      · refine zz_iinc (L' := [(4, .int (v4 + 1)), (5, .int (M 8 v4.toNatClampNeg)), (0, .ref (ad 4)), (1, .ref (ad 1)), (2, .int x2), (3, .int x3)]) 78 C dX2_find_75 rfl zz_i1 5 rfl (Nat.le_of_ble_eq_true rfl) rfl ?_
        refine zz_goto 18 C dX2_find_78 rfl ?_
        exact zz_sub [2, 3, 4, 5, 0] rfl (ih _ _ hf hex)
      · refine zz_iload 44 C dX2_find_42 rfl 0 rfl ?_
        refine zz_iconst 45 C dX2_find_44 rfl zz_im1 ?_
        refine zz_icmp_eq 48 75 C dX2_find_45 rfl rfl hf (fun h5 hf => ?_) (fun h5 hf => ?_)
        · refine zz_iinc (L' := [(4, .int (v4 + 1)), (5, .int (M 8 v4.toNatClampNeg)), (0, .ref (ad 4)), (1, .ref (ad 1)), (2, .int x2), (3, .int x3)]) 78 C dX2_find_75 rfl zz_i1 5 rfl (Nat.le_of_ble_eq_true rfl) rfl ?_
          refine zz_goto 18 C dX2_find_78 rfl ?_
          exact zz_sub [2, 3, 4, 5, 0] rfl (ih _ _ hf hex)
        · refine zz_aload_n 49 C dX2_find_48 rfl 2 rfl ?_
          refine zz_iload 51 C dX2_find_49 rfl 0 rfl ?_
          refine zz_iload_n 52 C dX2_find_51 rfl 4 rfl ?_
          obtain ⟨r8, M7, hc6, hf⟩ := zz_b2E hf
          refine zz_callV 55 [.int (M 8 v4.toNatClampNeg), .int x3] C dX2_find_52 rfl ml_X2_36 (k_X3_measureOf hc6) sc_1 (vC := vwCl[3]) rfl rfl rfl rfl rfl (Nat.le_of_ble_eq_true rfl) (zz_hR (Nat.le_of_ble_eq_true rfl) (Nat.le_of_ble_eq_true rfl)) ?_
          refine zz_iconst 56 C dX2_find_55 rfl zz_im1 ?_
          refine zz_icmp_eq 59 75 C dX2_find_56 rfl rfl hf (fun h9 hf => ?_) (fun h9 hf => ?_)
          · refine zz_iinc (L' := [(4, .int (v4 + 1)), (5, .int (M 8 v4.toNatClampNeg)), (0, .ref (ad 4)), (1, .ref (ad 1)), (2, .int x2), (3, .int x3)]) 78 C dX2_find_75 rfl zz_i1 5 rfl (Nat.le_of_ble_eq_true rfl) rfl ?_
            refine zz_goto 18 C dX2_find_78 rfl ?_
            exact zz_sub [2, 3, 4, 5, 0] rfl (ih _ _ hf hex)
          · refine zz_aload_n 60 C dX2_find_59 rfl 1 rfl ?_
            refine zz_aload_n 61 C dX2_find_60 rfl 2 rfl ?_
            refine zz_iload_n 62 C dX2_find_61 rfl 3 rfl ?_
            refine zz_iload_n 63 C dX2_find_62 rfl 4 rfl ?_
            refine zz_iload 65 C dX2_find_63 rfl 5 rfl ?_
            refine zz_aload_n 66 C dX2_find_65 rfl 2 rfl ?_
            refine zz_iload 68 C dX2_find_66 rfl 0 rfl ?_
            refine zz_iload_n 69 C dX2_find_68 rfl 4 rfl ?_
            obtain ⟨r12, M11, hc10, hf⟩ := zz_b2E hf
            refine zz_callV 72 [.int (M 8 v4.toNatClampNeg), .int x3] C dX2_find_69 rfl ml_X2_36 (k_X3_measureOf hc10) sc_1 (vC := vwCl[3]) rfl rfl rfl rfl rfl (Nat.le_of_ble_eq_true rfl) (zz_hR (Nat.le_of_ble_eq_true rfl) (Nat.le_of_ble_eq_true rfl)) ?_
            obtain ⟨M14, hc13, hf⟩ := zz_b1E hf
            refine zz_callV 75 [.ref (ad 1), .int x2, .int x3, .int v4, .int r12] C dX2_find_72 rfl ml_X2_39 (k_X2_narrowBy hc13) sc_4 (vC := vwCl[2]) rfl rfl rfl rfl rfl (Nat.le_of_ble_eq_true rfl) (zz_hR (Nat.le_of_ble_eq_true rfl) (Nat.le_of_ble_eq_true rfl)) ?_
            refine zz_iinc (L' := [(4, .int (v4 + 1)), (5, .int (M 8 v4.toNatClampNeg)), (0, .ref (ad 4)), (1, .ref (ad 1)), (2, .int x2), (3, .int x3)]) 78 C dX2_find_75 rfl zz_i1 5 rfl (Nat.le_of_ble_eq_true rfl) rfl ?_
            refine zz_goto 18 C dX2_find_78 rfl ?_
            exact zz_sub [2, 3, 4, 5, 0] rfl (ih _ _ hf hex)
def f_X2_find (a2 a3 : Int32) (M : zz_Mem) : Option (zz_Mem) := (if zz_in a2 6 then zz_b2 (f_X2_find_18 a2 a3 5000 0 (zz_up (zz_up M 27 a2.toNatClampNeg 0) 28 a2.toNatClampNeg 99)) (fun w15 M16 => some M16) else none)
set_option maxHeartbeats 4000000 in
set_option maxRecDepth 100000 in
theorem k_X2_find {l : Launch} {D : va_G} {cI : ClassId} {ad : Nat → Nat} {a2 a3 : Int32} {M M1 : zz_Mem} (hf : f_X2_find a2 a3 M = some M1) : zz_K l D zz_SC cI ad 4 yX2_find cX2_find 6 none [.ref (ad 4), .ref (ad 1), .int a2, .int a3] M none M1 := by
  unfold f_X2_find at hf
  refine zz_entry (own := RX2) (L := [(0, .ref (ad 4)), (1, .ref (ad 1)), (2, .int a2), (3, .int a3)]) (by decide +kernel) rfl (Nat.le_of_ble_eq_true rfl) rfl (fun p e s m args below meth c C => ?_)
  refine zz_aload_n 1 C dX2_find_0 rfl 0 rfl ?_
  refine zz_getR 4 C dX2_find_1 rfl fl_X2_9 sc_4 rfl ?_
  refine zz_iload_n 5 C dX2_find_4 rfl 2 rfl ?_
  refine zz_iconst 6 C dX2_find_5 rfl zz_i0 ?_
  obtain ⟨hi1, hf⟩ := zz_chk hf
  refine zz_iast 7 C sc_27 dX2_find_6 rfl hi1 ?_
  refine zz_aload_n 8 C dX2_find_7 rfl 0 rfl ?_
  refine zz_getR 11 C dX2_find_8 rfl fl_X2_15 sc_4 rfl ?_
  refine zz_iload_n 12 C dX2_find_11 rfl 2 rfl ?_
  refine zz_bipush 14 C dX2_find_12 rfl zz_bp99 ?_
  refine zz_iast 15 C sc_28 dX2_find_14 rfl hi1 ?_
  refine zz_iconst 16 C dX2_find_15 rfl zz_i0 ?_
  refine zz_istore (L' := [(4, .int 0), (0, .ref (ad 4)), (1, .ref (ad 1)), (2, .int a2), (3, .int a3)]) 18 C dX2_find_16 rfl (Nat.le_of_ble_eq_true rfl) rfl ?_
  obtain ⟨w15, M16, hc17, hf⟩ := zz_b2E hf
  refine zz_sub [1, 2, 3, 4, 0] rfl (l_X2_find_18 C  hc17 ?_)
  cases hf
  exact zz_vret C dX2_find_81 rfl rfl
def f_X2_leastHighOf_5 (x1 : Int32) : Nat → Int32 → Int32 → zz_Mem → Option (Int32 × Int32 × zz_Mem)
  | 0, _, _, _ => none
  | n + 1, v2, v3, M => (if 6 ≤ v3 then some (v2, v3, M) else zz_b2 (f_X4_isIn x1 v3 M) (fun r4 M3 => (if r4 = 0 then f_X2_leastHighOf_5 x1 n v2 (v3 + 1) M3 else (if zz_in v3 6 then f_X2_leastHighOf_5 x1 n (if (M3 28 v3.toNatClampNeg) < v2 then M3 28 v3.toNatClampNeg else v2) (v3 + 1) M3 else none))))
set_option maxHeartbeats 4000000 in
set_option maxRecDepth 100000 in
theorem l_X2_leastHighOf_5 {p : Program} {l : Launch} {e : Env} {s : State} {m : MethodId} {args : Array Value} {below : List Frame} {meth : Method} {c : Code} {D : va_G} {cI : ClassId} {ad : Nat → Nat} {x1 : Int32} {w : Option Value} {Mf : zz_Mem} (C : zz_C p (zz_rm 1) s m args meth c D cI RX2 cX2_leastHighOf 4 (some .int) 0 0) {w2 w3 : Int32} {M1 : zz_Mem} : ∀ {n : Nat} {v2 v3 : Int32} {M : zz_Mem}, f_X2_leastHighOf_5 x1 n v2 v3 M = some (w2, w3, M1) → zz_V p l e (zz_rm 1) s m args below meth c D zz_SC cI ad (zz_A zz_SC ad) 4 0 0 (MQ below (zz_Q D zz_SC cI ad w Mf) args s 0 0 (zz_A zz_SC ad)) 36 [(0, .ref (ad 4)), (1, .int x1), (2, .int w2), (3, .int w3)] [] M1 → zz_V p l e (zz_rm 1) s m args below meth c D zz_SC cI ad (zz_A zz_SC ad) 4 0 0 (MQ below (zz_Q D zz_SC cI ad w Mf) args s 0 0 (zz_A zz_SC ad)) 5 [(0, .ref (ad 4)), (1, .int x1), (2, .int v2), (3, .int v3)] [] M := by
  intro n
  induction n with
  | zero =>
    intro v2 v3 M hf
    simp [f_X2_leastHighOf_5] at hf
  | succ n ih0 =>
    intro v2 v3 M hf hex
    have ih := fun v2 v3 M hf => @ih0 v2 v3 M hf
    rw [f_X2_leastHighOf_5] at hf
    refine zz_iload_n 6 C dX2_leastHighOf_5 rfl 3 rfl ?_
    refine zz_bipush 8 C dX2_leastHighOf_6 rfl zz_bp6 ?_
    refine zz_icmp_ge 11 36 C dX2_leastHighOf_8 rfl rfl hf (fun h1 hf => ?_) (fun h1 hf => ?_)
    · cases hf
      exact zz_sub [0, 1, 2, 3] rfl hex
    · refine zz_iload_n 12 C dX2_leastHighOf_11 rfl 1 rfl ?_
      refine zz_iload_n 13 C dX2_leastHighOf_12 rfl 3 rfl ?_
      obtain ⟨r4, M3, hc2, hf⟩ := zz_b2E hf
      refine zz_callS 16 [.int x1, .int v3] C dX2_leastHighOf_13 rfl ml_X2_70 (k_X4_isIn hc2) rfl rfl rfl (Nat.le_of_ble_eq_true rfl) (zz_hR (Nat.le_of_ble_eq_true rfl) (Nat.le_of_ble_eq_true rfl)) ?_
      refine zz_if_eq 19 30 C dX2_leastHighOf_16 rfl rfl hf (fun h5 hf => ?_) (fun h5 hf => ?_)
      · refine zz_iinc (L' := [(3, .int (v3 + 1)), (0, .ref (ad 4)), (1, .int x1), (2, .int v2)]) 33 C dX2_leastHighOf_30 rfl zz_i1 3 rfl (Nat.le_of_ble_eq_true rfl) rfl ?_
        refine zz_goto 5 C dX2_leastHighOf_33 rfl ?_
        exact zz_sub [1, 2, 3, 0] rfl (ih _ _ _ hf hex)
      · refine zz_iload_n 20 C dX2_leastHighOf_19 rfl 2 rfl ?_
        refine zz_aload_n 21 C dX2_leastHighOf_20 rfl 0 rfl ?_
        refine zz_getR 24 C dX2_leastHighOf_21 rfl fl_X2_15 sc_4 rfl ?_
        refine zz_iload_n 25 C dX2_leastHighOf_24 rfl 3 rfl ?_
        obtain ⟨hi6, hf⟩ := zz_chk hf
        refine zz_iald 26 C sc_28 dX2_leastHighOf_25 rfl hi6 ?_
        refine zz_min 29 C dX2_leastHighOf_26 rfl mx_X2_67 ⟨Nat.le_of_ble_eq_true rfl, Nat.le_of_ble_eq_true rfl⟩ ?_
        refine zz_istore_n (L' := [(2, .int (if (M3 28 v3.toNatClampNeg) < v2 then M3 28 v3.toNatClampNeg else v2)), (0, .ref (ad 4)), (1, .int x1), (3, .int v3)]) 30 C dX2_leastHighOf_29 rfl (Nat.le_of_ble_eq_true rfl) rfl ?_
        refine zz_iinc (L' := [(3, .int (v3 + 1)), (2, .int (if (M3 28 v3.toNatClampNeg) < v2 then M3 28 v3.toNatClampNeg else v2)), (0, .ref (ad 4)), (1, .int x1)]) 33 C dX2_leastHighOf_30 rfl zz_i1 3 rfl (Nat.le_of_ble_eq_true rfl) rfl ?_
        refine zz_goto 5 C dX2_leastHighOf_33 rfl ?_
        exact zz_sub [2, 3, 1, 0] rfl (ih _ _ _ hf hex)
def f_X2_leastHighOf (a1 : Int32) (M : zz_Mem) : Option (Int32 × zz_Mem) := zz_b3 (f_X2_leastHighOf_5 a1 5000 99 0 M) (fun w7 w8 M9 => some (w7, M9))
set_option maxHeartbeats 4000000 in
set_option maxRecDepth 100000 in
theorem k_X2_leastHighOf {l : Launch} {D : va_G} {cI : ClassId} {ad : Nat → Nat} {a1 : Int32} {r : Int32} {M M1 : zz_Mem} (hf : f_X2_leastHighOf a1 M = some (r, M1)) : zz_K l D zz_SC cI ad 1 yX2_leastHighOf cX2_leastHighOf 4 (some .int) [.ref (ad 4), .int a1] M (some (.int r)) M1 := by
  unfold f_X2_leastHighOf at hf
  refine zz_entry (own := RX2) (L := [(0, .ref (ad 4)), (1, .int a1)]) (by decide +kernel) rfl (Nat.le_of_ble_eq_true rfl) rfl (fun p e s m args below meth c C => ?_)
  refine zz_bipush 2 C dX2_leastHighOf_0 rfl zz_bp99 ?_
  refine zz_istore_n (L' := [(2, .int 99), (0, .ref (ad 4)), (1, .int a1)]) 3 C dX2_leastHighOf_2 rfl (Nat.le_of_ble_eq_true rfl) rfl ?_
  refine zz_iconst 4 C dX2_leastHighOf_3 rfl zz_i0 ?_
  refine zz_istore_n (L' := [(3, .int 0), (2, .int 99), (0, .ref (ad 4)), (1, .int a1)]) 5 C dX2_leastHighOf_4 rfl (Nat.le_of_ble_eq_true rfl) rfl ?_
  obtain ⟨w7, w8, M9, hc10, hf⟩ := zz_b3E hf
  refine zz_sub [2, 3, 1, 0] rfl (l_X2_leastHighOf_5 C  hc10 ?_)
  refine zz_iload_n 37 C dX2_leastHighOf_36 rfl 2 rfl ?_
  cases hf
  exact zz_iret C dX2_leastHighOf_37 rfl rfl
def f_X2_withoutServed_5 (x1 x2 : Int32) : Nat → Int32 → Int32 → zz_Mem → Option (Int32 × Int32 × zz_Mem)
  | 0, _, _, _ => none
  | n + 1, v3, v4, M => (if 6 ≤ v4 then some (v3, v4, M) else zz_b2 (f_X4_isIn x1 v4 M) (fun r4 M3 => (if r4 = 0 then f_X2_withoutServed_5 x1 x2 n v3 (v4 + 1) M3 else (if zz_in v4 6 then (if x2 < (M3 27 v4.toNatClampNeg) then f_X2_withoutServed_5 x1 x2 n v3 (v4 + 1) M3 else f_X2_withoutServed_5 x1 x2 n (v3 &&& ((1 <<< (v4 &&& 31)) ^^^ (-1))) (v4 + 1) M3) else none))))
set_option maxHeartbeats 4000000 in
set_option maxRecDepth 100000 in
theorem l_X2_withoutServed_5 {p : Program} {l : Launch} {e : Env} {s : State} {m : MethodId} {args : Array Value} {below : List Frame} {meth : Method} {c : Code} {D : va_G} {cI : ClassId} {ad : Nat → Nat} {x1 x2 : Int32} {w : Option Value} {Mf : zz_Mem} (C : zz_C p (zz_rm 1) s m args meth c D cI RX2 cX2_withoutServed 5 (some .int) 0 0) {w3 w4 : Int32} {M1 : zz_Mem} : ∀ {n : Nat} {v3 v4 : Int32} {M : zz_Mem}, f_X2_withoutServed_5 x1 x2 n v3 v4 M = some (w3, w4, M1) → zz_V p l e (zz_rm 1) s m args below meth c D zz_SC cI ad (zz_A zz_SC ad) 5 0 0 (MQ below (zz_Q D zz_SC cI ad w Mf) args s 0 0 (zz_A zz_SC ad)) 47 [(0, .ref (ad 4)), (1, .int x1), (2, .int x2), (3, .int w3), (4, .int w4)] [] M1 → zz_V p l e (zz_rm 1) s m args below meth c D zz_SC cI ad (zz_A zz_SC ad) 5 0 0 (MQ below (zz_Q D zz_SC cI ad w Mf) args s 0 0 (zz_A zz_SC ad)) 5 [(0, .ref (ad 4)), (1, .int x1), (2, .int x2), (3, .int v3), (4, .int v4)] [] M := by
  intro n
  induction n with
  | zero =>
    intro v3 v4 M hf
    simp [f_X2_withoutServed_5] at hf
  | succ n ih0 =>
    intro v3 v4 M hf hex
    have ih := fun v3 v4 M hf => @ih0 v3 v4 M hf
    rw [f_X2_withoutServed_5] at hf
    refine zz_iload 7 C dX2_withoutServed_5 rfl 4 rfl ?_
    refine zz_bipush 9 C dX2_withoutServed_7 rfl zz_bp6 ?_
    refine zz_icmp_ge 12 47 C dX2_withoutServed_9 rfl rfl hf (fun h1 hf => ?_) (fun h1 hf => ?_)
    · cases hf
      exact zz_sub [0, 1, 2, 3, 4] rfl hex
    · refine zz_iload_n 13 C dX2_withoutServed_12 rfl 1 rfl ?_
      refine zz_iload 15 C dX2_withoutServed_13 rfl 4 rfl ?_
      obtain ⟨r4, M3, hc2, hf⟩ := zz_b2E hf
      refine zz_callS 18 [.int x1, .int v4] C dX2_withoutServed_15 rfl ml_X2_70 (k_X4_isIn hc2) rfl rfl rfl (Nat.le_of_ble_eq_true rfl) (zz_hR (Nat.le_of_ble_eq_true rfl) (Nat.le_of_ble_eq_true rfl)) ?_
      refine zz_if_eq 21 41 C dX2_withoutServed_18 rfl rfl hf (fun h5 hf => ?_) (fun h5 hf => ?_)
      · refine zz_iinc (L' := [(4, .int (v4 + 1)), (0, .ref (ad 4)), (1, .int x1), (2, .int x2), (3, .int v3)]) 44 C dX2_withoutServed_41 rfl zz_i1 4 rfl (Nat.le_of_ble_eq_true rfl) rfl ?_
        refine zz_goto 5 C dX2_withoutServed_44 rfl ?_
        exact zz_sub [1, 2, 3, 4, 0] rfl (ih _ _ _ hf hex)
      · refine zz_aload_n 22 C dX2_withoutServed_21 rfl 0 rfl ?_
        refine zz_getR 25 C dX2_withoutServed_22 rfl fl_X2_9 sc_4 rfl ?_
        refine zz_iload 27 C dX2_withoutServed_25 rfl 4 rfl ?_
        obtain ⟨hi6, hf⟩ := zz_chk hf
        refine zz_iald 28 C sc_27 dX2_withoutServed_27 rfl hi6 ?_
        refine zz_iload_n 29 C dX2_withoutServed_28 rfl 2 rfl ?_
        refine zz_icmp_gt 32 41 C dX2_withoutServed_29 rfl rfl hf (fun h7 hf => ?_) (fun h7 hf => ?_)
        · refine zz_iinc (L' := [(4, .int (v4 + 1)), (0, .ref (ad 4)), (1, .int x1), (2, .int x2), (3, .int v3)]) 44 C dX2_withoutServed_41 rfl zz_i1 4 rfl (Nat.le_of_ble_eq_true rfl) rfl ?_
          refine zz_goto 5 C dX2_withoutServed_44 rfl ?_
          exact zz_sub [1, 2, 3, 4, 0] rfl (ih _ _ _ hf hex)
        · refine zz_iload_n 33 C dX2_withoutServed_32 rfl 3 rfl ?_
          refine zz_iconst 34 C dX2_withoutServed_33 rfl zz_i1 ?_
          refine zz_iload 36 C dX2_withoutServed_34 rfl 4 rfl ?_
          refine zz_ishl 37 C dX2_withoutServed_36 rfl ?_
          refine zz_iconst 38 C dX2_withoutServed_37 rfl zz_im1 ?_
          refine zz_ixor 39 C dX2_withoutServed_38 rfl ?_
          refine zz_iand 40 C dX2_withoutServed_39 rfl ?_
          refine zz_istore_n (L' := [(3, .int (v3 &&& ((1 <<< (v4 &&& 31)) ^^^ (-1)))), (0, .ref (ad 4)), (1, .int x1), (2, .int x2), (4, .int v4)]) 41 C dX2_withoutServed_40 rfl (Nat.le_of_ble_eq_true rfl) rfl ?_
          refine zz_iinc (L' := [(4, .int (v4 + 1)), (3, .int (v3 &&& ((1 <<< (v4 &&& 31)) ^^^ (-1)))), (0, .ref (ad 4)), (1, .int x1), (2, .int x2)]) 44 C dX2_withoutServed_41 rfl zz_i1 4 rfl (Nat.le_of_ble_eq_true rfl) rfl ?_
          refine zz_goto 5 C dX2_withoutServed_44 rfl ?_
          exact zz_sub [2, 3, 4, 1, 0] rfl (ih _ _ _ hf hex)
def f_X2_withoutServed (a1 a2 : Int32) (M : zz_Mem) : Option (Int32 × zz_Mem) := zz_b3 (f_X2_withoutServed_5 a1 a2 5000 a1 0 M) (fun w8 w9 M10 => some (w8, M10))
set_option maxHeartbeats 4000000 in
set_option maxRecDepth 100000 in
theorem k_X2_withoutServed {l : Launch} {D : va_G} {cI : ClassId} {ad : Nat → Nat} {a1 a2 : Int32} {r : Int32} {M M1 : zz_Mem} (hf : f_X2_withoutServed a1 a2 M = some (r, M1)) : zz_K l D zz_SC cI ad 1 yX2_withoutServed cX2_withoutServed 5 (some .int) [.ref (ad 4), .int a1, .int a2] M (some (.int r)) M1 := by
  unfold f_X2_withoutServed at hf
  refine zz_entry (own := RX2) (L := [(0, .ref (ad 4)), (1, .int a1), (2, .int a2)]) (by decide +kernel) rfl (Nat.le_of_ble_eq_true rfl) rfl (fun p e s m args below meth c C => ?_)
  refine zz_iload_n 1 C dX2_withoutServed_0 rfl 1 rfl ?_
  refine zz_istore_n (L' := [(3, .int a1), (0, .ref (ad 4)), (1, .int a1), (2, .int a2)]) 2 C dX2_withoutServed_1 rfl (Nat.le_of_ble_eq_true rfl) rfl ?_
  refine zz_iconst 3 C dX2_withoutServed_2 rfl zz_i0 ?_
  refine zz_istore (L' := [(4, .int 0), (3, .int a1), (0, .ref (ad 4)), (1, .int a1), (2, .int a2)]) 5 C dX2_withoutServed_3 rfl (Nat.le_of_ble_eq_true rfl) rfl ?_
  obtain ⟨w8, w9, M10, hc11, hf⟩ := zz_b3E hf
  refine zz_sub [2, 3, 4, 1, 0] rfl (l_X2_withoutServed_5 C  hc11 ?_)
  refine zz_iload_n 48 C dX2_withoutServed_47 rfl 3 rfl ?_
  cases hf
  exact zz_iret C dX2_withoutServed_48 rfl rfl
def f_X2_fillDoublesRow_4 (x1 : Int32) : Nat → Int32 → Int32 → zz_Mem → Option (Int32 × Int32 × zz_Mem)
  | 0, _, _, _ => none
  | n + 1, v2, v3, M => (if v2 = 0 then some (v2, v3, M) else (if 6 ≤ v3 then some (v2, v3, M) else zz_b2 (f_X2_leastHighOf v2 M) (fun r5 M4 => (if zz_in v3 6 then zz_b2 (f_X2_withoutServed v2 r5 (zz_up M4 29 v3.toNatClampNeg r5)) (fun r9 M8 => f_X2_fillDoublesRow_4 x1 n r9 (v3 + 1) M8) else none))))
set_option maxHeartbeats 4000000 in
set_option maxRecDepth 100000 in
theorem l_X2_fillDoublesRow_4 {p : Program} {l : Launch} {e : Env} {s : State} {m : MethodId} {args : Array Value} {below : List Frame} {meth : Method} {c : Code} {D : va_G} {cI : ClassId} {ad : Nat → Nat} {x1 : Int32} {w : Option Value} {Mf : zz_Mem} (C : zz_C p (zz_rm 2) s m args meth c D cI RX2 cX2_fillDoublesRow 5 (some .int) 0 0) {w2 w3 : Int32} {M1 : zz_Mem} : ∀ {n : Nat} {v2 v3 : Int32} {M : zz_Mem}, f_X2_fillDoublesRow_4 x1 n v2 v3 M = some (w2, w3, M1) → zz_V p l e (zz_rm 2) s m args below meth c D zz_SC cI ad (zz_A zz_SC ad) 5 0 0 (MQ below (zz_Q D zz_SC cI ad w Mf) args s 0 0 (zz_A zz_SC ad)) 43 [(0, .ref (ad 4)), (1, .int x1), (2, .int w2), (3, .int w3)] [] M1 → zz_V p l e (zz_rm 2) s m args below meth c D zz_SC cI ad (zz_A zz_SC ad) 5 0 0 (MQ below (zz_Q D zz_SC cI ad w Mf) args s 0 0 (zz_A zz_SC ad)) 4 [(0, .ref (ad 4)), (1, .int x1), (2, .int v2), (3, .int v3)] [] M := by
  intro n
  induction n with
  | zero =>
    intro v2 v3 M hf
    simp [f_X2_fillDoublesRow_4] at hf
  | succ n ih0 =>
    intro v2 v3 M hf hex
    have ih := fun v2 v3 M hf => @ih0 v2 v3 M hf
    rw [f_X2_fillDoublesRow_4] at hf
    refine zz_iload_n 5 C dX2_fillDoublesRow_4 rfl 2 rfl ?_
    refine zz_if_eq 8 43 C dX2_fillDoublesRow_5 rfl rfl hf (fun h1 hf => ?_) (fun h1 hf => ?_)
    · cases hf
      exact zz_sub [0, 1, 2, 3] rfl hex
    · refine zz_iload_n 9 C dX2_fillDoublesRow_8 rfl 3 rfl ?_
      refine zz_bipush 11 C dX2_fillDoublesRow_9 rfl zz_bp6 ?_
      refine zz_icmp_ge 14 43 C dX2_fillDoublesRow_11 rfl rfl hf (fun h2 hf => ?_) (fun h2 hf => ?_)
      · cases hf
        exact zz_sub [0, 1, 2, 3] rfl hex
      · refine zz_aload_n 15 C dX2_fillDoublesRow_14 rfl 0 rfl ?_
        refine zz_iload_n 16 C dX2_fillDoublesRow_15 rfl 2 rfl ?_
        obtain ⟨r5, M4, hc3, hf⟩ := zz_b2E hf
        refine zz_callV 19 [.int v2] C dX2_fillDoublesRow_16 rfl ml_X2_85 (k_X2_leastHighOf hc3) sc_4 (vC := vwCl[2]) rfl rfl rfl rfl rfl (Nat.le_of_ble_eq_true rfl) (zz_hR (Nat.le_of_ble_eq_true rfl) (Nat.le_of_ble_eq_true rfl)) ?_
        refine zz_istore (L' := [(4, .int r5), (0, .ref (ad 4)), (1, .int x1), (2, .int v2), (3, .int v3)]) 21 C dX2_fillDoublesRow_19 rfl (Nat.le_of_ble_eq_true rfl) rfl ?_
        refine zz_aload_n 22 C dX2_fillDoublesRow_21 rfl 1 rfl ?_
        refine zz_getR 25 C dX2_fillDoublesRow_22 rfl fl_X2_18 sc_4 rfl ?_
        refine zz_iload_n 26 C dX2_fillDoublesRow_25 rfl 4 rfl ?_
        refine zz_iload 28 C dX2_fillDoublesRow_26 rfl 0 rfl ?_
        obtain ⟨hi6, hf⟩ := zz_chk hf
        refine zz_iast 29 C sc_29 dX2_fillDoublesRow_28 rfl hi6 ?_
        refine zz_iinc (L' := [(3, .int (v3 + 1)), (4, .int r5), (0, .ref (ad 4)), (1, .int x1), (2, .int v2)]) 32 C dX2_fillDoublesRow_29 rfl zz_i1 4 rfl (Nat.le_of_ble_eq_true rfl) rfl ?_
        refine zz_aload_n 33 C dX2_fillDoublesRow_32 rfl 2 rfl ?_
        refine zz_iload_n 34 C dX2_fillDoublesRow_33 rfl 4 rfl ?_
        refine zz_iload 36 C dX2_fillDoublesRow_34 rfl 1 rfl ?_
        obtain ⟨r9, M8, hc7, hf⟩ := zz_b2E hf
        refine zz_callV 39 [.int v2, .int r5] C dX2_fillDoublesRow_36 rfl ml_X2_88 (k_X2_withoutServed hc7) sc_4 (vC := vwCl[2]) rfl rfl rfl rfl rfl (Nat.le_of_ble_eq_true rfl) (zz_hR (Nat.le_of_ble_eq_true rfl) (Nat.le_of_ble_eq_true rfl)) ?_
        refine zz_istore_n (L' := [(2, .int r9), (3, .int (v3 + 1)), (4, .int r5), (0, .ref (ad 4)), (1, .int x1)]) 40 C dX2_fillDoublesRow_39 rfl (Nat.le_of_ble_eq_true rfl) rfl ?_
        refine zz_goto 4 C dX2_fillDoublesRow_40 rfl ?_
        exact zz_sub [3, 4, 0, 1] rfl (ih _ _ _ hf hex)
def f_X2_fillDoublesRow (a1 : Int32) (M : zz_Mem) : Option (Int32 × zz_Mem) := zz_b3 (f_X2_fillDoublesRow_4 a1 5000 a1 0 M) (fun w10 w11 M12 => some (w11, M12))
set_option maxHeartbeats 4000000 in
set_option maxRecDepth 100000 in
theorem k_X2_fillDoublesRow {l : Launch} {D : va_G} {cI : ClassId} {ad : Nat → Nat} {a1 : Int32} {r : Int32} {M M1 : zz_Mem} (hf : f_X2_fillDoublesRow a1 M = some (r, M1)) : zz_K l D zz_SC cI ad 2 yX2_fillDoublesRow cX2_fillDoublesRow 5 (some .int) [.ref (ad 4), .int a1] M (some (.int r)) M1 := by
  unfold f_X2_fillDoublesRow at hf
  refine zz_entry (own := RX2) (L := [(0, .ref (ad 4)), (1, .int a1)]) (by decide +kernel) rfl (Nat.le_of_ble_eq_true rfl) rfl (fun p e s m args below meth c C => ?_)
  refine zz_iload_n 1 C dX2_fillDoublesRow_0 rfl 1 rfl ?_
  refine zz_istore_n (L' := [(2, .int a1), (0, .ref (ad 4)), (1, .int a1)]) 2 C dX2_fillDoublesRow_1 rfl (Nat.le_of_ble_eq_true rfl) rfl ?_
  refine zz_iconst 3 C dX2_fillDoublesRow_2 rfl zz_i0 ?_
  refine zz_istore_n (L' := [(3, .int 0), (2, .int a1), (0, .ref (ad 4)), (1, .int a1)]) 4 C dX2_fillDoublesRow_3 rfl (Nat.le_of_ble_eq_true rfl) rfl ?_
  obtain ⟨w10, w11, M12, hc13, hf⟩ := zz_b3E hf
  refine zz_sub [2, 3, 1, 0] rfl (l_X2_fillDoublesRow_4 C  hc13 ?_)
  refine zz_iload_n 44 C dX2_fillDoublesRow_43 rfl 3 rfl ?_
  cases hf
  exact zz_iret C dX2_fillDoublesRow_44 rfl rfl
def f_X2_findDoubles_3 (x2 x3 : Int32) : Nat → Int32 → zz_Mem → Option (Sum (Int32 × zz_Mem) (Int32 × zz_Mem))
  | 0, _, _ => none
  | n + 1, v4, M => (if (M 1 0) ≤ v4 then some (.inr (v4, M)) else zz_b2 (f_X4_isIn x3 v4 M) (fun r4 M3 => (if r4 = 0 then f_X2_findDoubles_3 x2 x3 n (v4 + 1) M3 else zz_b1 (f_X2_find v4 x2 M3) (fun M7 => zz_b2 (f_X2_sizeOf v4 M7) (fun r10 M9 => (if r10 = 0 then some (.inl ((-4), M9)) else f_X2_findDoubles_3 x2 x3 n (v4 + 1) M9))))))
set_option maxHeartbeats 4000000 in
set_option maxRecDepth 100000 in
theorem l_X2_findDoubles_3 {p : Program} {l : Launch} {e : Env} {s : State} {m : MethodId} {args : Array Value} {below : List Frame} {meth : Method} {c : Code} {D : va_G} {cI : ClassId} {ad : Nat → Nat} {x2 x3 : Int32} {w : Option Value} {Mf : zz_Mem} (C : zz_C p (zz_rm 5) s m args meth c D cI RX2 cX2_findDoubles 5 (some .int) 0 0) : ∀ {n : Nat} {v4 : Int32} {M : zz_Mem} {z : Sum (Int32 × zz_Mem) (Int32 × zz_Mem)}, f_X2_findDoubles_3 x2 x3 n v4 M = some z → (∀ r0 M0, z = .inl (r0, M0) → w = some (.int r0) ∧ Mf = M0) → (∀ w4 M1, z = .inr (w4, M1) → zz_V p l e (zz_rm 5) s m args below meth c D zz_SC cI ad (zz_A zz_SC ad) 5 0 0 (MQ below (zz_Q D zz_SC cI ad w Mf) args s 0 0 (zz_A zz_SC ad)) 47 [(0, .ref (ad 4)), (1, .ref (ad 1)), (2, .int x2), (3, .int x3), (4, .int w4)] [] M1) → zz_V p l e (zz_rm 5) s m args below meth c D zz_SC cI ad (zz_A zz_SC ad) 5 0 0 (MQ below (zz_Q D zz_SC cI ad w Mf) args s 0 0 (zz_A zz_SC ad)) 3 [(0, .ref (ad 4)), (1, .ref (ad 1)), (2, .int x2), (3, .int x3), (4, .int v4)] [] M := by
  intro n
  induction n with
  | zero =>
    intro v4 M z hf
    simp [f_X2_findDoubles_3] at hf
  | succ n ih0 =>
    intro v4 M z hf hret hex
    have ih := fun v4 M hf => @ih0 v4 M z hf
    rw [f_X2_findDoubles_3] at hf
    refine zz_iload 5 C dX2_findDoubles_3 rfl 4 rfl ?_
    refine zz_aload_n 6 C dX2_findDoubles_5 rfl 1 rfl ?_
    refine zz_getI 9 C dX2_findDoubles_6 rfl fl_X2_27 sc_1 rfl ?_
    refine zz_icmp_ge 12 47 C dX2_findDoubles_9 rfl rfl hf (fun h1 hf => ?_) (fun h1 hf => ?_)
    · cases hf
      exact zz_sub [0, 1, 2, 3, 4] rfl (hex _ _ rfl)
    · refine zz_iload_n 13 C dX2_findDoubles_12 rfl 3 rfl ?_
      refine zz_iload 15 C dX2_findDoubles_13 rfl 4 rfl ?_
      obtain ⟨r4, M3, hc2, hf⟩ := zz_b2E hf
      refine zz_callS 18 [.int x3, .int v4] C dX2_findDoubles_15 rfl ml_X2_70 (k_X4_isIn hc2) rfl rfl rfl (Nat.le_of_ble_eq_true rfl) (zz_hR (Nat.le_of_ble_eq_true rfl) (Nat.le_of_ble_eq_true rfl)) ?_
      refine zz_if_eq 21 41 C dX2_findDoubles_18 rfl rfl hf (fun h5 hf => ?_) (fun h5 hf => ?_)
      · refine zz_iinc (L' := [(4, .int (v4 + 1)), (0, .ref (ad 4)), (1, .ref (ad 1)), (2, .int x2), (3, .int x3)]) 44 C dX2_findDoubles_41 rfl zz_i1 4 rfl (Nat.le_of_ble_eq_true rfl) rfl ?_
        refine zz_goto 3 C dX2_findDoubles_44 rfl ?_
        exact zz_sub [1, 2, 3, 4, 0] rfl (ih _ _ hf hret hex)
      · refine zz_aload_n 22 C dX2_findDoubles_21 rfl 0 rfl ?_
        refine zz_aload_n 23 C dX2_findDoubles_22 rfl 1 rfl ?_
        refine zz_iload 25 C dX2_findDoubles_23 rfl 4 rfl ?_
        refine zz_iload_n 26 C dX2_findDoubles_25 rfl 2 rfl ?_
        obtain ⟨M7, hc6, hf⟩ := zz_b1E hf
        refine zz_callV 29 [.ref (ad 1), .int v4, .int x2] C dX2_findDoubles_26 rfl ml_X2_74 (k_X2_find hc6) sc_4 (vC := vwCl[2]) rfl rfl rfl rfl rfl (Nat.le_of_ble_eq_true rfl) (zz_hR (Nat.le_of_ble_eq_true rfl) (Nat.le_of_ble_eq_true rfl)) ?_
        refine zz_aload_n 30 C dX2_findDoubles_29 rfl 0 rfl ?_
        refine zz_iload 32 C dX2_findDoubles_30 rfl 4 rfl ?_
        obtain ⟨r10, M9, hc8, hf⟩ := zz_b2E hf
        refine zz_callV 35 [.int v4] C dX2_findDoubles_32 rfl ml_X2_78 (k_X2_sizeOf hc8) sc_4 (vC := vwCl[2]) rfl rfl rfl rfl rfl (Nat.le_of_ble_eq_true rfl) (zz_hR (Nat.le_of_ble_eq_true rfl) (Nat.le_of_ble_eq_true rfl)) ?_
        refine zz_if_ne 38 41 C dX2_findDoubles_35 rfl rfl hf (fun h11 hf => ?_) (fun h11 hf => ?_)
        · refine zz_iinc (L' := [(4, .int (v4 + 1)), (0, .ref (ad 4)), (1, .ref (ad 1)), (2, .int x2), (3, .int x3)]) 44 C dX2_findDoubles_41 rfl zz_i1 4 rfl (Nat.le_of_ble_eq_true rfl) rfl ?_
          refine zz_goto 3 C dX2_findDoubles_44 rfl ?_
          exact zz_sub [1, 2, 3, 4, 0] rfl (ih _ _ hf hret hex)
        · refine zz_bipush 40 C dX2_findDoubles_38 rfl zz_bpm4 ?_
          cases hf
          exact zz_iret C dX2_findDoubles_40 (hret _ _ rfl).1 (hret _ _ rfl).2
def f_X2_findDoubles (a2 a3 : Int32) (M : zz_Mem) : Option (Int32 × zz_Mem) := zz_bs2 (f_X2_findDoubles_3 a2 a3 5000 0 M) (fun w12 M13 => zz_b2 (f_X2_fillDoublesRow a3 M13) (fun r20 M19 => some (r20, M19)))
set_option maxHeartbeats 4000000 in
set_option maxRecDepth 100000 in
theorem k_X2_findDoubles {l : Launch} {D : va_G} {cI : ClassId} {ad : Nat → Nat} {a2 a3 : Int32} {r : Int32} {M M1 : zz_Mem} (hf : f_X2_findDoubles a2 a3 M = some (r, M1)) : zz_K l D zz_SC cI ad 5 yX2_findDoubles cX2_findDoubles 5 (some .int) [.ref (ad 4), .ref (ad 1), .int a2, .int a3] M (some (.int r)) M1 := by
  unfold f_X2_findDoubles at hf
  refine zz_entry (own := RX2) (L := [(0, .ref (ad 4)), (1, .ref (ad 1)), (2, .int a2), (3, .int a3)]) (by decide +kernel) rfl (Nat.le_of_ble_eq_true rfl) rfl (fun p e s m args below meth c C => ?_)
  refine zz_iconst 1 C dX2_findDoubles_0 rfl zz_i0 ?_
  refine zz_istore (L' := [(4, .int 0), (0, .ref (ad 4)), (1, .ref (ad 1)), (2, .int a2), (3, .int a3)]) 3 C dX2_findDoubles_1 rfl (Nat.le_of_ble_eq_true rfl) rfl ?_
  obtain ⟨z15, hc14, e16, e17⟩ := zz_bs2E hf
  refine zz_sub [1, 2, 3, 4, 0] rfl (l_X2_findDoubles_3 C  hc14 e16 (fun w12 M13 hz => ?_))
  replace hf := e17 _ _ hz
  refine zz_aload_n 48 C dX2_findDoubles_47 rfl 0 rfl ?_
  refine zz_iload_n 49 C dX2_findDoubles_48 rfl 3 rfl ?_
  obtain ⟨r20, M19, hc18, hf⟩ := zz_b2E hf
  refine zz_callV 52 [.int a3] C dX2_findDoubles_49 rfl ml_X2_82 (k_X2_fillDoublesRow hc18) sc_4 (vC := vwCl[2]) rfl rfl rfl rfl rfl (Nat.le_of_ble_eq_true rfl) (zz_hR (Nat.le_of_ble_eq_true rfl) (Nat.le_of_ble_eq_true rfl)) ?_
  cases hf
  exact zz_iret C dX2_findDoubles_52 rfl rfl
