def f_X4_isBetween (a0 a1 a2 : Int32) (M : zz_Mem) : Option (Int32 × zz_Mem) := (if a0 < a1 then some (0, M) else (if a2 < a0 then some (0, M) else some (1, M)))
set_option maxHeartbeats 4000000 in
set_option maxRecDepth 100000 in
theorem k_X4_isBetween {l : Launch} {D : va_G} {cI : ClassId} {ad : Nat → Nat} {S : List zz_Sh} {a0 a1 a2 : Int32} {r : Int32} {M M1 : zz_Mem} (hf : f_X4_isBetween a0 a1 a2 M = some (r, M1)) : zz_K l D S cI ad 0 yX4_isBetween cX4_isBetween 3 (some .boolean) [.int a0, .int a1, .int a2] M (some (.int r)) M1 := by
  unfold f_X4_isBetween at hf
  refine zz_entry (own := RX4) (L := [(0, .int a0), (1, .int a1), (2, .int a2)]) (by decide +kernel) rfl (Nat.le_of_ble_eq_true rfl) rfl (fun p e s m args below meth c C => ?_)
  refine zz_iload_n 1 C dX4_isBetween_0 rfl 0 rfl ?_
  refine zz_iload_n 2 C dX4_isBetween_1 rfl 1 rfl ?_
  refine zz_icmp_lt 5 14 C dX4_isBetween_2 rfl rfl hf (fun h1 hf => ?_) (fun h1 hf => ?_)
  · refine zz_iconst 15 C dX4_isBetween_14 rfl zz_i0 ?_
    cases hf
    exact zz_zret C dX4_isBetween_15 rfl rfl (by decide)
  · refine zz_iload_n 6 C dX4_isBetween_5 rfl 0 rfl ?_
    refine zz_iload_n 7 C dX4_isBetween_6 rfl 2 rfl ?_
    refine zz_icmp_gt 10 14 C dX4_isBetween_7 rfl rfl hf (fun h2 hf => ?_) (fun h2 hf => ?_)
    · refine zz_iconst 15 C dX4_isBetween_14 rfl zz_i0 ?_
      cases hf
      exact zz_zret C dX4_isBetween_15 rfl rfl (by decide)
    · refine zz_iconst 11 C dX4_isBetween_10 rfl zz_i1 ?_
      refine zz_goto 15 C dX4_isBetween_11 rfl ?_
      cases hf
      exact zz_zret C dX4_isBetween_15 rfl rfl (by decide)
def f_X4_isDayAndPlace (a0 a1 : Int32) (M : zz_Mem) : Option (Int32 × zz_Mem) := zz_b2 (f_X4_isBetween a0 0 99 M) (fun r3 M2 => (if r3 = 0 then some (0, M2) else zz_b2 (f_X4_isBetween a1 0 99 M2) (fun r7 M6 => (if r7 = 0 then some (0, M6) else some (1, M6)))))
set_option maxHeartbeats 4000000 in
set_option maxRecDepth 100000 in
theorem k_X4_isDayAndPlace {l : Launch} {D : va_G} {cI : ClassId} {ad : Nat → Nat} {S : List zz_Sh} {a0 a1 : Int32} {r : Int32} {M M1 : zz_Mem} (hf : f_X4_isDayAndPlace a0 a1 M = some (r, M1)) : zz_K l D S cI ad 1 yX4_isDayAndPlace cX4_isDayAndPlace 2 (some .boolean) [.int a0, .int a1] M (some (.int r)) M1 := by
  unfold f_X4_isDayAndPlace at hf
  refine zz_entry (own := RX4) (L := [(0, .int a0), (1, .int a1)]) (by decide +kernel) rfl (Nat.le_of_ble_eq_true rfl) rfl (fun p e s m args below meth c C => ?_)
  refine zz_iload_n 1 C dX4_isDayAndPlace_0 rfl 0 rfl ?_
  refine zz_iconst 2 C dX4_isDayAndPlace_1 rfl zz_i0 ?_
  refine zz_bipush 4 C dX4_isDayAndPlace_2 rfl zz_bp99 ?_
  obtain ⟨r3, M2, hc1, hf⟩ := zz_b2E hf
  refine zz_callS 7 [.int a0, .int 0, .int 99] C dX4_isDayAndPlace_4 rfl ml_X4_70 (k_X4_isBetween hc1) rfl rfl rfl (Nat.le_of_ble_eq_true rfl) (zz_hR (Nat.le_of_ble_eq_true rfl) (Nat.le_of_ble_eq_true rfl)) ?_
  refine zz_if_eq 10 24 C dX4_isDayAndPlace_7 rfl rfl hf (fun h4 hf => ?_) (fun h4 hf => ?_)
  · refine zz_iconst 25 C dX4_isDayAndPlace_24 rfl zz_i0 ?_
    cases hf
    exact zz_zret C dX4_isDayAndPlace_25 rfl rfl (by decide)
  · refine zz_iload_n 11 C dX4_isDayAndPlace_10 rfl 1 rfl ?_
    refine zz_iconst 12 C dX4_isDayAndPlace_11 rfl zz_i0 ?_
    refine zz_bipush 14 C dX4_isDayAndPlace_12 rfl zz_bp99 ?_
    obtain ⟨r7, M6, hc5, hf⟩ := zz_b2E hf
    refine zz_callS 17 [.int a1, .int 0, .int 99] C dX4_isDayAndPlace_14 rfl ml_X4_70 (k_X4_isBetween hc5) rfl rfl rfl (Nat.le_of_ble_eq_true rfl) (zz_hR (Nat.le_of_ble_eq_true rfl) (Nat.le_of_ble_eq_true rfl)) ?_
    refine zz_if_eq 20 24 C dX4_isDayAndPlace_17 rfl rfl hf (fun h8 hf => ?_) (fun h8 hf => ?_)
    · refine zz_iconst 25 C dX4_isDayAndPlace_24 rfl zz_i0 ?_
      cases hf
      exact zz_zret C dX4_isDayAndPlace_25 rfl rfl (by decide)
    · refine zz_iconst 21 C dX4_isDayAndPlace_20 rfl zz_i1 ?_
      refine zz_goto 25 C dX4_isDayAndPlace_21 rfl ?_
      cases hf
      exact zz_zret C dX4_isDayAndPlace_25 rfl rfl (by decide)
def f_X4_isLawWithRate (a0 a1 : Int32) (M : zz_Mem) : Option (Int32 × zz_Mem) := (if a0 = 3 then zz_b2 (f_X4_isBetween a1 1 9 M) (fun r9 M8 => (if r9 &&& 1 = r9 then some (r9, M8) else none)) else zz_b2 (f_X4_isBetween a0 0 2 M) (fun r4 M3 => (if r4 = 0 then some (0, M3) else (if a1 = 0 then some (1, M3) else some (0, M3)))))
set_option maxHeartbeats 4000000 in
set_option maxRecDepth 100000 in
theorem k_X4_isLawWithRate {l : Launch} {D : va_G} {cI : ClassId} {ad : Nat → Nat} {S : List zz_Sh} {a0 a1 : Int32} {r : Int32} {M M1 : zz_Mem} (hf : f_X4_isLawWithRate a0 a1 M = some (r, M1)) : zz_K l D S cI ad 1 yX4_isLawWithRate cX4_isLawWithRate 2 (some .boolean) [.int a0, .int a1] M (some (.int r)) M1 := by
  unfold f_X4_isLawWithRate at hf
  refine zz_entry (own := RX4) (L := [(0, .int a0), (1, .int a1)]) (by decide +kernel) rfl (Nat.le_of_ble_eq_true rfl) rfl (fun p e s m args below meth c C => ?_)
  refine zz_iload_n 1 C dX4_isLawWithRate_0 rfl 0 rfl ?_
  refine zz_iconst 2 C dX4_isLawWithRate_1 rfl zz_i3 ?_
  refine zz_icmp_ne 5 13 C dX4_isLawWithRate_2 rfl rfl hf (fun h1 hf => ?_) (fun h1 hf => ?_)
  · refine zz_iload_n 14 C dX4_isLawWithRate_13 rfl 0 rfl ?_
    refine zz_iconst 15 C dX4_isLawWithRate_14 rfl zz_i0 ?_
    refine zz_iconst 16 C dX4_isLawWithRate_15 rfl zz_i2 ?_
    obtain ⟨r4, M3, hc2, hf⟩ := zz_b2E hf
    refine zz_callS 19 [.int a0, .int 0, .int 2] C dX4_isLawWithRate_16 rfl ml_X4_70 (k_X4_isBetween hc2) rfl rfl rfl (Nat.le_of_ble_eq_true rfl) (zz_hR (Nat.le_of_ble_eq_true rfl) (Nat.le_of_ble_eq_true rfl)) ?_
    refine zz_if_eq 22 30 C dX4_isLawWithRate_19 rfl rfl hf (fun h5 hf => ?_) (fun h5 hf => ?_)
    · refine zz_iconst 31 C dX4_isLawWithRate_30 rfl zz_i0 ?_
      cases hf
      exact zz_zret C dX4_isLawWithRate_31 rfl rfl (by decide)
    · refine zz_iload_n 23 C dX4_isLawWithRate_22 rfl 1 rfl ?_
      refine zz_if_ne 26 30 C dX4_isLawWithRate_23 rfl rfl hf (fun h6 hf => ?_) (fun h6 hf => ?_)
      · refine zz_iconst 31 C dX4_isLawWithRate_30 rfl zz_i0 ?_
        cases hf
        exact zz_zret C dX4_isLawWithRate_31 rfl rfl (by decide)
      · refine zz_iconst 27 C dX4_isLawWithRate_26 rfl zz_i1 ?_
        refine zz_goto 31 C dX4_isLawWithRate_27 rfl ?_
        cases hf
        exact zz_zret C dX4_isLawWithRate_31 rfl rfl (by decide)
  · refine zz_iload_n 6 C dX4_isLawWithRate_5 rfl 1 rfl ?_
    refine zz_iconst 7 C dX4_isLawWithRate_6 rfl zz_i1 ?_
    refine zz_bipush 9 C dX4_isLawWithRate_7 rfl zz_bp9 ?_
    obtain ⟨r9, M8, hc7, hf⟩ := zz_b2E hf
    refine zz_callS 12 [.int a1, .int 1, .int 9] C dX4_isLawWithRate_9 rfl ml_X4_70 (k_X4_isBetween hc7) rfl rfl rfl (Nat.le_of_ble_eq_true rfl) (zz_hR (Nat.le_of_ble_eq_true rfl) (Nat.le_of_ble_eq_true rfl)) ?_
    obtain ⟨hz10, hf⟩ := zz_chk hf
    cases hf
    exact zz_zret C dX4_isLawWithRate_12 rfl rfl hz10
def f_X4_isIn (a0 a1 : Int32) (M : zz_Mem) : Option (Int32 × zz_Mem) := (if ((a0 >>> (a1 &&& 31)) &&& 1) = 0 then some (0, M) else some (1, M))
set_option maxHeartbeats 4000000 in
set_option maxRecDepth 100000 in
theorem k_X4_isIn {l : Launch} {D : va_G} {cI : ClassId} {ad : Nat → Nat} {S : List zz_Sh} {a0 a1 : Int32} {r : Int32} {M M1 : zz_Mem} (hf : f_X4_isIn a0 a1 M = some (r, M1)) : zz_K l D S cI ad 0 yX4_isIn cX4_isIn 2 (some .boolean) [.int a0, .int a1] M (some (.int r)) M1 := by
  unfold f_X4_isIn at hf
  refine zz_entry (own := RX4) (L := [(0, .int a0), (1, .int a1)]) (by decide +kernel) rfl (Nat.le_of_ble_eq_true rfl) rfl (fun p e s m args below meth c C => ?_)
  refine zz_iload_n 1 C dX4_isIn_0 rfl 0 rfl ?_
  refine zz_iload_n 2 C dX4_isIn_1 rfl 1 rfl ?_
  refine zz_ishr 3 C dX4_isIn_2 rfl ?_
  refine zz_iconst 4 C dX4_isIn_3 rfl zz_i1 ?_
  refine zz_iand 5 C dX4_isIn_4 rfl ?_
  refine zz_if_eq 8 12 C dX4_isIn_5 rfl rfl hf (fun h1 hf => ?_) (fun h1 hf => ?_)
  · refine zz_iconst 13 C dX4_isIn_12 rfl zz_i0 ?_
    cases hf
    exact zz_zret C dX4_isIn_13 rfl rfl (by decide)
  · refine zz_iconst 9 C dX4_isIn_8 rfl zz_i1 ?_
    refine zz_goto 13 C dX4_isIn_9 rfl ?_
    cases hf
    exact zz_zret C dX4_isIn_13 rfl rfl (by decide)
def f_X4_orNone (a0 : Int32) (M : zz_Mem) : Option (Int32 × zz_Mem) := (if a0 = (-1) then some ((-4), M) else some (a0, M))
set_option maxHeartbeats 4000000 in
set_option maxRecDepth 100000 in
theorem k_X4_orNone {l : Launch} {D : va_G} {cI : ClassId} {ad : Nat → Nat} {S : List zz_Sh} {a0 : Int32} {r : Int32} {M M1 : zz_Mem} (hf : f_X4_orNone a0 M = some (r, M1)) : zz_K l D S cI ad 0 yX4_orNone cX4_orNone 1 (some .int) [.int a0] M (some (.int r)) M1 := by
  unfold f_X4_orNone at hf
  refine zz_entry (own := RX4) (L := [(0, .int a0)]) (by decide +kernel) rfl (Nat.le_of_ble_eq_true rfl) rfl (fun p e s m args below meth c C => ?_)
  refine zz_iload_n 1 C dX4_orNone_0 rfl 0 rfl ?_
  refine zz_iconst 2 C dX4_orNone_1 rfl zz_im1 ?_
  refine zz_icmp_ne 5 10 C dX4_orNone_2 rfl rfl hf (fun h1 hf => ?_) (fun h1 hf => ?_)
  · refine zz_iload_n 11 C dX4_orNone_10 rfl 0 rfl ?_
    cases hf
    exact zz_iret C dX4_orNone_11 rfl rfl
  · refine zz_bipush 7 C dX4_orNone_5 rfl zz_bpm4 ?_
    refine zz_goto 11 C dX4_orNone_7 rfl ?_
    cases hf
    exact zz_iret C dX4_orNone_11 rfl rfl
def f_X3_isScene (a1 : Int32) (M : zz_Mem) : Option (Int32 × zz_Mem) := (if a1 < 0 then some (0, M) else (if (M 1 0) ≤ a1 then some (0, M) else some (1, M)))
set_option maxHeartbeats 4000000 in
set_option maxRecDepth 100000 in
theorem k_X3_isScene {l : Launch} {D : va_G} {cI : ClassId} {ad : Nat → Nat} {a1 : Int32} {r : Int32} {M M1 : zz_Mem} (hf : f_X3_isScene a1 M = some (r, M1)) : zz_K l D zz_SC cI ad 0 yX3_isScene cX3_isScene 2 (some .boolean) [.ref (ad 1), .int a1] M (some (.int r)) M1 := by
  unfold f_X3_isScene at hf
  refine zz_entry (own := RX3) (L := [(0, .ref (ad 1)), (1, .int a1)]) (by decide +kernel) rfl (Nat.le_of_ble_eq_true rfl) rfl (fun p e s m args below meth c C => ?_)
  refine zz_iload_n 1 C dX3_isScene_0 rfl 1 rfl ?_
  refine zz_if_lt 4 16 C dX3_isScene_1 rfl rfl hf (fun h1 hf => ?_) (fun h1 hf => ?_)
  · refine zz_iconst 17 C dX3_isScene_16 rfl zz_i0 ?_
    cases hf
    exact zz_zret C dX3_isScene_17 rfl rfl (by decide)
  · refine zz_iload_n 5 C dX3_isScene_4 rfl 1 rfl ?_
    refine zz_aload_n 6 C dX3_isScene_5 rfl 0 rfl ?_
    refine zz_getI 9 C dX3_isScene_6 rfl fl_X3_9 sc_1 rfl ?_
    refine zz_icmp_ge 12 16 C dX3_isScene_9 rfl rfl hf (fun h2 hf => ?_) (fun h2 hf => ?_)
    · refine zz_iconst 17 C dX3_isScene_16 rfl zz_i0 ?_
      cases hf
      exact zz_zret C dX3_isScene_17 rfl rfl (by decide)
    · refine zz_iconst 13 C dX3_isScene_12 rfl zz_i1 ?_
      refine zz_goto 17 C dX3_isScene_13 rfl ?_
      cases hf
      exact zz_zret C dX3_isScene_17 rfl rfl (by decide)
def f_X3_isThing (a1 : Int32) (M : zz_Mem) : Option (Int32 × zz_Mem) := (if a1 < 0 then some (0, M) else (if (M 1 4) ≤ a1 then some (0, M) else some (1, M)))
set_option maxHeartbeats 4000000 in
set_option maxRecDepth 100000 in
theorem k_X3_isThing {l : Launch} {D : va_G} {cI : ClassId} {ad : Nat → Nat} {a1 : Int32} {r : Int32} {M M1 : zz_Mem} (hf : f_X3_isThing a1 M = some (r, M1)) : zz_K l D zz_SC cI ad 0 yX3_isThing cX3_isThing 2 (some .boolean) [.ref (ad 1), .int a1] M (some (.int r)) M1 := by
  unfold f_X3_isThing at hf
  refine zz_entry (own := RX3) (L := [(0, .ref (ad 1)), (1, .int a1)]) (by decide +kernel) rfl (Nat.le_of_ble_eq_true rfl) rfl (fun p e s m args below meth c C => ?_)
  refine zz_iload_n 1 C dX3_isThing_0 rfl 1 rfl ?_
  refine zz_if_lt 4 16 C dX3_isThing_1 rfl rfl hf (fun h1 hf => ?_) (fun h1 hf => ?_)
  · refine zz_iconst 17 C dX3_isThing_16 rfl zz_i0 ?_
    cases hf
    exact zz_zret C dX3_isThing_17 rfl rfl (by decide)
  · refine zz_iload_n 5 C dX3_isThing_4 rfl 1 rfl ?_
    refine zz_aload_n 6 C dX3_isThing_5 rfl 0 rfl ?_
    refine zz_getI 9 C dX3_isThing_6 rfl fl_X3_25 sc_1 rfl ?_
    refine zz_icmp_ge 12 16 C dX3_isThing_9 rfl rfl hf (fun h2 hf => ?_) (fun h2 hf => ?_)
    · refine zz_iconst 17 C dX3_isThing_16 rfl zz_i0 ?_
      cases hf
      exact zz_zret C dX3_isThing_17 rfl rfl (by decide)
    · refine zz_iconst 13 C dX3_isThing_12 rfl zz_i1 ?_
      refine zz_goto 17 C dX3_isThing_13 rfl ?_
      cases hf
      exact zz_zret C dX3_isThing_17 rfl rfl (by decide)
def f_X3_isTake (a1 : Int32) (M : zz_Mem) : Option (Int32 × zz_Mem) := (if a1 < 0 then some (0, M) else (if (M 1 8) ≤ a1 then some (0, M) else some (1, M)))
set_option maxHeartbeats 4000000 in
set_option maxRecDepth 100000 in
theorem k_X3_isTake {l : Launch} {D : va_G} {cI : ClassId} {ad : Nat → Nat} {a1 : Int32} {r : Int32} {M M1 : zz_Mem} (hf : f_X3_isTake a1 M = some (r, M1)) : zz_K l D zz_SC cI ad 0 yX3_isTake cX3_isTake 2 (some .boolean) [.ref (ad 1), .int a1] M (some (.int r)) M1 := by
  unfold f_X3_isTake at hf
  refine zz_entry (own := RX3) (L := [(0, .ref (ad 1)), (1, .int a1)]) (by decide +kernel) rfl (Nat.le_of_ble_eq_true rfl) rfl (fun p e s m args below meth c C => ?_)
  refine zz_iload_n 1 C dX3_isTake_0 rfl 1 rfl ?_
  refine zz_if_lt 4 16 C dX3_isTake_1 rfl rfl hf (fun h1 hf => ?_) (fun h1 hf => ?_)
  · refine zz_iconst 17 C dX3_isTake_16 rfl zz_i0 ?_
    cases hf
    exact zz_zret C dX3_isTake_17 rfl rfl (by decide)
  · refine zz_iload_n 5 C dX3_isTake_4 rfl 1 rfl ?_
    refine zz_aload_n 6 C dX3_isTake_5 rfl 0 rfl ?_
    refine zz_getI 9 C dX3_isTake_6 rfl fl_X3_37 sc_1 rfl ?_
    refine zz_icmp_ge 12 16 C dX3_isTake_9 rfl rfl hf (fun h2 hf => ?_) (fun h2 hf => ?_)
    · refine zz_iconst 17 C dX3_isTake_16 rfl zz_i0 ?_
      cases hf
      exact zz_zret C dX3_isTake_17 rfl rfl (by decide)
    · refine zz_iconst 13 C dX3_isTake_12 rfl zz_i1 ?_
      refine zz_goto 17 C dX3_isTake_13 rfl ?_
      cases hf
      exact zz_zret C dX3_isTake_17 rfl rfl (by decide)
def f_X3_isSetOfScenes (a1 : Int32) (M : zz_Mem) : Option (Int32 × zz_Mem) := (if a1 < 0 then some (0, M) else (if (1 <<< ((M 1 0) &&& 31)) ≤ a1 then some (0, M) else some (1, M)))
set_option maxHeartbeats 4000000 in
set_option maxRecDepth 100000 in
theorem k_X3_isSetOfScenes {l : Launch} {D : va_G} {cI : ClassId} {ad : Nat → Nat} {a1 : Int32} {r : Int32} {M M1 : zz_Mem} (hf : f_X3_isSetOfScenes a1 M = some (r, M1)) : zz_K l D zz_SC cI ad 0 yX3_isSetOfScenes cX3_isSetOfScenes 2 (some .boolean) [.ref (ad 1), .int a1] M (some (.int r)) M1 := by
  unfold f_X3_isSetOfScenes at hf
  refine zz_entry (own := RX3) (L := [(0, .ref (ad 1)), (1, .int a1)]) (by decide +kernel) rfl (Nat.le_of_ble_eq_true rfl) rfl (fun p e s m args below meth c C => ?_)
  refine zz_iload_n 1 C dX3_isSetOfScenes_0 rfl 1 rfl ?_
  refine zz_if_lt 4 18 C dX3_isSetOfScenes_1 rfl rfl hf (fun h1 hf => ?_) (fun h1 hf => ?_)
  · refine zz_iconst 19 C dX3_isSetOfScenes_18 rfl zz_i0 ?_
    cases hf
    exact zz_zret C dX3_isSetOfScenes_19 rfl rfl (by decide)
  · refine zz_iload_n 5 C dX3_isSetOfScenes_4 rfl 1 rfl ?_
    refine zz_iconst 6 C dX3_isSetOfScenes_5 rfl zz_i1 ?_
    refine zz_aload_n 7 C dX3_isSetOfScenes_6 rfl 0 rfl ?_
    refine zz_getI 10 C dX3_isSetOfScenes_7 rfl fl_X3_9 sc_1 rfl ?_
    refine zz_ishl 11 C dX3_isSetOfScenes_10 rfl ?_
    refine zz_icmp_ge 14 18 C dX3_isSetOfScenes_11 rfl rfl hf (fun h2 hf => ?_) (fun h2 hf => ?_)
    · refine zz_iconst 19 C dX3_isSetOfScenes_18 rfl zz_i0 ?_
      cases hf
      exact zz_zret C dX3_isSetOfScenes_19 rfl rfl (by decide)
    · refine zz_iconst 15 C dX3_isSetOfScenes_14 rfl zz_i1 ?_
      refine zz_goto 19 C dX3_isSetOfScenes_15 rfl ?_
      cases hf
      exact zz_zret C dX3_isSetOfScenes_19 rfl rfl (by decide)
def f_X3_addScene (a1 a2 : Int32) (M : zz_Mem) : Option (Int32 × zz_Mem) := (if zz_in (M 1 0) 6 then some (M 1 0, zz_up (zz_up (zz_up M 6 ((M 1 0).toNatClampNeg) a1) 7 ((M 1 0).toNatClampNeg) a2) 1 0 (((zz_up (zz_up M 6 ((M 1 0).toNatClampNeg) a1) 7 ((M 1 0).toNatClampNeg) a2) 1 0) + 1)) else none)
set_option maxHeartbeats 4000000 in
set_option maxRecDepth 100000 in
theorem k_X3_addScene {l : Launch} {D : va_G} {cI : ClassId} {ad : Nat → Nat} {a1 a2 : Int32} {r : Int32} {M M1 : zz_Mem} (hf : f_X3_addScene a1 a2 M = some (r, M1)) : zz_K l D zz_SC cI ad 0 yX3_addScene cX3_addScene 4 (some .int) [.ref (ad 1), .int a1, .int a2] M (some (.int r)) M1 := by
  unfold f_X3_addScene at hf
  refine zz_entry (own := RX3) (L := [(0, .ref (ad 1)), (1, .int a1), (2, .int a2)]) (by decide +kernel) rfl (Nat.le_of_ble_eq_true rfl) rfl (fun p e s m args below meth c C => ?_)
  refine zz_aload_n 1 C dX3_addScene_0 rfl 0 rfl ?_
  refine zz_getI 4 C dX3_addScene_1 rfl fl_X3_9 sc_1 rfl ?_
  refine zz_istore_n (L' := [(3, .int (M 1 0)), (0, .ref (ad 1)), (1, .int a1), (2, .int a2)]) 5 C dX3_addScene_4 rfl (Nat.le_of_ble_eq_true rfl) rfl ?_
  refine zz_aload_n 6 C dX3_addScene_5 rfl 1 rfl ?_
  refine zz_getR 9 C dX3_addScene_6 rfl fl_X3_15 sc_1 rfl ?_
  refine zz_iload_n 10 C dX3_addScene_9 rfl 0 rfl ?_
  refine zz_iload_n 11 C dX3_addScene_10 rfl 2 rfl ?_
  obtain ⟨hi1, hf⟩ := zz_chk hf
  refine zz_iast 12 C sc_6 dX3_addScene_11 rfl hi1 ?_
  refine zz_aload_n 13 C dX3_addScene_12 rfl 1 rfl ?_
  refine zz_getR 16 C dX3_addScene_13 rfl fl_X3_19 sc_1 rfl ?_
  refine zz_iload_n 17 C dX3_addScene_16 rfl 0 rfl ?_
  refine zz_iload_n 18 C dX3_addScene_17 rfl 3 rfl ?_
  refine zz_iast 19 C sc_7 dX3_addScene_18 rfl hi1 ?_
  refine zz_aload_n 20 C dX3_addScene_19 rfl 1 rfl ?_
  refine zz_dup 21 C dX3_addScene_20 rfl rfl ?_
  refine zz_getI 24 C dX3_addScene_21 rfl fl_X3_9 sc_1 rfl ?_
  refine zz_iconst 25 C dX3_addScene_24 rfl zz_i1 ?_
  refine zz_iadd 26 C dX3_addScene_25 rfl ?_
  refine zz_putI 29 C dX3_addScene_26 rfl fl_X3_9 fs_X3_0 rfl rfl sc_1 rfl ?_
  refine zz_iload_n 30 C dX3_addScene_29 rfl 0 rfl ?_
  cases hf
  exact zz_iret C dX3_addScene_30 rfl rfl
def f_X3_addThing (a1 a2 a3 : Int32) (M : zz_Mem) : Option (Int32 × zz_Mem) := (if zz_in (M 1 4) 6 then some (M 1 4, zz_up (zz_up (zz_up (zz_up M 9 ((M 1 4).toNatClampNeg) a1) 10 ((M 1 4).toNatClampNeg) a2) 11 ((M 1 4).toNatClampNeg) a3) 1 4 (((zz_up (zz_up (zz_up M 9 ((M 1 4).toNatClampNeg) a1) 10 ((M 1 4).toNatClampNeg) a2) 11 ((M 1 4).toNatClampNeg) a3) 1 4) + 1)) else none)
set_option maxHeartbeats 4000000 in
set_option maxRecDepth 100000 in
theorem k_X3_addThing {l : Launch} {D : va_G} {cI : ClassId} {ad : Nat → Nat} {a1 a2 a3 : Int32} {r : Int32} {M M1 : zz_Mem} (hf : f_X3_addThing a1 a2 a3 M = some (r, M1)) : zz_K l D zz_SC cI ad 0 yX3_addThing cX3_addThing 5 (some .int) [.ref (ad 1), .int a1, .int a2, .int a3] M (some (.int r)) M1 := by
  unfold f_X3_addThing at hf
  refine zz_entry (own := RX3) (L := [(0, .ref (ad 1)), (1, .int a1), (2, .int a2), (3, .int a3)]) (by decide +kernel) rfl (Nat.le_of_ble_eq_true rfl) rfl (fun p e s m args below meth c C => ?_)
  refine zz_aload_n 1 C dX3_addThing_0 rfl 0 rfl ?_
  refine zz_getI 4 C dX3_addThing_1 rfl fl_X3_25 sc_1 rfl ?_
  refine zz_istore (L' := [(4, .int (M 1 4)), (0, .ref (ad 1)), (1, .int a1), (2, .int a2), (3, .int a3)]) 6 C dX3_addThing_4 rfl (Nat.le_of_ble_eq_true rfl) rfl ?_
  refine zz_aload_n 7 C dX3_addThing_6 rfl 1 rfl ?_
  refine zz_getR 10 C dX3_addThing_7 rfl fl_X3_28 sc_1 rfl ?_
  refine zz_iload 12 C dX3_addThing_10 rfl 0 rfl ?_
  refine zz_iload_n 13 C dX3_addThing_12 rfl 2 rfl ?_
  obtain ⟨hi1, hf⟩ := zz_chk hf
  refine zz_iast 14 C sc_9 dX3_addThing_13 rfl hi1 ?_
  refine zz_aload_n 15 C dX3_addThing_14 rfl 1 rfl ?_
  refine zz_getR 18 C dX3_addThing_15 rfl fl_X3_31 sc_1 rfl ?_
  refine zz_iload 20 C dX3_addThing_18 rfl 0 rfl ?_
  refine zz_iload_n 21 C dX3_addThing_20 rfl 3 rfl ?_
  refine zz_iast 22 C sc_10 dX3_addThing_21 rfl hi1 ?_
  refine zz_aload_n 23 C dX3_addThing_22 rfl 1 rfl ?_
  refine zz_getR 26 C dX3_addThing_23 rfl fl_X3_34 sc_1 rfl ?_
  refine zz_iload 28 C dX3_addThing_26 rfl 0 rfl ?_
  refine zz_iload_n 29 C dX3_addThing_28 rfl 4 rfl ?_
  refine zz_iast 30 C sc_11 dX3_addThing_29 rfl hi1 ?_
  refine zz_aload_n 31 C dX3_addThing_30 rfl 1 rfl ?_
  refine zz_dup 32 C dX3_addThing_31 rfl rfl ?_
  refine zz_getI 35 C dX3_addThing_32 rfl fl_X3_25 sc_1 rfl ?_
  refine zz_iconst 36 C dX3_addThing_35 rfl zz_i1 ?_
  refine zz_iadd 37 C dX3_addThing_36 rfl ?_
  refine zz_putI 40 C dX3_addThing_37 rfl fl_X3_25 fs_X3_4 rfl rfl sc_1 rfl ?_
  refine zz_iload 42 C dX3_addThing_40 rfl 0 rfl ?_
  cases hf
  exact zz_iret C dX3_addThing_42 rfl rfl
def f_X3_addTake (a1 a2 : Int32) (M : zz_Mem) : Option (Int32 × zz_Mem) := (if zz_in (M 1 8) 16 then some (M 1 8, zz_up (zz_up (zz_up M 12 ((M 1 8).toNatClampNeg) a1) 13 ((M 1 8).toNatClampNeg) a2) 1 8 (((zz_up (zz_up M 12 ((M 1 8).toNatClampNeg) a1) 13 ((M 1 8).toNatClampNeg) a2) 1 8) + 1)) else none)
set_option maxHeartbeats 4000000 in
set_option maxRecDepth 100000 in
theorem k_X3_addTake {l : Launch} {D : va_G} {cI : ClassId} {ad : Nat → Nat} {a1 a2 : Int32} {r : Int32} {M M1 : zz_Mem} (hf : f_X3_addTake a1 a2 M = some (r, M1)) : zz_K l D zz_SC cI ad 0 yX3_addTake cX3_addTake 4 (some .int) [.ref (ad 1), .int a1, .int a2] M (some (.int r)) M1 := by
  unfold f_X3_addTake at hf
  refine zz_entry (own := RX3) (L := [(0, .ref (ad 1)), (1, .int a1), (2, .int a2)]) (by decide +kernel) rfl (Nat.le_of_ble_eq_true rfl) rfl (fun p e s m args below meth c C => ?_)
  refine zz_aload_n 1 C dX3_addTake_0 rfl 0 rfl ?_
  refine zz_getI 4 C dX3_addTake_1 rfl fl_X3_37 sc_1 rfl ?_
  refine zz_istore_n (L' := [(3, .int (M 1 8)), (0, .ref (ad 1)), (1, .int a1), (2, .int a2)]) 5 C dX3_addTake_4 rfl (Nat.le_of_ble_eq_true rfl) rfl ?_
  refine zz_aload_n 6 C dX3_addTake_5 rfl 1 rfl ?_
  refine zz_getR 9 C dX3_addTake_6 rfl fl_X3_40 sc_1 rfl ?_
  refine zz_iload_n 10 C dX3_addTake_9 rfl 0 rfl ?_
  refine zz_iload_n 11 C dX3_addTake_10 rfl 2 rfl ?_
  obtain ⟨hi1, hf⟩ := zz_chk hf
  refine zz_iast 12 C sc_12 dX3_addTake_11 rfl hi1 ?_
  refine zz_aload_n 13 C dX3_addTake_12 rfl 1 rfl ?_
  refine zz_getR 16 C dX3_addTake_13 rfl fl_X3_43 sc_1 rfl ?_
  refine zz_iload_n 17 C dX3_addTake_16 rfl 0 rfl ?_
  refine zz_iload_n 18 C dX3_addTake_17 rfl 3 rfl ?_
  refine zz_iast 19 C sc_13 dX3_addTake_18 rfl hi1 ?_
  refine zz_aload_n 20 C dX3_addTake_19 rfl 1 rfl ?_
  refine zz_dup 21 C dX3_addTake_20 rfl rfl ?_
  refine zz_getI 24 C dX3_addTake_21 rfl fl_X3_37 sc_1 rfl ?_
  refine zz_iconst 25 C dX3_addTake_24 rfl zz_i1 ?_
  refine zz_iadd 26 C dX3_addTake_25 rfl ?_
  refine zz_putI 29 C dX3_addTake_26 rfl fl_X3_37 fs_X3_8 rfl rfl sc_1 rfl ?_
  refine zz_iload_n 30 C dX3_addTake_29 rfl 0 rfl ?_
  cases hf
  exact zz_iret C dX3_addTake_30 rfl rfl
def f_X3_measureOf (a1 a2 : Int32) (M : zz_Mem) : Option (Int32 × zz_Mem) := (if zz_in ((a1 * 6) + a2) 96 then some (M 14 (((a1 * 6) + a2).toNatClampNeg), M) else none)
set_option maxHeartbeats 4000000 in
set_option maxRecDepth 100000 in
theorem k_X3_measureOf {l : Launch} {D : va_G} {cI : ClassId} {ad : Nat → Nat} {a1 a2 : Int32} {r : Int32} {M M1 : zz_Mem} (hf : f_X3_measureOf a1 a2 M = some (r, M1)) : zz_K l D zz_SC cI ad 0 yX3_measureOf cX3_measureOf 3 (some .int) [.ref (ad 1), .int a1, .int a2] M (some (.int r)) M1 := by
  unfold f_X3_measureOf at hf
  refine zz_entry (own := RX3) (L := [(0, .ref (ad 1)), (1, .int a1), (2, .int a2)]) (by decide +kernel) rfl (Nat.le_of_ble_eq_true rfl) rfl (fun p e s m args below meth c C => ?_)
  refine zz_aload_n 1 C dX3_measureOf_0 rfl 0 rfl ?_
  refine zz_getR 4 C dX3_measureOf_1 rfl fl_X3_46 sc_1 rfl ?_
  refine zz_iload_n 5 C dX3_measureOf_4 rfl 1 rfl ?_
  refine zz_bipush 7 C dX3_measureOf_5 rfl zz_bp6 ?_
  refine zz_imul 8 C dX3_measureOf_7 rfl ?_
  refine zz_iload_n 9 C dX3_measureOf_8 rfl 2 rfl ?_
  refine zz_iadd 10 C dX3_measureOf_9 rfl ?_
  obtain ⟨hi1, hf⟩ := zz_chk hf
  refine zz_iald 11 C sc_14 dX3_measureOf_10 rfl hi1 ?_
  cases hf
  exact zz_iret C dX3_measureOf_11 rfl rfl
def f_X3_setMeasure (a1 a2 a3 : Int32) (M : zz_Mem) : Option (zz_Mem) := (if zz_in ((a1 * 6) + a2) 96 then some (zz_up M 14 (((a1 * 6) + a2).toNatClampNeg) a3) else none)
set_option maxHeartbeats 4000000 in
set_option maxRecDepth 100000 in
theorem k_X3_setMeasure {l : Launch} {D : va_G} {cI : ClassId} {ad : Nat → Nat} {a1 a2 a3 : Int32} {M M1 : zz_Mem} (hf : f_X3_setMeasure a1 a2 a3 M = some M1) : zz_K l D zz_SC cI ad 0 yX3_setMeasure cX3_setMeasure 4 none [.ref (ad 1), .int a1, .int a2, .int a3] M none M1 := by
  unfold f_X3_setMeasure at hf
  refine zz_entry (own := RX3) (L := [(0, .ref (ad 1)), (1, .int a1), (2, .int a2), (3, .int a3)]) (by decide +kernel) rfl (Nat.le_of_ble_eq_true rfl) rfl (fun p e s m args below meth c C => ?_)
  refine zz_aload_n 1 C dX3_setMeasure_0 rfl 0 rfl ?_
  refine zz_getR 4 C dX3_setMeasure_1 rfl fl_X3_46 sc_1 rfl ?_
  refine zz_iload_n 5 C dX3_setMeasure_4 rfl 1 rfl ?_
  refine zz_bipush 7 C dX3_setMeasure_5 rfl zz_bp6 ?_
  refine zz_imul 8 C dX3_setMeasure_7 rfl ?_
  refine zz_iload_n 9 C dX3_setMeasure_8 rfl 2 rfl ?_
  refine zz_iadd 10 C dX3_setMeasure_9 rfl ?_
  refine zz_iload_n 11 C dX3_setMeasure_10 rfl 3 rfl ?_
  obtain ⟨hi1, hf⟩ := zz_chk hf
  refine zz_iast 12 C sc_14 dX3_setMeasure_11 rfl hi1 ?_
  cases hf
  exact zz_vret C dX3_setMeasure_12 rfl rfl
def f_X3_copyMeasures_5 (x1 x2 : Int32) : Nat → Int32 → Int32 → zz_Mem → Option (Int32 × Int32 × zz_Mem)
  | 0, _, _, _ => none
  | n + 1, v3, v4, M => (if (M 1 4) ≤ v4 then some (v3, v4, M) else zz_b2 (f_X3_measureOf x1 v4 M) (fun r4 M3 => zz_b2 (f_X3_measureOf x2 v4 M3) (fun r7 M6 => (if r7 = r4 then zz_b1 (f_X3_setMeasure x2 v4 r4 M6) (fun M10 => f_X3_copyMeasures_5 x1 x2 n v3 (v4 + 1) M10) else zz_b1 (f_X3_setMeasure x2 v4 r4 M6) (fun M12 => f_X3_copyMeasures_5 x1 x2 n (v3 + 1) (v4 + 1) M12)))))
set_option maxHeartbeats 4000000 in
set_option maxRecDepth 100000 in
theorem l_X3_copyMeasures_5 {p : Program} {l : Launch} {e : Env} {s : State} {m : MethodId} {args : Array Value} {below : List Frame} {meth : Method} {c : Code} {D : va_G} {cI : ClassId} {ad : Nat → Nat} {x1 x2 : Int32} {w : Option Value} {Mf : zz_Mem} (C : zz_C p (zz_rm 1) s m args meth c D cI RX3 cX3_copyMeasures 6 (some .int) 0 0) {w3 w4 : Int32} {M1 : zz_Mem} : ∀ {n : Nat} {v3 v4 : Int32} {M : zz_Mem}, f_X3_copyMeasures_5 x1 x2 n v3 v4 M = some (w3, w4, M1) → zz_V p l e (zz_rm 1) s m args below meth c D zz_SC cI ad (zz_A zz_SC ad) 6 0 0 (MQ below (zz_Q D zz_SC cI ad w Mf) args s 0 0 (zz_A zz_SC ad)) 53 [(0, .ref (ad 1)), (1, .int x1), (2, .int x2), (3, .int w3), (4, .int w4)] [] M1 → zz_V p l e (zz_rm 1) s m args below meth c D zz_SC cI ad (zz_A zz_SC ad) 6 0 0 (MQ below (zz_Q D zz_SC cI ad w Mf) args s 0 0 (zz_A zz_SC ad)) 5 [(0, .ref (ad 1)), (1, .int x1), (2, .int x2), (3, .int v3), (4, .int v4)] [] M := by
  intro n
  induction n with
  | zero =>
    intro v3 v4 M hf
    simp [f_X3_copyMeasures_5] at hf
  | succ n ih0 =>
    intro v3 v4 M hf hex
    have ih := fun v3 v4 M hf => @ih0 v3 v4 M hf
    rw [f_X3_copyMeasures_5] at hf
    refine zz_iload 7 C dX3_copyMeasures_5 rfl 4 rfl ?_
    refine zz_aload_n 8 C dX3_copyMeasures_7 rfl 0 rfl ?_
    refine zz_getI 11 C dX3_copyMeasures_8 rfl fl_X3_25 sc_1 rfl ?_
    refine zz_icmp_ge 14 53 C dX3_copyMeasures_11 rfl rfl hf (fun h1 hf => ?_) (fun h1 hf => ?_)
    · cases hf
      exact zz_sub [0, 1, 2, 3, 4] rfl hex
    · refine zz_aload_n 15 C dX3_copyMeasures_14 rfl 0 rfl ?_
      refine zz_iload_n 16 C dX3_copyMeasures_15 rfl 1 rfl ?_
      refine zz_iload 18 C dX3_copyMeasures_16 rfl 4 rfl ?_
      obtain ⟨r4, M3, hc2, hf⟩ := zz_b2E hf
      refine zz_callV 21 [.int x1, .int v4] C dX3_copyMeasures_18 rfl ml_X3_61 (k_X3_measureOf hc2) sc_1 (vC := vwCl[3]) rfl rfl rfl rfl rfl (Nat.le_of_ble_eq_true rfl) (zz_hR (Nat.le_of_ble_eq_true rfl) (Nat.le_of_ble_eq_true rfl)) ?_
      refine zz_istore (L' := [(5, .int r4), (0, .ref (ad 1)), (1, .int x1), (2, .int x2), (3, .int v3), (4, .int v4)]) 23 C dX3_copyMeasures_21 rfl (Nat.le_of_ble_eq_true rfl) rfl ?_
      refine zz_aload_n 24 C dX3_copyMeasures_23 rfl 1 rfl ?_
      refine zz_iload_n 25 C dX3_copyMeasures_24 rfl 3 rfl ?_
      refine zz_iload 27 C dX3_copyMeasures_25 rfl 5 rfl ?_
      obtain ⟨r7, M6, hc5, hf⟩ := zz_b2E hf
      refine zz_callV 30 [.int x2, .int v4] C dX3_copyMeasures_27 rfl ml_X3_61 (k_X3_measureOf hc5) sc_1 (vC := vwCl[3]) rfl rfl rfl rfl rfl (Nat.le_of_ble_eq_true rfl) (zz_hR (Nat.le_of_ble_eq_true rfl) (Nat.le_of_ble_eq_true rfl)) ?_
      refine zz_iload 32 C dX3_copyMeasures_30 rfl 0 rfl ?_
      refine zz_icmp_eq 35 38 C dX3_copyMeasures_32 rfl rfl hf (fun h8 hf => ?_) (fun h8 hf => ?_)
      · refine zz_aload_n 39 C dX3_copyMeasures_38 rfl 1 rfl ?_
        refine zz_iload_n 40 C dX3_copyMeasures_39 rfl 3 rfl ?_
        refine zz_iload 42 C dX3_copyMeasures_40 rfl 5 rfl ?_
        refine zz_iload 44 C dX3_copyMeasures_42 rfl 0 rfl ?_
        obtain ⟨M10, hc9, hf⟩ := zz_b1E hf
        refine zz_callV 47 [.int x2, .int v4, .int r4] C dX3_copyMeasures_44 rfl ml_X3_65 (k_X3_setMeasure hc9) sc_1 (vC := vwCl[3]) rfl rfl rfl rfl rfl (Nat.le_of_ble_eq_true rfl) (zz_hR (Nat.le_of_ble_eq_true rfl) (Nat.le_of_ble_eq_true rfl)) ?_
        refine zz_iinc (L' := [(4, .int (v4 + 1)), (5, .int r4), (0, .ref (ad 1)), (1, .int x1), (2, .int x2), (3, .int v3)]) 50 C dX3_copyMeasures_47 rfl zz_i1 5 rfl (Nat.le_of_ble_eq_true rfl) rfl ?_
        refine zz_goto 5 C dX3_copyMeasures_50 rfl ?_
        exact zz_sub [2, 3, 4, 5, 0] rfl (ih _ _ _ hf hex)
      · refine zz_iinc (L' := [(3, .int (v3 + 1)), (5, .int r4), (0, .ref (ad 1)), (1, .int x1), (2, .int x2), (4, .int v4)]) 38 C dX3_copyMeasures_35 rfl zz_i1 4 rfl (Nat.le_of_ble_eq_true rfl) rfl ?_
        refine zz_aload_n 39 C dX3_copyMeasures_38 rfl 2 rfl ?_
        refine zz_iload_n 40 C dX3_copyMeasures_39 rfl 4 rfl ?_
        refine zz_iload 42 C dX3_copyMeasures_40 rfl 5 rfl ?_
        refine zz_iload 44 C dX3_copyMeasures_42 rfl 1 rfl ?_
        obtain ⟨M12, hc11, hf⟩ := zz_b1E hf
        refine zz_callV 47 [.int x2, .int v4, .int r4] C dX3_copyMeasures_44 rfl ml_X3_65 (k_X3_setMeasure hc11) sc_1 (vC := vwCl[3]) rfl rfl rfl rfl rfl (Nat.le_of_ble_eq_true rfl) (zz_hR (Nat.le_of_ble_eq_true rfl) (Nat.le_of_ble_eq_true rfl)) ?_
        refine zz_iinc (L' := [(4, .int (v4 + 1)), (3, .int (v3 + 1)), (5, .int r4), (0, .ref (ad 1)), (1, .int x1), (2, .int x2)]) 50 C dX3_copyMeasures_47 rfl zz_i1 5 rfl (Nat.le_of_ble_eq_true rfl) rfl ?_
        refine zz_goto 5 C dX3_copyMeasures_50 rfl ?_
        exact zz_sub [3, 4, 5, 1, 0] rfl (ih _ _ _ hf hex)
def f_X3_copyMeasures (a1 a2 : Int32) (M : zz_Mem) : Option (Int32 × zz_Mem) := zz_b3 (f_X3_copyMeasures_5 a1 a2 5000 0 0 M) (fun w13 w14 M15 => some (w13, M15))
set_option maxHeartbeats 4000000 in
set_option maxRecDepth 100000 in
theorem k_X3_copyMeasures {l : Launch} {D : va_G} {cI : ClassId} {ad : Nat → Nat} {a1 a2 : Int32} {r : Int32} {M M1 : zz_Mem} (hf : f_X3_copyMeasures a1 a2 M = some (r, M1)) : zz_K l D zz_SC cI ad 1 yX3_copyMeasures cX3_copyMeasures 6 (some .int) [.ref (ad 1), .int a1, .int a2] M (some (.int r)) M1 := by
  unfold f_X3_copyMeasures at hf
  refine zz_entry (own := RX3) (L := [(0, .ref (ad 1)), (1, .int a1), (2, .int a2)]) (by decide +kernel) rfl (Nat.le_of_ble_eq_true rfl) rfl (fun p e s m args below meth c C => ?_)
  refine zz_iconst 1 C dX3_copyMeasures_0 rfl zz_i0 ?_
  refine zz_istore_n (L' := [(3, .int 0), (0, .ref (ad 1)), (1, .int a1), (2, .int a2)]) 2 C dX3_copyMeasures_1 rfl (Nat.le_of_ble_eq_true rfl) rfl ?_
  refine zz_iconst 3 C dX3_copyMeasures_2 rfl zz_i0 ?_
  refine zz_istore (L' := [(4, .int 0), (3, .int 0), (0, .ref (ad 1)), (1, .int a1), (2, .int a2)]) 5 C dX3_copyMeasures_3 rfl (Nat.le_of_ble_eq_true rfl) rfl ?_
  obtain ⟨w13, w14, M15, hc16, hf⟩ := zz_b3E hf
  refine zz_sub [2, 3, 4, 1, 0] rfl (l_X3_copyMeasures_5 C  hc16 ?_)
  refine zz_iload_n 54 C dX3_copyMeasures_53 rfl 3 rfl ?_
  cases hf
  exact zz_iret C dX3_copyMeasures_54 rfl rfl
def f_X3_countTakesOf_4 (x1 : Int32) : Nat → Int32 → Int32 → zz_Mem → Option (Int32 × Int32 × zz_Mem)
  | 0, _, _, _ => none
  | n + 1, v2, v3, M => (if (M 1 8) ≤ v3 then some (v2, v3, M) else (if zz_in v3 16 then (if (M 12 v3.toNatClampNeg) = x1 then f_X3_countTakesOf_4 x1 n (v2 + 1) (v3 + 1) M else f_X3_countTakesOf_4 x1 n v2 (v3 + 1) M) else none))
set_option maxHeartbeats 4000000 in
set_option maxRecDepth 100000 in
theorem l_X3_countTakesOf_4 {p : Program} {l : Launch} {e : Env} {s : State} {m : MethodId} {args : Array Value} {below : List Frame} {meth : Method} {c : Code} {D : va_G} {cI : ClassId} {ad : Nat → Nat} {x1 : Int32} {w : Option Value} {Mf : zz_Mem} (C : zz_C p (zz_rm 0) s m args meth c D cI RX3 cX3_countTakesOf 4 (some .int) 0 0) {w2 w3 : Int32} {M1 : zz_Mem} : ∀ {n : Nat} {v2 v3 : Int32} {M : zz_Mem}, f_X3_countTakesOf_4 x1 n v2 v3 M = some (w2, w3, M1) → zz_V p l e (zz_rm 0) s m args below meth c D zz_SC cI ad (zz_A zz_SC ad) 4 0 0 (MQ below (zz_Q D zz_SC cI ad w Mf) args s 0 0 (zz_A zz_SC ad)) 31 [(0, .ref (ad 1)), (1, .int x1), (2, .int w2), (3, .int w3)] [] M1 → zz_V p l e (zz_rm 0) s m args below meth c D zz_SC cI ad (zz_A zz_SC ad) 4 0 0 (MQ below (zz_Q D zz_SC cI ad w Mf) args s 0 0 (zz_A zz_SC ad)) 4 [(0, .ref (ad 1)), (1, .int x1), (2, .int v2), (3, .int v3)] [] M := by
  intro n
  induction n with
  | zero =>
    intro v2 v3 M hf
    simp [f_X3_countTakesOf_4] at hf
  | succ n ih0 =>
    intro v2 v3 M hf hex
    have ih := fun v2 v3 M hf => @ih0 v2 v3 M hf
    rw [f_X3_countTakesOf_4] at hf
    refine zz_iload_n 5 C dX3_countTakesOf_4 rfl 3 rfl ?_
    refine zz_aload_n 6 C dX3_countTakesOf_5 rfl 0 rfl ?_
    refine zz_getI 9 C dX3_countTakesOf_6 rfl fl_X3_37 sc_1 rfl ?_
    refine zz_icmp_ge 12 31 C dX3_countTakesOf_9 rfl rfl hf (fun h1 hf => ?_) (fun h1 hf => ?_)
    · cases hf
      exact zz_sub [0, 1, 2, 3] rfl hex
    · refine zz_aload_n 13 C dX3_countTakesOf_12 rfl 0 rfl ?_
      refine zz_getR 16 C dX3_countTakesOf_13 rfl fl_X3_40 sc_1 rfl ?_
      refine zz_iload_n 17 C dX3_countTakesOf_16 rfl 3 rfl ?_
      obtain ⟨hi2, hf⟩ := zz_chk hf
      refine zz_iald 18 C sc_12 dX3_countTakesOf_17 rfl hi2 ?_
      refine zz_iload_n 19 C dX3_countTakesOf_18 rfl 1 rfl ?_
      refine zz_icmp_ne 22 25 C dX3_countTakesOf_19 rfl rfl hf (fun h3 hf => ?_) (fun h3 hf => ?_)
      · refine zz_iinc (L' := [(3, .int (v3 + 1)), (0, .ref (ad 1)), (1, .int x1), (2, .int v2)]) 28 C dX3_countTakesOf_25 rfl zz_i1 3 rfl (Nat.le_of_ble_eq_true rfl) rfl ?_
        refine zz_goto 4 C dX3_countTakesOf_28 rfl ?_
        exact zz_sub [1, 2, 3, 0] rfl (ih _ _ _ hf hex)
      · refine zz_iinc (L' := [(2, .int (v2 + 1)), (0, .ref (ad 1)), (1, .int x1), (3, .int v3)]) 25 C dX3_countTakesOf_22 rfl zz_i1 2 rfl (Nat.le_of_ble_eq_true rfl) rfl ?_
        refine zz_iinc (L' := [(3, .int (v3 + 1)), (2, .int (v2 + 1)), (0, .ref (ad 1)), (1, .int x1)]) 28 C dX3_countTakesOf_25 rfl zz_i1 3 rfl (Nat.le_of_ble_eq_true rfl) rfl ?_
        refine zz_goto 4 C dX3_countTakesOf_28 rfl ?_
        exact zz_sub [2, 3, 1, 0] rfl (ih _ _ _ hf hex)
def f_X3_countTakesOf (a1 : Int32) (M : zz_Mem) : Option (Int32 × zz_Mem) := zz_b3 (f_X3_countTakesOf_4 a1 5000 0 0 M) (fun w4 w5 M6 => some (w4, M6))
set_option maxHeartbeats 4000000 in
set_option maxRecDepth 100000 in
theorem k_X3_countTakesOf {l : Launch} {D : va_G} {cI : ClassId} {ad : Nat → Nat} {a1 : Int32} {r : Int32} {M M1 : zz_Mem} (hf : f_X3_countTakesOf a1 M = some (r, M1)) : zz_K l D zz_SC cI ad 0 yX3_countTakesOf cX3_countTakesOf 4 (some .int) [.ref (ad 1), .int a1] M (some (.int r)) M1 := by
  unfold f_X3_countTakesOf at hf
  refine zz_entry (own := RX3) (L := [(0, .ref (ad 1)), (1, .int a1)]) (by decide +kernel) rfl (Nat.le_of_ble_eq_true rfl) rfl (fun p e s m args below meth c C => ?_)
  refine zz_iconst 1 C dX3_countTakesOf_0 rfl zz_i0 ?_
  refine zz_istore_n (L' := [(2, .int 0), (0, .ref (ad 1)), (1, .int a1)]) 2 C dX3_countTakesOf_1 rfl (Nat.le_of_ble_eq_true rfl) rfl ?_
  refine zz_iconst 3 C dX3_countTakesOf_2 rfl zz_i0 ?_
  refine zz_istore_n (L' := [(3, .int 0), (2, .int 0), (0, .ref (ad 1)), (1, .int a1)]) 4 C dX3_countTakesOf_3 rfl (Nat.le_of_ble_eq_true rfl) rfl ?_
  obtain ⟨w4, w5, M6, hc7, hf⟩ := zz_b3E hf
  refine zz_sub [2, 3, 1, 0] rfl (l_X3_countTakesOf_4 C  hc7 ?_)
  refine zz_iload_n 32 C dX3_countTakesOf_31 rfl 2 rfl ?_
  cases hf
  exact zz_iret C dX3_countTakesOf_32 rfl rfl
def f_X3_countThingsShownBy_4 (x1 : Int32) : Nat → Int32 → Int32 → zz_Mem → Option (Int32 × Int32 × zz_Mem)
  | 0, _, _, _ => none
  | n + 1, v2, v3, M => (if (M 1 4) ≤ v3 then some (v2, v3, M) else zz_b2 (f_X3_measureOf x1 v3 M) (fun r4 M3 => (if r4 = (-1) then f_X3_countThingsShownBy_4 x1 n v2 (v3 + 1) M3 else f_X3_countThingsShownBy_4 x1 n (v2 + 1) (v3 + 1) M3)))
set_option maxHeartbeats 4000000 in
set_option maxRecDepth 100000 in
theorem l_X3_countThingsShownBy_4 {p : Program} {l : Launch} {e : Env} {s : State} {m : MethodId} {args : Array Value} {below : List Frame} {meth : Method} {c : Code} {D : va_G} {cI : ClassId} {ad : Nat → Nat} {x1 : Int32} {w : Option Value} {Mf : zz_Mem} (C : zz_C p (zz_rm 1) s m args meth c D cI RX3 cX3_countThingsShownBy 4 (some .int) 0 0) {w2 w3 : Int32} {M1 : zz_Mem} : ∀ {n : Nat} {v2 v3 : Int32} {M : zz_Mem}, f_X3_countThingsShownBy_4 x1 n v2 v3 M = some (w2, w3, M1) → zz_V p l e (zz_rm 1) s m args below meth c D zz_SC cI ad (zz_A zz_SC ad) 4 0 0 (MQ below (zz_Q D zz_SC cI ad w Mf) args s 0 0 (zz_A zz_SC ad)) 31 [(0, .ref (ad 1)), (1, .int x1), (2, .int w2), (3, .int w3)] [] M1 → zz_V p l e (zz_rm 1) s m args below meth c D zz_SC cI ad (zz_A zz_SC ad) 4 0 0 (MQ below (zz_Q D zz_SC cI ad w Mf) args s 0 0 (zz_A zz_SC ad)) 4 [(0, .ref (ad 1)), (1, .int x1), (2, .int v2), (3, .int v3)] [] M := by
  intro n
  induction n with
  | zero =>
    intro v2 v3 M hf
    simp [f_X3_countThingsShownBy_4] at hf
  | succ n ih0 =>
    intro v2 v3 M hf hex
    have ih := fun v2 v3 M hf => @ih0 v2 v3 M hf
    rw [f_X3_countThingsShownBy_4] at hf
    refine zz_iload_n 5 C dX3_countThingsShownBy_4 rfl 3 rfl ?_
    refine zz_aload_n 6 C dX3_countThingsShownBy_5 rfl 0 rfl ?_
    refine zz_getI 9 C dX3_countThingsShownBy_6 rfl fl_X3_25 sc_1 rfl ?_
    refine zz_icmp_ge 12 31 C dX3_countThingsShownBy_9 rfl rfl hf (fun h1 hf => ?_) (fun h1 hf => ?_)
    · cases hf
      exact zz_sub [0, 1, 2, 3] rfl hex
    · refine zz_aload_n 13 C dX3_countThingsShownBy_12 rfl 0 rfl ?_
      refine zz_iload_n 14 C dX3_countThingsShownBy_13 rfl 1 rfl ?_
      refine zz_iload_n 15 C dX3_countThingsShownBy_14 rfl 3 rfl ?_
      obtain ⟨r4, M3, hc2, hf⟩ := zz_b2E hf
      refine zz_callV 18 [.int x1, .int v3] C dX3_countThingsShownBy_15 rfl ml_X3_61 (k_X3_measureOf hc2) sc_1 (vC := vwCl[3]) rfl rfl rfl rfl rfl (Nat.le_of_ble_eq_true rfl) (zz_hR (Nat.le_of_ble_eq_true rfl) (Nat.le_of_ble_eq_true rfl)) ?_
      refine zz_iconst 19 C dX3_countThingsShownBy_18 rfl zz_im1 ?_
      refine zz_icmp_eq 22 25 C dX3_countThingsShownBy_19 rfl rfl hf (fun h5 hf => ?_) (fun h5 hf => ?_)
      · refine zz_iinc (L' := [(3, .int (v3 + 1)), (0, .ref (ad 1)), (1, .int x1), (2, .int v2)]) 28 C dX3_countThingsShownBy_25 rfl zz_i1 3 rfl (Nat.le_of_ble_eq_true rfl) rfl ?_
        refine zz_goto 4 C dX3_countThingsShownBy_28 rfl ?_
        exact zz_sub [1, 2, 3, 0] rfl (ih _ _ _ hf hex)
      · refine zz_iinc (L' := [(2, .int (v2 + 1)), (0, .ref (ad 1)), (1, .int x1), (3, .int v3)]) 25 C dX3_countThingsShownBy_22 rfl zz_i1 2 rfl (Nat.le_of_ble_eq_true rfl) rfl ?_
        refine zz_iinc (L' := [(3, .int (v3 + 1)), (2, .int (v2 + 1)), (0, .ref (ad 1)), (1, .int x1)]) 28 C dX3_countThingsShownBy_25 rfl zz_i1 3 rfl (Nat.le_of_ble_eq_true rfl) rfl ?_
        refine zz_goto 4 C dX3_countThingsShownBy_28 rfl ?_
        exact zz_sub [2, 3, 1, 0] rfl (ih _ _ _ hf hex)
def f_X3_countThingsShownBy (a1 : Int32) (M : zz_Mem) : Option (Int32 × zz_Mem) := zz_b3 (f_X3_countThingsShownBy_4 a1 5000 0 0 M) (fun w6 w7 M8 => some (w6, M8))
set_option maxHeartbeats 4000000 in
set_option maxRecDepth 100000 in
theorem k_X3_countThingsShownBy {l : Launch} {D : va_G} {cI : ClassId} {ad : Nat → Nat} {a1 : Int32} {r : Int32} {M M1 : zz_Mem} (hf : f_X3_countThingsShownBy a1 M = some (r, M1)) : zz_K l D zz_SC cI ad 1 yX3_countThingsShownBy cX3_countThingsShownBy 4 (some .int) [.ref (ad 1), .int a1] M (some (.int r)) M1 := by
  unfold f_X3_countThingsShownBy at hf
  refine zz_entry (own := RX3) (L := [(0, .ref (ad 1)), (1, .int a1)]) (by decide +kernel) rfl (Nat.le_of_ble_eq_true rfl) rfl (fun p e s m args below meth c C => ?_)
  refine zz_iconst 1 C dX3_countThingsShownBy_0 rfl zz_i0 ?_
  refine zz_istore_n (L' := [(2, .int 0), (0, .ref (ad 1)), (1, .int a1)]) 2 C dX3_countThingsShownBy_1 rfl (Nat.le_of_ble_eq_true rfl) rfl ?_
  refine zz_iconst 3 C dX3_countThingsShownBy_2 rfl zz_i0 ?_
  refine zz_istore_n (L' := [(3, .int 0), (2, .int 0), (0, .ref (ad 1)), (1, .int a1)]) 4 C dX3_countThingsShownBy_3 rfl (Nat.le_of_ble_eq_true rfl) rfl ?_
  obtain ⟨w6, w7, M8, hc9, hf⟩ := zz_b3E hf
  refine zz_sub [2, 3, 1, 0] rfl (l_X3_countThingsShownBy_4 C  hc9 ?_)
  refine zz_iload_n 32 C dX3_countThingsShownBy_31 rfl 2 rfl ?_
  cases hf
  exact zz_iret C dX3_countThingsShownBy_32 rfl rfl
def f_X3_countTakesThatShow_4 (x1 : Int32) : Nat → Int32 → Int32 → zz_Mem → Option (Int32 × Int32 × zz_Mem)
  | 0, _, _, _ => none
  | n + 1, v2, v3, M => (if (M 1 8) ≤ v3 then some (v2, v3, M) else zz_b2 (f_X3_measureOf v3 x1 M) (fun r4 M3 => (if r4 = (-1) then f_X3_countTakesThatShow_4 x1 n v2 (v3 + 1) M3 else f_X3_countTakesThatShow_4 x1 n (v2 + 1) (v3 + 1) M3)))
set_option maxHeartbeats 4000000 in
set_option maxRecDepth 100000 in
theorem l_X3_countTakesThatShow_4 {p : Program} {l : Launch} {e : Env} {s : State} {m : MethodId} {args : Array Value} {below : List Frame} {meth : Method} {c : Code} {D : va_G} {cI : ClassId} {ad : Nat → Nat} {x1 : Int32} {w : Option Value} {Mf : zz_Mem} (C : zz_C p (zz_rm 1) s m args meth c D cI RX3 cX3_countTakesThatShow 4 (some .int) 0 0) {w2 w3 : Int32} {M1 : zz_Mem} : ∀ {n : Nat} {v2 v3 : Int32} {M : zz_Mem}, f_X3_countTakesThatShow_4 x1 n v2 v3 M = some (w2, w3, M1) → zz_V p l e (zz_rm 1) s m args below meth c D zz_SC cI ad (zz_A zz_SC ad) 4 0 0 (MQ below (zz_Q D zz_SC cI ad w Mf) args s 0 0 (zz_A zz_SC ad)) 31 [(0, .ref (ad 1)), (1, .int x1), (2, .int w2), (3, .int w3)] [] M1 → zz_V p l e (zz_rm 1) s m args below meth c D zz_SC cI ad (zz_A zz_SC ad) 4 0 0 (MQ below (zz_Q D zz_SC cI ad w Mf) args s 0 0 (zz_A zz_SC ad)) 4 [(0, .ref (ad 1)), (1, .int x1), (2, .int v2), (3, .int v3)] [] M := by
  intro n
  induction n with
  | zero =>
    intro v2 v3 M hf
    simp [f_X3_countTakesThatShow_4] at hf
  | succ n ih0 =>
    intro v2 v3 M hf hex
    have ih := fun v2 v3 M hf => @ih0 v2 v3 M hf
    rw [f_X3_countTakesThatShow_4] at hf
    refine zz_iload_n 5 C dX3_countTakesThatShow_4 rfl 3 rfl ?_
    refine zz_aload_n 6 C dX3_countTakesThatShow_5 rfl 0 rfl ?_
    refine zz_getI 9 C dX3_countTakesThatShow_6 rfl fl_X3_37 sc_1 rfl ?_
    refine zz_icmp_ge 12 31 C dX3_countTakesThatShow_9 rfl rfl hf (fun h1 hf => ?_) (fun h1 hf => ?_)
    · cases hf
      exact zz_sub [0, 1, 2, 3] rfl hex
    · refine zz_aload_n 13 C dX3_countTakesThatShow_12 rfl 0 rfl ?_
      refine zz_iload_n 14 C dX3_countTakesThatShow_13 rfl 3 rfl ?_
      refine zz_iload_n 15 C dX3_countTakesThatShow_14 rfl 1 rfl ?_
      obtain ⟨r4, M3, hc2, hf⟩ := zz_b2E hf
      refine zz_callV 18 [.int v3, .int x1] C dX3_countTakesThatShow_15 rfl ml_X3_61 (k_X3_measureOf hc2) sc_1 (vC := vwCl[3]) rfl rfl rfl rfl rfl (Nat.le_of_ble_eq_true rfl) (zz_hR (Nat.le_of_ble_eq_true rfl) (Nat.le_of_ble_eq_true rfl)) ?_
      refine zz_iconst 19 C dX3_countTakesThatShow_18 rfl zz_im1 ?_
      refine zz_icmp_eq 22 25 C dX3_countTakesThatShow_19 rfl rfl hf (fun h5 hf => ?_) (fun h5 hf => ?_)
      · refine zz_iinc (L' := [(3, .int (v3 + 1)), (0, .ref (ad 1)), (1, .int x1), (2, .int v2)]) 28 C dX3_countTakesThatShow_25 rfl zz_i1 3 rfl (Nat.le_of_ble_eq_true rfl) rfl ?_
        refine zz_goto 4 C dX3_countTakesThatShow_28 rfl ?_
        exact zz_sub [1, 2, 3, 0] rfl (ih _ _ _ hf hex)
      · refine zz_iinc (L' := [(2, .int (v2 + 1)), (0, .ref (ad 1)), (1, .int x1), (3, .int v3)]) 25 C dX3_countTakesThatShow_22 rfl zz_i1 2 rfl (Nat.le_of_ble_eq_true rfl) rfl ?_
        refine zz_iinc (L' := [(3, .int (v3 + 1)), (2, .int (v2 + 1)), (0, .ref (ad 1)), (1, .int x1)]) 28 C dX3_countTakesThatShow_25 rfl zz_i1 3 rfl (Nat.le_of_ble_eq_true rfl) rfl ?_
        refine zz_goto 4 C dX3_countTakesThatShow_28 rfl ?_
        exact zz_sub [2, 3, 1, 0] rfl (ih _ _ _ hf hex)
def f_X3_countTakesThatShow (a1 : Int32) (M : zz_Mem) : Option (Int32 × zz_Mem) := zz_b3 (f_X3_countTakesThatShow_4 a1 5000 0 0 M) (fun w6 w7 M8 => some (w6, M8))
set_option maxHeartbeats 4000000 in
set_option maxRecDepth 100000 in
theorem k_X3_countTakesThatShow {l : Launch} {D : va_G} {cI : ClassId} {ad : Nat → Nat} {a1 : Int32} {r : Int32} {M M1 : zz_Mem} (hf : f_X3_countTakesThatShow a1 M = some (r, M1)) : zz_K l D zz_SC cI ad 1 yX3_countTakesThatShow cX3_countTakesThatShow 4 (some .int) [.ref (ad 1), .int a1] M (some (.int r)) M1 := by
  unfold f_X3_countTakesThatShow at hf
  refine zz_entry (own := RX3) (L := [(0, .ref (ad 1)), (1, .int a1)]) (by decide +kernel) rfl (Nat.le_of_ble_eq_true rfl) rfl (fun p e s m args below meth c C => ?_)
  refine zz_iconst 1 C dX3_countTakesThatShow_0 rfl zz_i0 ?_
  refine zz_istore_n (L' := [(2, .int 0), (0, .ref (ad 1)), (1, .int a1)]) 2 C dX3_countTakesThatShow_1 rfl (Nat.le_of_ble_eq_true rfl) rfl ?_
  refine zz_iconst 3 C dX3_countTakesThatShow_2 rfl zz_i0 ?_
  refine zz_istore_n (L' := [(3, .int 0), (2, .int 0), (0, .ref (ad 1)), (1, .int a1)]) 4 C dX3_countTakesThatShow_3 rfl (Nat.le_of_ble_eq_true rfl) rfl ?_
  obtain ⟨w6, w7, M8, hc9, hf⟩ := zz_b3E hf
  refine zz_sub [2, 3, 1, 0] rfl (l_X3_countTakesThatShow_4 C  hc9 ?_)
  refine zz_iload_n 32 C dX3_countTakesThatShow_31 rfl 2 rfl ?_
  cases hf
  exact zz_iret C dX3_countTakesThatShow_32 rfl rfl
def f_X3_countScenesWithChosen_4 : Nat → Int32 → Int32 → zz_Mem → Option (Int32 × Int32 × zz_Mem)
  | 0, _, _, _ => none
  | n + 1, v1, v2, M => (if (M 1 0) ≤ v2 then some (v1, v2, M) else (if zz_in v2 6 then (if (M 8 v2.toNatClampNeg) = (-1) then f_X3_countScenesWithChosen_4 n v1 (v2 + 1) M else f_X3_countScenesWithChosen_4 n (v1 + 1) (v2 + 1) M) else none))
set_option maxHeartbeats 4000000 in
set_option maxRecDepth 100000 in
theorem l_X3_countScenesWithChosen_4 {p : Program} {l : Launch} {e : Env} {s : State} {m : MethodId} {args : Array Value} {below : List Frame} {meth : Method} {c : Code} {D : va_G} {cI : ClassId} {ad : Nat → Nat} {w : Option Value} {Mf : zz_Mem} (C : zz_C p (zz_rm 0) s m args meth c D cI RX3 cX3_countScenesWithChosen 3 (some .int) 0 0) {w1 w2 : Int32} {M1 : zz_Mem} : ∀ {n : Nat} {v1 v2 : Int32} {M : zz_Mem}, f_X3_countScenesWithChosen_4 n v1 v2 M = some (w1, w2, M1) → zz_V p l e (zz_rm 0) s m args below meth c D zz_SC cI ad (zz_A zz_SC ad) 3 0 0 (MQ below (zz_Q D zz_SC cI ad w Mf) args s 0 0 (zz_A zz_SC ad)) 31 [(0, .ref (ad 1)), (1, .int w1), (2, .int w2)] [] M1 → zz_V p l e (zz_rm 0) s m args below meth c D zz_SC cI ad (zz_A zz_SC ad) 3 0 0 (MQ below (zz_Q D zz_SC cI ad w Mf) args s 0 0 (zz_A zz_SC ad)) 4 [(0, .ref (ad 1)), (1, .int v1), (2, .int v2)] [] M := by
  intro n
  induction n with
  | zero =>
    intro v1 v2 M hf
    simp [f_X3_countScenesWithChosen_4] at hf
  | succ n ih0 =>
    intro v1 v2 M hf hex
    have ih := fun v1 v2 M hf => @ih0 v1 v2 M hf
    rw [f_X3_countScenesWithChosen_4] at hf
    refine zz_iload_n 5 C dX3_countScenesWithChosen_4 rfl 2 rfl ?_
    refine zz_aload_n 6 C dX3_countScenesWithChosen_5 rfl 0 rfl ?_
    refine zz_getI 9 C dX3_countScenesWithChosen_6 rfl fl_X3_9 sc_1 rfl ?_
    refine zz_icmp_ge 12 31 C dX3_countScenesWithChosen_9 rfl rfl hf (fun h1 hf => ?_) (fun h1 hf => ?_)
    · cases hf
      exact zz_sub [0, 1, 2] rfl hex
    · refine zz_aload_n 13 C dX3_countScenesWithChosen_12 rfl 0 rfl ?_
      refine zz_getR 16 C dX3_countScenesWithChosen_13 rfl fl_X3_22 sc_1 rfl ?_
      refine zz_iload_n 17 C dX3_countScenesWithChosen_16 rfl 2 rfl ?_
      obtain ⟨hi2, hf⟩ := zz_chk hf
      refine zz_iald 18 C sc_8 dX3_countScenesWithChosen_17 rfl hi2 ?_
      refine zz_iconst 19 C dX3_countScenesWithChosen_18 rfl zz_im1 ?_
      refine zz_icmp_eq 22 25 C dX3_countScenesWithChosen_19 rfl rfl hf (fun h3 hf => ?_) (fun h3 hf => ?_)
      · refine zz_iinc (L' := [(2, .int (v2 + 1)), (0, .ref (ad 1)), (1, .int v1)]) 28 C dX3_countScenesWithChosen_25 rfl zz_i1 2 rfl (Nat.le_of_ble_eq_true rfl) rfl ?_
        refine zz_goto 4 C dX3_countScenesWithChosen_28 rfl ?_
        exact zz_sub [1, 2, 0] rfl (ih _ _ _ hf hex)
      · refine zz_iinc (L' := [(1, .int (v1 + 1)), (0, .ref (ad 1)), (2, .int v2)]) 25 C dX3_countScenesWithChosen_22 rfl zz_i1 1 rfl (Nat.le_of_ble_eq_true rfl) rfl ?_
        refine zz_iinc (L' := [(2, .int (v2 + 1)), (1, .int (v1 + 1)), (0, .ref (ad 1))]) 28 C dX3_countScenesWithChosen_25 rfl zz_i1 2 rfl (Nat.le_of_ble_eq_true rfl) rfl ?_
        refine zz_goto 4 C dX3_countScenesWithChosen_28 rfl ?_
        exact zz_sub [2, 1, 0] rfl (ih _ _ _ hf hex)
def f_X3_countScenesWithChosen (M : zz_Mem) : Option (Int32 × zz_Mem) := zz_b3 (f_X3_countScenesWithChosen_4 5000 0 0 M) (fun w4 w5 M6 => some (w4, M6))
set_option maxHeartbeats 4000000 in
set_option maxRecDepth 100000 in
theorem k_X3_countScenesWithChosen {l : Launch} {D : va_G} {cI : ClassId} {ad : Nat → Nat} {r : Int32} {M M1 : zz_Mem} (hf : f_X3_countScenesWithChosen M = some (r, M1)) : zz_K l D zz_SC cI ad 0 yX3_countScenesWithChosen cX3_countScenesWithChosen 3 (some .int) [.ref (ad 1)] M (some (.int r)) M1 := by
  unfold f_X3_countScenesWithChosen at hf
  refine zz_entry (own := RX3) (L := [(0, .ref (ad 1))]) (by decide +kernel) rfl (Nat.le_of_ble_eq_true rfl) rfl (fun p e s m args below meth c C => ?_)
  refine zz_iconst 1 C dX3_countScenesWithChosen_0 rfl zz_i0 ?_
  refine zz_istore_n (L' := [(1, .int 0), (0, .ref (ad 1))]) 2 C dX3_countScenesWithChosen_1 rfl (Nat.le_of_ble_eq_true rfl) rfl ?_
  refine zz_iconst 3 C dX3_countScenesWithChosen_2 rfl zz_i0 ?_
  refine zz_istore_n (L' := [(2, .int 0), (1, .int 0), (0, .ref (ad 1))]) 4 C dX3_countScenesWithChosen_3 rfl (Nat.le_of_ble_eq_true rfl) rfl ?_
  obtain ⟨w4, w5, M6, hc7, hf⟩ := zz_b3E hf
  refine zz_sub [2, 1, 0] rfl (l_X3_countScenesWithChosen_4 C  hc7 ?_)
  refine zz_iload_n 32 C dX3_countScenesWithChosen_31 rfl 1 rfl ?_
  cases hf
  exact zz_iret C dX3_countScenesWithChosen_32 rfl rfl
