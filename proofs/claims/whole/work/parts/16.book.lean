def f_X4_measureAsked (a1 a2 : Int32) (M : zz_Mem) : Option (Int32 × zz_Mem) := (if 10 ≤ a2 then zz_b2 (f_X3_isThing (a2 - 10) M) (fun r4 M3 => (if r4 = 0 then some ((-1), M3) else zz_b2 (f_X3_measureOf a1 (a2 - 10) M3) (fun r8 M7 => zz_b2 (f_X4_orNone r8 M7) (fun r11 M10 => some (r11, M10))))) else some ((-1), M))
set_option maxHeartbeats 4000000 in
set_option maxRecDepth 100000 in
theorem k_X4_measureAsked {l : Launch} {D : va_G} {cI : ClassId} {ad : Nat → Nat} {a1 a2 : Int32} {r : Int32} {M M1 : zz_Mem} (hf : f_X4_measureAsked a1 a2 M = some (r, M1)) : zz_K l D zz_SC cI ad 1 yX4_measureAsked cX4_measureAsked 4 (some .int) [.ref (ad 0), .int a1, .int a2] M (some (.int r)) M1 := by
  unfold f_X4_measureAsked at hf
  refine zz_entry (own := RX4) (L := [(0, .ref (ad 0)), (1, .int a1), (2, .int a2)]) (by decide +kernel) rfl (Nat.le_of_ble_eq_true rfl) rfl (fun p e s m args below meth c C => ?_)
  refine zz_iload_n 1 C dX4_measureAsked_0 rfl 2 rfl ?_
  refine zz_bipush 3 C dX4_measureAsked_1 rfl zz_bp10 ?_
  refine zz_icmp_ge 6 8 C dX4_measureAsked_3 rfl rfl hf (fun h1 hf => ?_) (fun h1 hf => ?_)
  · refine zz_iload_n 9 C dX4_measureAsked_8 rfl 2 rfl ?_
    refine zz_bipush 11 C dX4_measureAsked_9 rfl zz_bp10 ?_
    refine zz_isub 12 C dX4_measureAsked_11 rfl ?_
    refine zz_istore_n (L' := [(3, .int (a2 - 10)), (0, .ref (ad 0)), (1, .int a1), (2, .int a2)]) 13 C dX4_measureAsked_12 rfl (Nat.le_of_ble_eq_true rfl) rfl ?_
    refine zz_aload_n 14 C dX4_measureAsked_13 rfl 1 rfl ?_
    refine zz_getR 17 C dX4_measureAsked_14 rfl fl_X4_10 sc_0 rfl ?_
    refine zz_iload_n 18 C dX4_measureAsked_17 rfl 0 rfl ?_
    obtain ⟨r4, M3, hc2, hf⟩ := zz_b2E hf
    refine zz_callV 21 [.int (a2 - 10)] C dX4_measureAsked_18 rfl ml_X4_81 (k_X3_isThing hc2) sc_1 (vC := vwCl[3]) rfl rfl rfl rfl rfl (Nat.le_of_ble_eq_true rfl) (zz_hR (Nat.le_of_ble_eq_true rfl) (Nat.le_of_ble_eq_true rfl)) ?_
    refine zz_if_eq 24 39 C dX4_measureAsked_21 rfl rfl hf (fun h5 hf => ?_) (fun h5 hf => ?_)
    · refine zz_iconst 40 C dX4_measureAsked_39 rfl zz_im1 ?_
      cases hf
      exact zz_iret C dX4_measureAsked_40 rfl rfl
    · refine zz_aload_n 25 C dX4_measureAsked_24 rfl 1 rfl ?_
      refine zz_getR 28 C dX4_measureAsked_25 rfl fl_X4_10 sc_0 rfl ?_
      refine zz_iload_n 29 C dX4_measureAsked_28 rfl 2 rfl ?_
      refine zz_iload_n 30 C dX4_measureAsked_29 rfl 0 rfl ?_
      obtain ⟨r8, M7, hc6, hf⟩ := zz_b2E hf
      refine zz_callV 33 [.int a1, .int (a2 - 10)] C dX4_measureAsked_30 rfl ml_X4_100 (k_X3_measureOf hc6) sc_1 (vC := vwCl[3]) rfl rfl rfl rfl rfl (Nat.le_of_ble_eq_true rfl) (zz_hR (Nat.le_of_ble_eq_true rfl) (Nat.le_of_ble_eq_true rfl)) ?_
      obtain ⟨r11, M10, hc9, hf⟩ := zz_b2E hf
      refine zz_callS 36 [.int r8] C dX4_measureAsked_33 rfl ml_X4_113 (k_X4_orNone hc9) rfl rfl rfl (Nat.le_of_ble_eq_true rfl) (zz_hR (Nat.le_of_ble_eq_true rfl) (Nat.le_of_ble_eq_true rfl)) ?_
      refine zz_goto 40 C dX4_measureAsked_36 rfl ?_
      cases hf
      exact zz_iret C dX4_measureAsked_40 rfl rfl
  · refine zz_iconst 7 C dX4_measureAsked_6 rfl zz_im1 ?_
    cases hf
    exact zz_iret C dX4_measureAsked_7 rfl rfl
def f_X4_scene (a1 a2 : Int32) (M : zz_Mem) : Option (Int32 × zz_Mem) := zz_b2 (f_X4_isDayAndPlace a1 a2 M) (fun r3 M2 => (if r3 = 0 then some ((-1), M2) else (if (M2 1 0) < 6 then zz_b2 (f_X3_addScene a1 a2 M2) (fun r8 M7 => some (r8, M7)) else some ((-2), M2))))
set_option maxHeartbeats 4000000 in
set_option maxRecDepth 100000 in
theorem k_X4_scene {l : Launch} {D : va_G} {cI : ClassId} {ad : Nat → Nat} {a1 a2 : Int32} {r : Int32} {M M1 : zz_Mem} (hf : f_X4_scene a1 a2 M = some (r, M1)) : zz_K l D zz_SC cI ad 2 yX4_scene cX4_scene 3 (some .int) [.ref (ad 0), .int a1, .int a2] M (some (.int r)) M1 := by
  unfold f_X4_scene at hf
  refine zz_entry (own := RX4) (L := [(0, .ref (ad 0)), (1, .int a1), (2, .int a2)]) (by decide +kernel) rfl (Nat.le_of_ble_eq_true rfl) rfl (fun p e s m args below meth c C => ?_)
  refine zz_iload_n 1 C dX4_scene_0 rfl 1 rfl ?_
  refine zz_iload_n 2 C dX4_scene_1 rfl 2 rfl ?_
  obtain ⟨r3, M2, hc1, hf⟩ := zz_b2E hf
  refine zz_callS 5 [.int a1, .int a2] C dX4_scene_2 rfl ml_X4_44 (k_X4_isDayAndPlace hc1) rfl rfl rfl (Nat.le_of_ble_eq_true rfl) (zz_hR (Nat.le_of_ble_eq_true rfl) (Nat.le_of_ble_eq_true rfl)) ?_
  refine zz_if_ne 8 10 C dX4_scene_5 rfl rfl hf (fun h4 hf => ?_) (fun h4 hf => ?_)
  · refine zz_aload_n 11 C dX4_scene_10 rfl 0 rfl ?_
    refine zz_getR 14 C dX4_scene_11 rfl fl_X4_10 sc_0 rfl ?_
    refine zz_getI 17 C dX4_scene_14 rfl fl_X4_48 sc_1 rfl ?_
    refine zz_bipush 19 C dX4_scene_17 rfl zz_bp6 ?_
    refine zz_icmp_lt 22 25 C dX4_scene_19 rfl rfl hf (fun h5 hf => ?_) (fun h5 hf => ?_)
    · refine zz_aload_n 26 C dX4_scene_25 rfl 0 rfl ?_
      refine zz_getR 29 C dX4_scene_26 rfl fl_X4_10 sc_0 rfl ?_
      refine zz_iload_n 30 C dX4_scene_29 rfl 1 rfl ?_
      refine zz_iload_n 31 C dX4_scene_30 rfl 2 rfl ?_
      obtain ⟨r8, M7, hc6, hf⟩ := zz_b2E hf
      refine zz_callV 34 [.int a1, .int a2] C dX4_scene_31 rfl ml_X4_52 (k_X3_addScene hc6) sc_1 (vC := vwCl[3]) rfl rfl rfl rfl rfl (Nat.le_of_ble_eq_true rfl) (zz_hR (Nat.le_of_ble_eq_true rfl) (Nat.le_of_ble_eq_true rfl)) ?_
      cases hf
      exact zz_iret C dX4_scene_34 rfl rfl
    · refine zz_bipush 24 C dX4_scene_22 rfl zz_bpm2 ?_
      cases hf
      exact zz_iret C dX4_scene_24 rfl rfl
  · refine zz_iconst 9 C dX4_scene_8 rfl zz_im1 ?_
    cases hf
    exact zz_iret C dX4_scene_9 rfl rfl
def f_X4_shift (a1 a2 a3 : Int32) (M : zz_Mem) : Option (Int32 × zz_Mem) := zz_b2 (f_X3_isScene a1 M) (fun r3 M2 => (if r3 = 0 then some ((-1), M2) else zz_b2 (f_X4_isDayAndPlace a2 a3 M2) (fun r7 M6 => (if r7 = 0 then some ((-1), M6) else (if zz_in a1 6 then some (1, zz_up (zz_up M6 6 a1.toNatClampNeg a2) 7 a1.toNatClampNeg a3) else none)))))
set_option maxHeartbeats 4000000 in
set_option maxRecDepth 100000 in
theorem k_X4_shift {l : Launch} {D : va_G} {cI : ClassId} {ad : Nat → Nat} {a1 a2 a3 : Int32} {r : Int32} {M M1 : zz_Mem} (hf : f_X4_shift a1 a2 a3 M = some (r, M1)) : zz_K l D zz_SC cI ad 2 yX4_shift cX4_shift 4 (some .int) [.ref (ad 0), .int a1, .int a2, .int a3] M (some (.int r)) M1 := by
  unfold f_X4_shift at hf
  refine zz_entry (own := RX4) (L := [(0, .ref (ad 0)), (1, .int a1), (2, .int a2), (3, .int a3)]) (by decide +kernel) rfl (Nat.le_of_ble_eq_true rfl) rfl (fun p e s m args below meth c C => ?_)
  refine zz_aload_n 1 C dX4_shift_0 rfl 0 rfl ?_
  refine zz_getR 4 C dX4_shift_1 rfl fl_X4_10 sc_0 rfl ?_
  refine zz_iload_n 5 C dX4_shift_4 rfl 1 rfl ?_
  obtain ⟨r3, M2, hc1, hf⟩ := zz_b2E hf
  refine zz_callV 8 [.int a1] C dX4_shift_5 rfl ml_X4_56 (k_X3_isScene hc1) sc_1 (vC := vwCl[3]) rfl rfl rfl rfl rfl (Nat.le_of_ble_eq_true rfl) (zz_hR (Nat.le_of_ble_eq_true rfl) (Nat.le_of_ble_eq_true rfl)) ?_
  refine zz_if_eq 11 19 C dX4_shift_8 rfl rfl hf (fun h4 hf => ?_) (fun h4 hf => ?_)
  · refine zz_iconst 20 C dX4_shift_19 rfl zz_im1 ?_
    cases hf
    exact zz_iret C dX4_shift_20 rfl rfl
  · refine zz_iload_n 12 C dX4_shift_11 rfl 2 rfl ?_
    refine zz_iload_n 13 C dX4_shift_12 rfl 3 rfl ?_
    obtain ⟨r7, M6, hc5, hf⟩ := zz_b2E hf
    refine zz_callS 16 [.int a2, .int a3] C dX4_shift_13 rfl ml_X4_44 (k_X4_isDayAndPlace hc5) rfl rfl rfl (Nat.le_of_ble_eq_true rfl) (zz_hR (Nat.le_of_ble_eq_true rfl) (Nat.le_of_ble_eq_true rfl)) ?_
    refine zz_if_ne 19 21 C dX4_shift_16 rfl rfl hf (fun h8 hf => ?_) (fun h8 hf => ?_)
    · refine zz_aload_n 22 C dX4_shift_21 rfl 0 rfl ?_
      refine zz_getR 25 C dX4_shift_22 rfl fl_X4_10 sc_0 rfl ?_
      refine zz_getR 28 C dX4_shift_25 rfl fl_X4_60 sc_1 rfl ?_
      refine zz_iload_n 29 C dX4_shift_28 rfl 1 rfl ?_
      refine zz_iload_n 30 C dX4_shift_29 rfl 2 rfl ?_
      obtain ⟨hi9, hf⟩ := zz_chk hf
      refine zz_iast 31 C sc_6 dX4_shift_30 rfl hi9 ?_
      refine zz_aload_n 32 C dX4_shift_31 rfl 0 rfl ?_
      refine zz_getR 35 C dX4_shift_32 rfl fl_X4_10 sc_0 rfl ?_
      refine zz_getR 38 C dX4_shift_35 rfl fl_X4_64 sc_1 rfl ?_
      refine zz_iload_n 39 C dX4_shift_38 rfl 1 rfl ?_
      refine zz_iload_n 40 C dX4_shift_39 rfl 3 rfl ?_
      refine zz_iast 41 C sc_7 dX4_shift_40 rfl hi9 ?_
      refine zz_iconst 42 C dX4_shift_41 rfl zz_i1 ?_
      cases hf
      exact zz_iret C dX4_shift_42 rfl rfl
    · refine zz_iconst 20 C dX4_shift_19 rfl zz_im1 ?_
      cases hf
      exact zz_iret C dX4_shift_20 rfl rfl
def f_X4_thing (a1 a2 a3 : Int32) (M : zz_Mem) : Option (Int32 × zz_Mem) := zz_b2 (f_X4_isLawWithRate a1 a2 M) (fun r3 M2 => (if r3 = 0 then some ((-1), M2) else zz_b2 (f_X4_isBetween a3 1 9 M2) (fun r7 M6 => (if r7 = 0 then some ((-1), M6) else (if (M6 1 4) < 6 then zz_b2 (f_X3_addThing a1 a2 a3 M6) (fun r12 M11 => some (r12, M11)) else some ((-2), M6))))))
set_option maxHeartbeats 4000000 in
set_option maxRecDepth 100000 in
theorem k_X4_thing {l : Launch} {D : va_G} {cI : ClassId} {ad : Nat → Nat} {a1 a2 a3 : Int32} {r : Int32} {M M1 : zz_Mem} (hf : f_X4_thing a1 a2 a3 M = some (r, M1)) : zz_K l D zz_SC cI ad 2 yX4_thing cX4_thing 4 (some .int) [.ref (ad 0), .int a1, .int a2, .int a3] M (some (.int r)) M1 := by
  unfold f_X4_thing at hf
  refine zz_entry (own := RX4) (L := [(0, .ref (ad 0)), (1, .int a1), (2, .int a2), (3, .int a3)]) (by decide +kernel) rfl (Nat.le_of_ble_eq_true rfl) rfl (fun p e s m args below meth c C => ?_)
  refine zz_iload_n 1 C dX4_thing_0 rfl 1 rfl ?_
  refine zz_iload_n 2 C dX4_thing_1 rfl 2 rfl ?_
  obtain ⟨r3, M2, hc1, hf⟩ := zz_b2E hf
  refine zz_callS 5 [.int a1, .int a2] C dX4_thing_2 rfl ml_X4_67 (k_X4_isLawWithRate hc1) rfl rfl rfl (Nat.le_of_ble_eq_true rfl) (zz_hR (Nat.le_of_ble_eq_true rfl) (Nat.le_of_ble_eq_true rfl)) ?_
  refine zz_if_eq 8 18 C dX4_thing_5 rfl rfl hf (fun h4 hf => ?_) (fun h4 hf => ?_)
  · refine zz_iconst 19 C dX4_thing_18 rfl zz_im1 ?_
    cases hf
    exact zz_iret C dX4_thing_19 rfl rfl
  · refine zz_iload_n 9 C dX4_thing_8 rfl 3 rfl ?_
    refine zz_iconst 10 C dX4_thing_9 rfl zz_i1 ?_
    refine zz_bipush 12 C dX4_thing_10 rfl zz_bp9 ?_
    obtain ⟨r7, M6, hc5, hf⟩ := zz_b2E hf
    refine zz_callS 15 [.int a3, .int 1, .int 9] C dX4_thing_12 rfl ml_X4_70 (k_X4_isBetween hc5) rfl rfl rfl (Nat.le_of_ble_eq_true rfl) (zz_hR (Nat.le_of_ble_eq_true rfl) (Nat.le_of_ble_eq_true rfl)) ?_
    refine zz_if_ne 18 20 C dX4_thing_15 rfl rfl hf (fun h8 hf => ?_) (fun h8 hf => ?_)
    · refine zz_aload_n 21 C dX4_thing_20 rfl 0 rfl ?_
      refine zz_getR 24 C dX4_thing_21 rfl fl_X4_10 sc_0 rfl ?_
      refine zz_getI 27 C dX4_thing_24 rfl fl_X4_74 sc_1 rfl ?_
      refine zz_bipush 29 C dX4_thing_27 rfl zz_bp6 ?_
      refine zz_icmp_lt 32 35 C dX4_thing_29 rfl rfl hf (fun h9 hf => ?_) (fun h9 hf => ?_)
      · refine zz_aload_n 36 C dX4_thing_35 rfl 0 rfl ?_
        refine zz_getR 39 C dX4_thing_36 rfl fl_X4_10 sc_0 rfl ?_
        refine zz_iload_n 40 C dX4_thing_39 rfl 1 rfl ?_
        refine zz_iload_n 41 C dX4_thing_40 rfl 2 rfl ?_
        refine zz_iload_n 42 C dX4_thing_41 rfl 3 rfl ?_
        obtain ⟨r12, M11, hc10, hf⟩ := zz_b2E hf
        refine zz_callV 45 [.int a1, .int a2, .int a3] C dX4_thing_42 rfl ml_X4_77 (k_X3_addThing hc10) sc_1 (vC := vwCl[3]) rfl rfl rfl rfl rfl (Nat.le_of_ble_eq_true rfl) (zz_hR (Nat.le_of_ble_eq_true rfl) (Nat.le_of_ble_eq_true rfl)) ?_
        cases hf
        exact zz_iret C dX4_thing_45 rfl rfl
      · refine zz_bipush 34 C dX4_thing_32 rfl zz_bpm2 ?_
        cases hf
        exact zz_iret C dX4_thing_34 rfl rfl
    · refine zz_iconst 19 C dX4_thing_18 rfl zz_im1 ?_
      cases hf
      exact zz_iret C dX4_thing_19 rfl rfl
def f_X4_loud (a1 a2 : Int32) (M : zz_Mem) : Option (Int32 × zz_Mem) := zz_b2 (f_X3_isThing a1 M) (fun r3 M2 => (if r3 = 0 then some ((-1), M2) else zz_b2 (f_X4_isBetween a2 1 9 M2) (fun r7 M6 => (if r7 = 0 then some ((-1), M6) else (if zz_in a1 6 then some (M6 11 a1.toNatClampNeg, zz_up M6 11 a1.toNatClampNeg a2) else none)))))
set_option maxHeartbeats 4000000 in
set_option maxRecDepth 100000 in
theorem k_X4_loud {l : Launch} {D : va_G} {cI : ClassId} {ad : Nat → Nat} {a1 a2 : Int32} {r : Int32} {M M1 : zz_Mem} (hf : f_X4_loud a1 a2 M = some (r, M1)) : zz_K l D zz_SC cI ad 1 yX4_loud cX4_loud 4 (some .int) [.ref (ad 0), .int a1, .int a2] M (some (.int r)) M1 := by
  unfold f_X4_loud at hf
  refine zz_entry (own := RX4) (L := [(0, .ref (ad 0)), (1, .int a1), (2, .int a2)]) (by decide +kernel) rfl (Nat.le_of_ble_eq_true rfl) rfl (fun p e s m args below meth c C => ?_)
  refine zz_aload_n 1 C dX4_loud_0 rfl 0 rfl ?_
  refine zz_getR 4 C dX4_loud_1 rfl fl_X4_10 sc_0 rfl ?_
  refine zz_iload_n 5 C dX4_loud_4 rfl 1 rfl ?_
  obtain ⟨r3, M2, hc1, hf⟩ := zz_b2E hf
  refine zz_callV 8 [.int a1] C dX4_loud_5 rfl ml_X4_81 (k_X3_isThing hc1) sc_1 (vC := vwCl[3]) rfl rfl rfl rfl rfl (Nat.le_of_ble_eq_true rfl) (zz_hR (Nat.le_of_ble_eq_true rfl) (Nat.le_of_ble_eq_true rfl)) ?_
  refine zz_if_eq 11 21 C dX4_loud_8 rfl rfl hf (fun h4 hf => ?_) (fun h4 hf => ?_)
  · refine zz_iconst 22 C dX4_loud_21 rfl zz_im1 ?_
    cases hf
    exact zz_iret C dX4_loud_22 rfl rfl
  · refine zz_iload_n 12 C dX4_loud_11 rfl 2 rfl ?_
    refine zz_iconst 13 C dX4_loud_12 rfl zz_i1 ?_
    refine zz_bipush 15 C dX4_loud_13 rfl zz_bp9 ?_
    obtain ⟨r7, M6, hc5, hf⟩ := zz_b2E hf
    refine zz_callS 18 [.int a2, .int 1, .int 9] C dX4_loud_15 rfl ml_X4_70 (k_X4_isBetween hc5) rfl rfl rfl (Nat.le_of_ble_eq_true rfl) (zz_hR (Nat.le_of_ble_eq_true rfl) (Nat.le_of_ble_eq_true rfl)) ?_
    refine zz_if_ne 21 23 C dX4_loud_18 rfl rfl hf (fun h8 hf => ?_) (fun h8 hf => ?_)
    · refine zz_aload_n 24 C dX4_loud_23 rfl 0 rfl ?_
      refine zz_getR 27 C dX4_loud_24 rfl fl_X4_10 sc_0 rfl ?_
      refine zz_getR 30 C dX4_loud_27 rfl fl_X4_84 sc_1 rfl ?_
      refine zz_iload_n 31 C dX4_loud_30 rfl 1 rfl ?_
      obtain ⟨hi9, hf⟩ := zz_chk hf
      refine zz_iald 32 C sc_11 dX4_loud_31 rfl hi9 ?_
      refine zz_istore_n (L' := [(3, .int (M6 11 a1.toNatClampNeg)), (0, .ref (ad 0)), (1, .int a1), (2, .int a2)]) 33 C dX4_loud_32 rfl (Nat.le_of_ble_eq_true rfl) rfl ?_
      refine zz_aload_n 34 C dX4_loud_33 rfl 1 rfl ?_
      refine zz_getR 37 C dX4_loud_34 rfl fl_X4_10 sc_0 rfl ?_
      refine zz_getR 40 C dX4_loud_37 rfl fl_X4_84 sc_1 rfl ?_
      refine zz_iload_n 41 C dX4_loud_40 rfl 2 rfl ?_
      refine zz_iload_n 42 C dX4_loud_41 rfl 3 rfl ?_
      refine zz_iast 43 C sc_11 dX4_loud_42 rfl hi9 ?_
      refine zz_iload_n 44 C dX4_loud_43 rfl 0 rfl ?_
      cases hf
      exact zz_iret C dX4_loud_44 rfl rfl
    · refine zz_iconst 22 C dX4_loud_21 rfl zz_im1 ?_
      cases hf
      exact zz_iret C dX4_loud_22 rfl rfl
def f_X4_take (a1 a2 : Int32) (M : zz_Mem) : Option (Int32 × zz_Mem) := zz_b2 (f_X3_isScene a1 M) (fun r3 M2 => (if r3 = 0 then some ((-1), M2) else zz_b2 (f_X4_isBetween a2 0 20 M2) (fun r7 M6 => (if r7 = 0 then some ((-1), M6) else (if 16 ≤ (M6 1 8) then some ((-2), M6) else zz_b2 (f_X3_countTakesOf a1 M6) (fun r12 M11 => (if r12 < 4 then zz_b2 (f_X3_addTake a1 a2 M11) (fun r16 M15 => some (r16, M15)) else some ((-2), M11))))))))
set_option maxHeartbeats 4000000 in
set_option maxRecDepth 100000 in
theorem k_X4_take {l : Launch} {D : va_G} {cI : ClassId} {ad : Nat → Nat} {a1 a2 : Int32} {r : Int32} {M M1 : zz_Mem} (hf : f_X4_take a1 a2 M = some (r, M1)) : zz_K l D zz_SC cI ad 1 yX4_take cX4_take 3 (some .int) [.ref (ad 0), .int a1, .int a2] M (some (.int r)) M1 := by
  unfold f_X4_take at hf
  refine zz_entry (own := RX4) (L := [(0, .ref (ad 0)), (1, .int a1), (2, .int a2)]) (by decide +kernel) rfl (Nat.le_of_ble_eq_true rfl) rfl (fun p e s m args below meth c C => ?_)
  refine zz_aload_n 1 C dX4_take_0 rfl 0 rfl ?_
  refine zz_getR 4 C dX4_take_1 rfl fl_X4_10 sc_0 rfl ?_
  refine zz_iload_n 5 C dX4_take_4 rfl 1 rfl ?_
  obtain ⟨r3, M2, hc1, hf⟩ := zz_b2E hf
  refine zz_callV 8 [.int a1] C dX4_take_5 rfl ml_X4_56 (k_X3_isScene hc1) sc_1 (vC := vwCl[3]) rfl rfl rfl rfl rfl (Nat.le_of_ble_eq_true rfl) (zz_hR (Nat.le_of_ble_eq_true rfl) (Nat.le_of_ble_eq_true rfl)) ?_
  refine zz_if_eq 11 21 C dX4_take_8 rfl rfl hf (fun h4 hf => ?_) (fun h4 hf => ?_)
  · refine zz_iconst 22 C dX4_take_21 rfl zz_im1 ?_
    cases hf
    exact zz_iret C dX4_take_22 rfl rfl
  · refine zz_iload_n 12 C dX4_take_11 rfl 2 rfl ?_
    refine zz_iconst 13 C dX4_take_12 rfl zz_i0 ?_
    refine zz_bipush 15 C dX4_take_13 rfl zz_bp20 ?_
    obtain ⟨r7, M6, hc5, hf⟩ := zz_b2E hf
    refine zz_callS 18 [.int a2, .int 0, .int 20] C dX4_take_15 rfl ml_X4_70 (k_X4_isBetween hc5) rfl rfl rfl (Nat.le_of_ble_eq_true rfl) (zz_hR (Nat.le_of_ble_eq_true rfl) (Nat.le_of_ble_eq_true rfl)) ?_
    refine zz_if_ne 21 23 C dX4_take_18 rfl rfl hf (fun h8 hf => ?_) (fun h8 hf => ?_)
    · refine zz_aload_n 24 C dX4_take_23 rfl 0 rfl ?_
      refine zz_getR 27 C dX4_take_24 rfl fl_X4_10 sc_0 rfl ?_
      refine zz_getI 30 C dX4_take_27 rfl fl_X4_87 sc_1 rfl ?_
      refine zz_bipush 32 C dX4_take_30 rfl zz_bp16 ?_
      refine zz_icmp_ge 35 47 C dX4_take_32 rfl rfl hf (fun h9 hf => ?_) (fun h9 hf => ?_)
      · refine zz_bipush 49 C dX4_take_47 rfl zz_bpm2 ?_
        cases hf
        exact zz_iret C dX4_take_49 rfl rfl
      · refine zz_aload_n 36 C dX4_take_35 rfl 0 rfl ?_
        refine zz_getR 39 C dX4_take_36 rfl fl_X4_10 sc_0 rfl ?_
        refine zz_iload_n 40 C dX4_take_39 rfl 1 rfl ?_
        obtain ⟨r12, M11, hc10, hf⟩ := zz_b2E hf
        refine zz_callV 43 [.int a1] C dX4_take_40 rfl ml_X4_90 (k_X3_countTakesOf hc10) sc_1 (vC := vwCl[3]) rfl rfl rfl rfl rfl (Nat.le_of_ble_eq_true rfl) (zz_hR (Nat.le_of_ble_eq_true rfl) (Nat.le_of_ble_eq_true rfl)) ?_
        refine zz_iconst 44 C dX4_take_43 rfl zz_i4 ?_
        refine zz_icmp_lt 47 50 C dX4_take_44 rfl rfl hf (fun h13 hf => ?_) (fun h13 hf => ?_)
        · refine zz_aload_n 51 C dX4_take_50 rfl 0 rfl ?_
          refine zz_getR 54 C dX4_take_51 rfl fl_X4_10 sc_0 rfl ?_
          refine zz_iload_n 55 C dX4_take_54 rfl 1 rfl ?_
          refine zz_iload_n 56 C dX4_take_55 rfl 2 rfl ?_
          obtain ⟨r16, M15, hc14, hf⟩ := zz_b2E hf
          refine zz_callV 59 [.int a1, .int a2] C dX4_take_56 rfl ml_X4_94 (k_X3_addTake hc14) sc_1 (vC := vwCl[3]) rfl rfl rfl rfl rfl (Nat.le_of_ble_eq_true rfl) (zz_hR (Nat.le_of_ble_eq_true rfl) (Nat.le_of_ble_eq_true rfl)) ?_
          cases hf
          exact zz_iret C dX4_take_59 rfl rfl
        · refine zz_bipush 49 C dX4_take_47 rfl zz_bpm2 ?_
          cases hf
          exact zz_iret C dX4_take_49 rfl rfl
    · refine zz_iconst 22 C dX4_take_21 rfl zz_im1 ?_
      cases hf
      exact zz_iret C dX4_take_22 rfl rfl
def f_X4_show (a1 a2 a3 : Int32) (M : zz_Mem) : Option (Int32 × zz_Mem) := zz_b2 (f_X3_isTake a1 M) (fun r3 M2 => (if r3 = 0 then some ((-5), M2) else zz_b2 (f_X3_isThing a2 M2) (fun r7 M6 => (if r7 = 0 then some ((-5), M6) else zz_b2 (f_X4_isBetween a3 (-1) 99 M6) (fun r11 M10 => (if r11 = 0 then some ((-5), M10) else zz_b2 (f_X3_measureOf a1 a2 M10) (fun r15 M14 => zz_b1 (f_X3_setMeasure a1 a2 a3 M14) (fun M17 => some (r15, M17)))))))))
set_option maxHeartbeats 4000000 in
set_option maxRecDepth 100000 in
theorem k_X4_show {l : Launch} {D : va_G} {cI : ClassId} {ad : Nat → Nat} {a1 a2 a3 : Int32} {r : Int32} {M M1 : zz_Mem} (hf : f_X4_show a1 a2 a3 M = some (r, M1)) : zz_K l D zz_SC cI ad 1 yX4_show cX4_show 5 (some .int) [.ref (ad 0), .int a1, .int a2, .int a3] M (some (.int r)) M1 := by
  unfold f_X4_show at hf
  refine zz_entry (own := RX4) (L := [(0, .ref (ad 0)), (1, .int a1), (2, .int a2), (3, .int a3)]) (by decide +kernel) rfl (Nat.le_of_ble_eq_true rfl) rfl (fun p e s m args below meth c C => ?_)
  refine zz_aload_n 1 C dX4_show_0 rfl 0 rfl ?_
  refine zz_getR 4 C dX4_show_1 rfl fl_X4_10 sc_0 rfl ?_
  refine zz_iload_n 5 C dX4_show_4 rfl 1 rfl ?_
  obtain ⟨r3, M2, hc1, hf⟩ := zz_b2E hf
  refine zz_callV 8 [.int a1] C dX4_show_5 rfl ml_X4_97 (k_X3_isTake hc1) sc_1 (vC := vwCl[3]) rfl rfl rfl rfl rfl (Nat.le_of_ble_eq_true rfl) (zz_hR (Nat.le_of_ble_eq_true rfl) (Nat.le_of_ble_eq_true rfl)) ?_
  refine zz_if_eq 11 32 C dX4_show_8 rfl rfl hf (fun h4 hf => ?_) (fun h4 hf => ?_)
  · refine zz_bipush 34 C dX4_show_32 rfl zz_bpm5 ?_
    cases hf
    exact zz_iret C dX4_show_34 rfl rfl
  · refine zz_aload_n 12 C dX4_show_11 rfl 0 rfl ?_
    refine zz_getR 15 C dX4_show_12 rfl fl_X4_10 sc_0 rfl ?_
    refine zz_iload_n 16 C dX4_show_15 rfl 2 rfl ?_
    obtain ⟨r7, M6, hc5, hf⟩ := zz_b2E hf
    refine zz_callV 19 [.int a2] C dX4_show_16 rfl ml_X4_81 (k_X3_isThing hc5) sc_1 (vC := vwCl[3]) rfl rfl rfl rfl rfl (Nat.le_of_ble_eq_true rfl) (zz_hR (Nat.le_of_ble_eq_true rfl) (Nat.le_of_ble_eq_true rfl)) ?_
    refine zz_if_eq 22 32 C dX4_show_19 rfl rfl hf (fun h8 hf => ?_) (fun h8 hf => ?_)
    · refine zz_bipush 34 C dX4_show_32 rfl zz_bpm5 ?_
      cases hf
      exact zz_iret C dX4_show_34 rfl rfl
    · refine zz_iload_n 23 C dX4_show_22 rfl 3 rfl ?_
      refine zz_iconst 24 C dX4_show_23 rfl zz_im1 ?_
      refine zz_bipush 26 C dX4_show_24 rfl zz_bp99 ?_
      obtain ⟨r11, M10, hc9, hf⟩ := zz_b2E hf
      refine zz_callS 29 [.int a3, .int (-1), .int 99] C dX4_show_26 rfl ml_X4_70 (k_X4_isBetween hc9) rfl rfl rfl (Nat.le_of_ble_eq_true rfl) (zz_hR (Nat.le_of_ble_eq_true rfl) (Nat.le_of_ble_eq_true rfl)) ?_
      refine zz_if_ne 32 35 C dX4_show_29 rfl rfl hf (fun h12 hf => ?_) (fun h12 hf => ?_)
      · refine zz_aload_n 36 C dX4_show_35 rfl 0 rfl ?_
        refine zz_getR 39 C dX4_show_36 rfl fl_X4_10 sc_0 rfl ?_
        refine zz_iload_n 40 C dX4_show_39 rfl 1 rfl ?_
        refine zz_iload_n 41 C dX4_show_40 rfl 2 rfl ?_
        obtain ⟨r15, M14, hc13, hf⟩ := zz_b2E hf
        refine zz_callV 44 [.int a1, .int a2] C dX4_show_41 rfl ml_X4_100 (k_X3_measureOf hc13) sc_1 (vC := vwCl[3]) rfl rfl rfl rfl rfl (Nat.le_of_ble_eq_true rfl) (zz_hR (Nat.le_of_ble_eq_true rfl) (Nat.le_of_ble_eq_true rfl)) ?_
        refine zz_istore (L' := [(4, .int r15), (0, .ref (ad 0)), (1, .int a1), (2, .int a2), (3, .int a3)]) 46 C dX4_show_44 rfl (Nat.le_of_ble_eq_true rfl) rfl ?_
        refine zz_aload_n 47 C dX4_show_46 rfl 1 rfl ?_
        refine zz_getR 50 C dX4_show_47 rfl fl_X4_10 sc_0 rfl ?_
        refine zz_iload_n 51 C dX4_show_50 rfl 2 rfl ?_
        refine zz_iload_n 52 C dX4_show_51 rfl 3 rfl ?_
        refine zz_iload_n 53 C dX4_show_52 rfl 4 rfl ?_
        obtain ⟨M17, hc16, hf⟩ := zz_b1E hf
        refine zz_callV 56 [.int a1, .int a2, .int a3] C dX4_show_53 rfl ml_X4_103 (k_X3_setMeasure hc16) sc_1 (vC := vwCl[3]) rfl rfl rfl rfl rfl (Nat.le_of_ble_eq_true rfl) (zz_hR (Nat.le_of_ble_eq_true rfl) (Nat.le_of_ble_eq_true rfl)) ?_
        refine zz_iload 58 C dX4_show_56 rfl 0 rfl ?_
        cases hf
        exact zz_iret C dX4_show_58 rfl rfl
      · refine zz_bipush 34 C dX4_show_32 rfl zz_bpm5 ?_
        cases hf
        exact zz_iret C dX4_show_34 rfl rfl
def f_X4_like (a1 a2 : Int32) (M : zz_Mem) : Option (Int32 × zz_Mem) := zz_b2 (f_X3_isTake a1 M) (fun r3 M2 => (if r3 = 0 then some ((-1), M2) else zz_b2 (f_X3_isTake a2 M2) (fun r7 M6 => (if r7 = 0 then some ((-1), M6) else zz_b2 (f_X3_copyMeasures a2 a1 M6) (fun r11 M10 => some (r11, M10))))))
set_option maxHeartbeats 4000000 in
set_option maxRecDepth 100000 in
theorem k_X4_like {l : Launch} {D : va_G} {cI : ClassId} {ad : Nat → Nat} {a1 a2 : Int32} {r : Int32} {M M1 : zz_Mem} (hf : f_X4_like a1 a2 M = some (r, M1)) : zz_K l D zz_SC cI ad 2 yX4_like cX4_like 3 (some .int) [.ref (ad 0), .int a1, .int a2] M (some (.int r)) M1 := by
  unfold f_X4_like at hf
  refine zz_entry (own := RX4) (L := [(0, .ref (ad 0)), (1, .int a1), (2, .int a2)]) (by decide +kernel) rfl (Nat.le_of_ble_eq_true rfl) rfl (fun p e s m args below meth c C => ?_)
  refine zz_aload_n 1 C dX4_like_0 rfl 0 rfl ?_
  refine zz_getR 4 C dX4_like_1 rfl fl_X4_10 sc_0 rfl ?_
  refine zz_iload_n 5 C dX4_like_4 rfl 1 rfl ?_
  obtain ⟨r3, M2, hc1, hf⟩ := zz_b2E hf
  refine zz_callV 8 [.int a1] C dX4_like_5 rfl ml_X4_97 (k_X3_isTake hc1) sc_1 (vC := vwCl[3]) rfl rfl rfl rfl rfl (Nat.le_of_ble_eq_true rfl) (zz_hR (Nat.le_of_ble_eq_true rfl) (Nat.le_of_ble_eq_true rfl)) ?_
  refine zz_if_eq 11 22 C dX4_like_8 rfl rfl hf (fun h4 hf => ?_) (fun h4 hf => ?_)
  · refine zz_iconst 23 C dX4_like_22 rfl zz_im1 ?_
    cases hf
    exact zz_iret C dX4_like_23 rfl rfl
  · refine zz_aload_n 12 C dX4_like_11 rfl 0 rfl ?_
    refine zz_getR 15 C dX4_like_12 rfl fl_X4_10 sc_0 rfl ?_
    refine zz_iload_n 16 C dX4_like_15 rfl 2 rfl ?_
    obtain ⟨r7, M6, hc5, hf⟩ := zz_b2E hf
    refine zz_callV 19 [.int a2] C dX4_like_16 rfl ml_X4_97 (k_X3_isTake hc5) sc_1 (vC := vwCl[3]) rfl rfl rfl rfl rfl (Nat.le_of_ble_eq_true rfl) (zz_hR (Nat.le_of_ble_eq_true rfl) (Nat.le_of_ble_eq_true rfl)) ?_
    refine zz_if_ne 22 24 C dX4_like_19 rfl rfl hf (fun h8 hf => ?_) (fun h8 hf => ?_)
    · refine zz_aload_n 25 C dX4_like_24 rfl 0 rfl ?_
      refine zz_getR 28 C dX4_like_25 rfl fl_X4_10 sc_0 rfl ?_
      refine zz_iload_n 29 C dX4_like_28 rfl 2 rfl ?_
      refine zz_iload_n 30 C dX4_like_29 rfl 1 rfl ?_
      obtain ⟨r11, M10, hc9, hf⟩ := zz_b2E hf
      refine zz_callV 33 [.int a2, .int a1] C dX4_like_30 rfl ml_X4_107 (k_X3_copyMeasures hc9) sc_1 (vC := vwCl[3]) rfl rfl rfl rfl rfl (Nat.le_of_ble_eq_true rfl) (zz_hR (Nat.le_of_ble_eq_true rfl) (Nat.le_of_ble_eq_true rfl)) ?_
      cases hf
      exact zz_iret C dX4_like_33 rfl rfl
    · refine zz_iconst 23 C dX4_like_22 rfl zz_im1 ?_
      cases hf
      exact zz_iret C dX4_like_23 rfl rfl
def f_X4_of (a1 a2 : Int32) (M : zz_Mem) : Option (Int32 × zz_Mem) := zz_b2 (f_X3_isScene a1 M) (fun r3 M2 => (if r3 = 0 then some ((-1), M2) else (if a2 = 0 then (if zz_in a1 6 then some (M2 6 a1.toNatClampNeg, M2) else none) else (if a2 = 1 then (if zz_in a1 6 then some (M2 7 a1.toNatClampNeg, M2) else none) else (if a2 = 2 then zz_b2 (f_X3_countTakesOf a1 M2) (fun r12 M11 => some (r12, M11)) else (if a2 = 3 then (if zz_in a1 6 then zz_b2 (f_X4_orNone (M2 8 a1.toNatClampNeg) M2) (fun r17 M16 => some (r17, M16)) else none) else some ((-1), M2)))))))
set_option maxHeartbeats 4000000 in
set_option maxRecDepth 100000 in
theorem k_X4_of {l : Launch} {D : va_G} {cI : ClassId} {ad : Nat → Nat} {a1 a2 : Int32} {r : Int32} {M M1 : zz_Mem} (hf : f_X4_of a1 a2 M = some (r, M1)) : zz_K l D zz_SC cI ad 1 yX4_of cX4_of 3 (some .int) [.ref (ad 0), .int a1, .int a2] M (some (.int r)) M1 := by
  unfold f_X4_of at hf
  refine zz_entry (own := RX4) (L := [(0, .ref (ad 0)), (1, .int a1), (2, .int a2)]) (by decide +kernel) rfl (Nat.le_of_ble_eq_true rfl) rfl (fun p e s m args below meth c C => ?_)
  refine zz_aload_n 1 C dX4_of_0 rfl 0 rfl ?_
  refine zz_getR 4 C dX4_of_1 rfl fl_X4_10 sc_0 rfl ?_
  refine zz_iload_n 5 C dX4_of_4 rfl 1 rfl ?_
  obtain ⟨r3, M2, hc1, hf⟩ := zz_b2E hf
  refine zz_callV 8 [.int a1] C dX4_of_5 rfl ml_X4_56 (k_X3_isScene hc1) sc_1 (vC := vwCl[3]) rfl rfl rfl rfl rfl (Nat.le_of_ble_eq_true rfl) (zz_hR (Nat.le_of_ble_eq_true rfl) (Nat.le_of_ble_eq_true rfl)) ?_
  refine zz_if_ne 11 13 C dX4_of_8 rfl rfl hf (fun h4 hf => ?_) (fun h4 hf => ?_)
  · refine zz_iload_n 14 C dX4_of_13 rfl 2 rfl ?_
    by_cases h5 : a2 = 0
    · rw [if_pos h5] at hf
      refine zz_tabIn 44 C dX4_of_14 h5 (by decide) (by decide) rfl rfl ?_
      refine zz_aload_n 45 C dX4_of_44 rfl 0 rfl ?_
      refine zz_getR 48 C dX4_of_45 rfl fl_X4_10 sc_0 rfl ?_
      refine zz_getR 51 C dX4_of_48 rfl fl_X4_60 sc_1 rfl ?_
      refine zz_iload_n 52 C dX4_of_51 rfl 1 rfl ?_
      obtain ⟨hi6, hf⟩ := zz_chk hf
      refine zz_iald 53 C sc_6 dX4_of_52 rfl hi6 ?_
      cases hf
      exact zz_iret C dX4_of_53 rfl rfl
    · rw [if_neg h5] at hf
      by_cases h7 : a2 = 1
      · rw [if_pos h7] at hf
        refine zz_tabIn 54 C dX4_of_14 h7 (by decide) (by decide) rfl rfl ?_
        refine zz_aload_n 55 C dX4_of_54 rfl 0 rfl ?_
        refine zz_getR 58 C dX4_of_55 rfl fl_X4_10 sc_0 rfl ?_
        refine zz_getR 61 C dX4_of_58 rfl fl_X4_64 sc_1 rfl ?_
        refine zz_iload_n 62 C dX4_of_61 rfl 1 rfl ?_
        obtain ⟨hi8, hf⟩ := zz_chk hf
        refine zz_iald 63 C sc_7 dX4_of_62 rfl hi8 ?_
        cases hf
        exact zz_iret C dX4_of_63 rfl rfl
      · rw [if_neg h7] at hf
        by_cases h9 : a2 = 2
        · rw [if_pos h9] at hf
          refine zz_tabIn 64 C dX4_of_14 h9 (by decide) (by decide) rfl rfl ?_
          refine zz_aload_n 65 C dX4_of_64 rfl 0 rfl ?_
          refine zz_getR 68 C dX4_of_65 rfl fl_X4_10 sc_0 rfl ?_
          refine zz_iload_n 69 C dX4_of_68 rfl 1 rfl ?_
          obtain ⟨r12, M11, hc10, hf⟩ := zz_b2E hf
          refine zz_callV 72 [.int a1] C dX4_of_69 rfl ml_X4_90 (k_X3_countTakesOf hc10) sc_1 (vC := vwCl[3]) rfl rfl rfl rfl rfl (Nat.le_of_ble_eq_true rfl) (zz_hR (Nat.le_of_ble_eq_true rfl) (Nat.le_of_ble_eq_true rfl)) ?_
          cases hf
          exact zz_iret C dX4_of_72 rfl rfl
        · rw [if_neg h9] at hf
          by_cases h13 : a2 = 3
          · rw [if_pos h13] at hf
            refine zz_tabIn 73 C dX4_of_14 h13 (by decide) (by decide) rfl rfl ?_
            refine zz_aload_n 74 C dX4_of_73 rfl 0 rfl ?_
            refine zz_getR 77 C dX4_of_74 rfl fl_X4_10 sc_0 rfl ?_
            refine zz_getR 80 C dX4_of_77 rfl fl_X4_110 sc_1 rfl ?_
            refine zz_iload_n 81 C dX4_of_80 rfl 1 rfl ?_
            obtain ⟨hi14, hf⟩ := zz_chk hf
            refine zz_iald 82 C sc_8 dX4_of_81 rfl hi14 ?_
            obtain ⟨r17, M16, hc15, hf⟩ := zz_b2E hf
            refine zz_callS 85 [.int (M2 8 a1.toNatClampNeg)] C dX4_of_82 rfl ml_X4_113 (k_X4_orNone hc15) rfl rfl rfl (Nat.le_of_ble_eq_true rfl) (zz_hR (Nat.le_of_ble_eq_true rfl) (Nat.le_of_ble_eq_true rfl)) ?_
            cases hf
            exact zz_iret C dX4_of_85 rfl rfl
          · rw [if_neg h13] at hf
            have eh5 := lv_neT h5 (show (0 : Int32).toInt = 0 from by decide)
            have eh7 := lv_neT h7 (show (1 : Int32).toInt = 1 from by decide)
            have eh9 := lv_neT h9 (show (2 : Int32).toInt = 2 from by decide)
            have eh13 := lv_neT h13 (show (3 : Int32).toInt = 3 from by decide)
            refine zz_tabOut 86 C dX4_of_14 (by omega) rfl ?_
            refine zz_iconst 87 C dX4_of_86 rfl zz_im1 ?_
            cases hf
            exact zz_iret C dX4_of_87 rfl rfl
  · refine zz_iconst 12 C dX4_of_11 rfl zz_im1 ?_
    cases hf
    exact zz_iret C dX4_of_12 rfl rfl
def f_X4_told (a1 a2 : Int32) (M : zz_Mem) : Option (Int32 × zz_Mem) := zz_b2 (f_X3_isTake a1 M) (fun r3 M2 => (if r3 = 0 then some ((-1), M2) else (if a2 = 0 then (if zz_in a1 16 then some (M2 12 a1.toNatClampNeg, M2) else none) else (if a2 = 1 then (if zz_in a1 16 then some (M2 13 a1.toNatClampNeg, M2) else none) else (if a2 = 2 then zz_b2 (f_X3_countThingsShownBy a1 M2) (fun r12 M11 => some (r12, M11)) else zz_b2 (f_X4_measureAsked a1 a2 M2) (fun r15 M14 => some (r15, M14)))))))
set_option maxHeartbeats 4000000 in
set_option maxRecDepth 100000 in
theorem k_X4_told {l : Launch} {D : va_G} {cI : ClassId} {ad : Nat → Nat} {a1 a2 : Int32} {r : Int32} {M M1 : zz_Mem} (hf : f_X4_told a1 a2 M = some (r, M1)) : zz_K l D zz_SC cI ad 2 yX4_told cX4_told 3 (some .int) [.ref (ad 0), .int a1, .int a2] M (some (.int r)) M1 := by
  unfold f_X4_told at hf
  refine zz_entry (own := RX4) (L := [(0, .ref (ad 0)), (1, .int a1), (2, .int a2)]) (by decide +kernel) rfl (Nat.le_of_ble_eq_true rfl) rfl (fun p e s m args below meth c C => ?_)
  refine zz_aload_n 1 C dX4_told_0 rfl 0 rfl ?_
  refine zz_getR 4 C dX4_told_1 rfl fl_X4_10 sc_0 rfl ?_
  refine zz_iload_n 5 C dX4_told_4 rfl 1 rfl ?_
  obtain ⟨r3, M2, hc1, hf⟩ := zz_b2E hf
  refine zz_callV 8 [.int a1] C dX4_told_5 rfl ml_X4_97 (k_X3_isTake hc1) sc_1 (vC := vwCl[3]) rfl rfl rfl rfl rfl (Nat.le_of_ble_eq_true rfl) (zz_hR (Nat.le_of_ble_eq_true rfl) (Nat.le_of_ble_eq_true rfl)) ?_
  refine zz_if_ne 11 13 C dX4_told_8 rfl rfl hf (fun h4 hf => ?_) (fun h4 hf => ?_)
  · refine zz_iload_n 14 C dX4_told_13 rfl 2 rfl ?_
    by_cases h5 : a2 = 0
    · rw [if_pos h5] at hf
      refine zz_tabIn 40 C dX4_told_14 h5 (by decide) (by decide) rfl rfl ?_
      refine zz_aload_n 41 C dX4_told_40 rfl 0 rfl ?_
      refine zz_getR 44 C dX4_told_41 rfl fl_X4_10 sc_0 rfl ?_
      refine zz_getR 47 C dX4_told_44 rfl fl_X4_116 sc_1 rfl ?_
      refine zz_iload_n 48 C dX4_told_47 rfl 1 rfl ?_
      obtain ⟨hi6, hf⟩ := zz_chk hf
      refine zz_iald 49 C sc_12 dX4_told_48 rfl hi6 ?_
      cases hf
      exact zz_iret C dX4_told_49 rfl rfl
    · rw [if_neg h5] at hf
      by_cases h7 : a2 = 1
      · rw [if_pos h7] at hf
        refine zz_tabIn 50 C dX4_told_14 h7 (by decide) (by decide) rfl rfl ?_
        refine zz_aload_n 51 C dX4_told_50 rfl 0 rfl ?_
        refine zz_getR 54 C dX4_told_51 rfl fl_X4_10 sc_0 rfl ?_
        refine zz_getR 57 C dX4_told_54 rfl fl_X4_119 sc_1 rfl ?_
        refine zz_iload_n 58 C dX4_told_57 rfl 1 rfl ?_
        obtain ⟨hi8, hf⟩ := zz_chk hf
        refine zz_iald 59 C sc_13 dX4_told_58 rfl hi8 ?_
        cases hf
        exact zz_iret C dX4_told_59 rfl rfl
      · rw [if_neg h7] at hf
        by_cases h9 : a2 = 2
        · rw [if_pos h9] at hf
          refine zz_tabIn 60 C dX4_told_14 h9 (by decide) (by decide) rfl rfl ?_
          refine zz_aload_n 61 C dX4_told_60 rfl 0 rfl ?_
          refine zz_getR 64 C dX4_told_61 rfl fl_X4_10 sc_0 rfl ?_
          refine zz_iload_n 65 C dX4_told_64 rfl 1 rfl ?_
          obtain ⟨r12, M11, hc10, hf⟩ := zz_b2E hf
          refine zz_callV 68 [.int a1] C dX4_told_65 rfl ml_X4_122 (k_X3_countThingsShownBy hc10) sc_1 (vC := vwCl[3]) rfl rfl rfl rfl rfl (Nat.le_of_ble_eq_true rfl) (zz_hR (Nat.le_of_ble_eq_true rfl) (Nat.le_of_ble_eq_true rfl)) ?_
          cases hf
          exact zz_iret C dX4_told_68 rfl rfl
        · rw [if_neg h9] at hf
          have eh5 := lv_neT h5 (show (0 : Int32).toInt = 0 from by decide)
          have eh7 := lv_neT h7 (show (1 : Int32).toInt = 1 from by decide)
          have eh9 := lv_neT h9 (show (2 : Int32).toInt = 2 from by decide)
          refine zz_tabOut 69 C dX4_told_14 (by omega) rfl ?_
          refine zz_aload_n 70 C dX4_told_69 rfl 0 rfl ?_
          refine zz_iload_n 71 C dX4_told_70 rfl 1 rfl ?_
          refine zz_iload_n 72 C dX4_told_71 rfl 2 rfl ?_
          obtain ⟨r15, M14, hc13, hf⟩ := zz_b2E hf
          refine zz_callV 75 [.int a1, .int a2] C dX4_told_72 rfl ml_X4_125 (k_X4_measureAsked hc13) sc_0 (vC := vwCl[4]) rfl rfl rfl rfl rfl (Nat.le_of_ble_eq_true rfl) (zz_hR (Nat.le_of_ble_eq_true rfl) (Nat.le_of_ble_eq_true rfl)) ?_
          cases hf
          exact zz_iret C dX4_told_75 rfl rfl
  · refine zz_iconst 12 C dX4_told_11 rfl zz_im1 ?_
    cases hf
    exact zz_iret C dX4_told_12 rfl rfl
def f_X4_thingOf (a1 a2 : Int32) (M : zz_Mem) : Option (Int32 × zz_Mem) := zz_b2 (f_X3_isThing a1 M) (fun r3 M2 => (if r3 = 0 then some ((-1), M2) else (if a2 = 0 then (if zz_in a1 6 then some (M2 9 a1.toNatClampNeg, M2) else none) else (if a2 = 1 then (if zz_in a1 6 then some (M2 10 a1.toNatClampNeg, M2) else none) else (if a2 = 2 then (if zz_in a1 6 then some (M2 11 a1.toNatClampNeg, M2) else none) else (if a2 = 3 then zz_b2 (f_X3_countTakesThatShow a1 M2) (fun r14 M13 => some (r14, M13)) else some ((-1), M2)))))))
set_option maxHeartbeats 4000000 in
set_option maxRecDepth 100000 in
theorem k_X4_thingOf {l : Launch} {D : va_G} {cI : ClassId} {ad : Nat → Nat} {a1 a2 : Int32} {r : Int32} {M M1 : zz_Mem} (hf : f_X4_thingOf a1 a2 M = some (r, M1)) : zz_K l D zz_SC cI ad 2 yX4_thingOf cX4_thingOf 3 (some .int) [.ref (ad 0), .int a1, .int a2] M (some (.int r)) M1 := by
  unfold f_X4_thingOf at hf
  refine zz_entry (own := RX4) (L := [(0, .ref (ad 0)), (1, .int a1), (2, .int a2)]) (by decide +kernel) rfl (Nat.le_of_ble_eq_true rfl) rfl (fun p e s m args below meth c C => ?_)
  refine zz_aload_n 1 C dX4_thingOf_0 rfl 0 rfl ?_
  refine zz_getR 4 C dX4_thingOf_1 rfl fl_X4_10 sc_0 rfl ?_
  refine zz_iload_n 5 C dX4_thingOf_4 rfl 1 rfl ?_
  obtain ⟨r3, M2, hc1, hf⟩ := zz_b2E hf
  refine zz_callV 8 [.int a1] C dX4_thingOf_5 rfl ml_X4_81 (k_X3_isThing hc1) sc_1 (vC := vwCl[3]) rfl rfl rfl rfl rfl (Nat.le_of_ble_eq_true rfl) (zz_hR (Nat.le_of_ble_eq_true rfl) (Nat.le_of_ble_eq_true rfl)) ?_
  refine zz_if_ne 11 13 C dX4_thingOf_8 rfl rfl hf (fun h4 hf => ?_) (fun h4 hf => ?_)
  · refine zz_iload_n 14 C dX4_thingOf_13 rfl 2 rfl ?_
    by_cases h5 : a2 = 0
    · rw [if_pos h5] at hf
      refine zz_tabIn 44 C dX4_thingOf_14 h5 (by decide) (by decide) rfl rfl ?_
      refine zz_aload_n 45 C dX4_thingOf_44 rfl 0 rfl ?_
      refine zz_getR 48 C dX4_thingOf_45 rfl fl_X4_10 sc_0 rfl ?_
      refine zz_getR 51 C dX4_thingOf_48 rfl fl_X4_128 sc_1 rfl ?_
      refine zz_iload_n 52 C dX4_thingOf_51 rfl 1 rfl ?_
      obtain ⟨hi6, hf⟩ := zz_chk hf
      refine zz_iald 53 C sc_9 dX4_thingOf_52 rfl hi6 ?_
      cases hf
      exact zz_iret C dX4_thingOf_53 rfl rfl
    · rw [if_neg h5] at hf
      by_cases h7 : a2 = 1
      · rw [if_pos h7] at hf
        refine zz_tabIn 54 C dX4_thingOf_14 h7 (by decide) (by decide) rfl rfl ?_
        refine zz_aload_n 55 C dX4_thingOf_54 rfl 0 rfl ?_
        refine zz_getR 58 C dX4_thingOf_55 rfl fl_X4_10 sc_0 rfl ?_
        refine zz_getR 61 C dX4_thingOf_58 rfl fl_X4_131 sc_1 rfl ?_
        refine zz_iload_n 62 C dX4_thingOf_61 rfl 1 rfl ?_
        obtain ⟨hi8, hf⟩ := zz_chk hf
        refine zz_iald 63 C sc_10 dX4_thingOf_62 rfl hi8 ?_
        cases hf
        exact zz_iret C dX4_thingOf_63 rfl rfl
      · rw [if_neg h7] at hf
        by_cases h9 : a2 = 2
        · rw [if_pos h9] at hf
          refine zz_tabIn 64 C dX4_thingOf_14 h9 (by decide) (by decide) rfl rfl ?_
          refine zz_aload_n 65 C dX4_thingOf_64 rfl 0 rfl ?_
          refine zz_getR 68 C dX4_thingOf_65 rfl fl_X4_10 sc_0 rfl ?_
          refine zz_getR 71 C dX4_thingOf_68 rfl fl_X4_84 sc_1 rfl ?_
          refine zz_iload_n 72 C dX4_thingOf_71 rfl 1 rfl ?_
          obtain ⟨hi10, hf⟩ := zz_chk hf
          refine zz_iald 73 C sc_11 dX4_thingOf_72 rfl hi10 ?_
          cases hf
          exact zz_iret C dX4_thingOf_73 rfl rfl
        · rw [if_neg h9] at hf
          by_cases h11 : a2 = 3
          · rw [if_pos h11] at hf
            refine zz_tabIn 74 C dX4_thingOf_14 h11 (by decide) (by decide) rfl rfl ?_
            refine zz_aload_n 75 C dX4_thingOf_74 rfl 0 rfl ?_
            refine zz_getR 78 C dX4_thingOf_75 rfl fl_X4_10 sc_0 rfl ?_
            refine zz_iload_n 79 C dX4_thingOf_78 rfl 1 rfl ?_
            obtain ⟨r14, M13, hc12, hf⟩ := zz_b2E hf
            refine zz_callV 82 [.int a1] C dX4_thingOf_79 rfl ml_X4_134 (k_X3_countTakesThatShow hc12) sc_1 (vC := vwCl[3]) rfl rfl rfl rfl rfl (Nat.le_of_ble_eq_true rfl) (zz_hR (Nat.le_of_ble_eq_true rfl) (Nat.le_of_ble_eq_true rfl)) ?_
            cases hf
            exact zz_iret C dX4_thingOf_82 rfl rfl
          · rw [if_neg h11] at hf
            have eh5 := lv_neT h5 (show (0 : Int32).toInt = 0 from by decide)
            have eh7 := lv_neT h7 (show (1 : Int32).toInt = 1 from by decide)
            have eh9 := lv_neT h9 (show (2 : Int32).toInt = 2 from by decide)
            have eh11 := lv_neT h11 (show (3 : Int32).toInt = 3 from by decide)
            refine zz_tabOut 83 C dX4_thingOf_14 (by omega) rfl ?_
            refine zz_iconst 84 C dX4_thingOf_83 rfl zz_im1 ?_
            cases hf
            exact zz_iret C dX4_thingOf_84 rfl rfl
  · refine zz_iconst 12 C dX4_thingOf_11 rfl zz_im1 ?_
    cases hf
    exact zz_iret C dX4_thingOf_12 rfl rfl
def f_X4_ahead (a1 a2 : Int32) (M : zz_Mem) : Option (Int32 × zz_Mem) := zz_b2 (f_X3_isScene a1 M) (fun r3 M2 => (if r3 = 0 then some ((-1), M2) else zz_b2 (f_X3_isScene a2 M2) (fun r7 M6 => (if r7 = 0 then some ((-1), M6) else zz_b2 (f_X3_orderOf a1 a2 M6) (fun r11 M10 => some (r11, M10))))))
set_option maxHeartbeats 4000000 in
set_option maxRecDepth 100000 in
theorem k_X4_ahead {l : Launch} {D : va_G} {cI : ClassId} {ad : Nat → Nat} {a1 a2 : Int32} {r : Int32} {M M1 : zz_Mem} (hf : f_X4_ahead a1 a2 M = some (r, M1)) : zz_K l D zz_SC cI ad 1 yX4_ahead cX4_ahead 3 (some .int) [.ref (ad 0), .int a1, .int a2] M (some (.int r)) M1 := by
  unfold f_X4_ahead at hf
  refine zz_entry (own := RX4) (L := [(0, .ref (ad 0)), (1, .int a1), (2, .int a2)]) (by decide +kernel) rfl (Nat.le_of_ble_eq_true rfl) rfl (fun p e s m args below meth c C => ?_)
  refine zz_aload_n 1 C dX4_ahead_0 rfl 0 rfl ?_
  refine zz_getR 4 C dX4_ahead_1 rfl fl_X4_10 sc_0 rfl ?_
  refine zz_iload_n 5 C dX4_ahead_4 rfl 1 rfl ?_
  obtain ⟨r3, M2, hc1, hf⟩ := zz_b2E hf
  refine zz_callV 8 [.int a1] C dX4_ahead_5 rfl ml_X4_56 (k_X3_isScene hc1) sc_1 (vC := vwCl[3]) rfl rfl rfl rfl rfl (Nat.le_of_ble_eq_true rfl) (zz_hR (Nat.le_of_ble_eq_true rfl) (Nat.le_of_ble_eq_true rfl)) ?_
  refine zz_if_eq 11 22 C dX4_ahead_8 rfl rfl hf (fun h4 hf => ?_) (fun h4 hf => ?_)
  · refine zz_iconst 23 C dX4_ahead_22 rfl zz_im1 ?_
    cases hf
    exact zz_iret C dX4_ahead_23 rfl rfl
  · refine zz_aload_n 12 C dX4_ahead_11 rfl 0 rfl ?_
    refine zz_getR 15 C dX4_ahead_12 rfl fl_X4_10 sc_0 rfl ?_
    refine zz_iload_n 16 C dX4_ahead_15 rfl 2 rfl ?_
    obtain ⟨r7, M6, hc5, hf⟩ := zz_b2E hf
    refine zz_callV 19 [.int a2] C dX4_ahead_16 rfl ml_X4_56 (k_X3_isScene hc5) sc_1 (vC := vwCl[3]) rfl rfl rfl rfl rfl (Nat.le_of_ble_eq_true rfl) (zz_hR (Nat.le_of_ble_eq_true rfl) (Nat.le_of_ble_eq_true rfl)) ?_
    refine zz_if_ne 22 24 C dX4_ahead_19 rfl rfl hf (fun h8 hf => ?_) (fun h8 hf => ?_)
    · refine zz_aload_n 25 C dX4_ahead_24 rfl 0 rfl ?_
      refine zz_getR 28 C dX4_ahead_25 rfl fl_X4_10 sc_0 rfl ?_
      refine zz_iload_n 29 C dX4_ahead_28 rfl 1 rfl ?_
      refine zz_iload_n 30 C dX4_ahead_29 rfl 2 rfl ?_
      obtain ⟨r11, M10, hc9, hf⟩ := zz_b2E hf
      refine zz_callV 33 [.int a1, .int a2] C dX4_ahead_30 rfl ml_X4_137 (k_X3_orderOf hc9) sc_1 (vC := vwCl[3]) rfl rfl rfl rfl rfl (Nat.le_of_ble_eq_true rfl) (zz_hR (Nat.le_of_ble_eq_true rfl) (Nat.le_of_ble_eq_true rfl)) ?_
      cases hf
      exact zz_iret C dX4_ahead_33 rfl rfl
    · refine zz_iconst 23 C dX4_ahead_22 rfl zz_im1 ?_
      cases hf
      exact zz_iret C dX4_ahead_23 rfl rfl
def f_X4_clash (a1 a2 a3 : Int32) (M : zz_Mem) : Option (Int32 × zz_Mem) := zz_b2 (f_X3_isTake a1 M) (fun r3 M2 => (if r3 = 0 then some ((-1), M2) else zz_b2 (f_X3_isTake a2 M2) (fun r7 M6 => (if r7 = 0 then some ((-1), M6) else zz_b2 (f_X3_isThing a3 M6) (fun r11 M10 => (if r11 = 0 then some ((-1), M10) else zz_b2 (f_X3_doClash a1 a2 a3 M10) (fun r15 M14 => (if r15 = 0 then some (0, M14) else some (1, M14)))))))))
set_option maxHeartbeats 4000000 in
set_option maxRecDepth 100000 in
theorem k_X4_clash {l : Launch} {D : va_G} {cI : ClassId} {ad : Nat → Nat} {a1 a2 a3 : Int32} {r : Int32} {M M1 : zz_Mem} (hf : f_X4_clash a1 a2 a3 M = some (r, M1)) : zz_K l D zz_SC cI ad 3 yX4_clash cX4_clash 4 (some .int) [.ref (ad 0), .int a1, .int a2, .int a3] M (some (.int r)) M1 := by
  unfold f_X4_clash at hf
  refine zz_entry (own := RX4) (L := [(0, .ref (ad 0)), (1, .int a1), (2, .int a2), (3, .int a3)]) (by decide +kernel) rfl (Nat.le_of_ble_eq_true rfl) rfl (fun p e s m args below meth c C => ?_)
  refine zz_aload_n 1 C dX4_clash_0 rfl 0 rfl ?_
  refine zz_getR 4 C dX4_clash_1 rfl fl_X4_10 sc_0 rfl ?_
  refine zz_iload_n 5 C dX4_clash_4 rfl 1 rfl ?_
  obtain ⟨r3, M2, hc1, hf⟩ := zz_b2E hf
  refine zz_callV 8 [.int a1] C dX4_clash_5 rfl ml_X4_97 (k_X3_isTake hc1) sc_1 (vC := vwCl[3]) rfl rfl rfl rfl rfl (Nat.le_of_ble_eq_true rfl) (zz_hR (Nat.le_of_ble_eq_true rfl) (Nat.le_of_ble_eq_true rfl)) ?_
  refine zz_if_eq 11 33 C dX4_clash_8 rfl rfl hf (fun h4 hf => ?_) (fun h4 hf => ?_)
  · refine zz_iconst 34 C dX4_clash_33 rfl zz_im1 ?_
    cases hf
    exact zz_iret C dX4_clash_34 rfl rfl
  · refine zz_aload_n 12 C dX4_clash_11 rfl 0 rfl ?_
    refine zz_getR 15 C dX4_clash_12 rfl fl_X4_10 sc_0 rfl ?_
    refine zz_iload_n 16 C dX4_clash_15 rfl 2 rfl ?_
    obtain ⟨r7, M6, hc5, hf⟩ := zz_b2E hf
    refine zz_callV 19 [.int a2] C dX4_clash_16 rfl ml_X4_97 (k_X3_isTake hc5) sc_1 (vC := vwCl[3]) rfl rfl rfl rfl rfl (Nat.le_of_ble_eq_true rfl) (zz_hR (Nat.le_of_ble_eq_true rfl) (Nat.le_of_ble_eq_true rfl)) ?_
    refine zz_if_eq 22 33 C dX4_clash_19 rfl rfl hf (fun h8 hf => ?_) (fun h8 hf => ?_)
    · refine zz_iconst 34 C dX4_clash_33 rfl zz_im1 ?_
      cases hf
      exact zz_iret C dX4_clash_34 rfl rfl
    · refine zz_aload_n 23 C dX4_clash_22 rfl 0 rfl ?_
      refine zz_getR 26 C dX4_clash_23 rfl fl_X4_10 sc_0 rfl ?_
      refine zz_iload_n 27 C dX4_clash_26 rfl 3 rfl ?_
      obtain ⟨r11, M10, hc9, hf⟩ := zz_b2E hf
      refine zz_callV 30 [.int a3] C dX4_clash_27 rfl ml_X4_81 (k_X3_isThing hc9) sc_1 (vC := vwCl[3]) rfl rfl rfl rfl rfl (Nat.le_of_ble_eq_true rfl) (zz_hR (Nat.le_of_ble_eq_true rfl) (Nat.le_of_ble_eq_true rfl)) ?_
      refine zz_if_ne 33 35 C dX4_clash_30 rfl rfl hf (fun h12 hf => ?_) (fun h12 hf => ?_)
      · refine zz_aload_n 36 C dX4_clash_35 rfl 0 rfl ?_
        refine zz_getR 39 C dX4_clash_36 rfl fl_X4_10 sc_0 rfl ?_
        refine zz_iload_n 40 C dX4_clash_39 rfl 1 rfl ?_
        refine zz_iload_n 41 C dX4_clash_40 rfl 2 rfl ?_
        refine zz_iload_n 42 C dX4_clash_41 rfl 3 rfl ?_
        obtain ⟨r15, M14, hc13, hf⟩ := zz_b2E hf
        refine zz_callV 45 [.int a1, .int a2, .int a3] C dX4_clash_42 rfl ml_X4_140 (k_X3_doClash hc13) sc_1 (vC := vwCl[3]) rfl rfl rfl rfl rfl (Nat.le_of_ble_eq_true rfl) (zz_hR (Nat.le_of_ble_eq_true rfl) (Nat.le_of_ble_eq_true rfl)) ?_
        refine zz_if_eq 48 52 C dX4_clash_45 rfl rfl hf (fun h16 hf => ?_) (fun h16 hf => ?_)
        · refine zz_iconst 53 C dX4_clash_52 rfl zz_i0 ?_
          cases hf
          exact zz_iret C dX4_clash_53 rfl rfl
        · refine zz_iconst 49 C dX4_clash_48 rfl zz_i1 ?_
          refine zz_goto 53 C dX4_clash_49 rfl ?_
          cases hf
          exact zz_iret C dX4_clash_53 rfl rfl
      · refine zz_iconst 34 C dX4_clash_33 rfl zz_im1 ?_
        cases hf
        exact zz_iret C dX4_clash_34 rfl rfl
def f_X4_noise (a1 a2 : Int32) (M : zz_Mem) : Option (Int32 × zz_Mem) := zz_b2 (f_X3_isTake a1 M) (fun r3 M2 => (if r3 = 0 then some ((-1), M2) else zz_b2 (f_X3_isTake a2 M2) (fun r7 M6 => (if r7 = 0 then some ((-1), M6) else zz_b2 (f_X3_noiseOf a1 a2 M6) (fun r11 M10 => some (r11, M10))))))
set_option maxHeartbeats 4000000 in
set_option maxRecDepth 100000 in
theorem k_X4_noise {l : Launch} {D : va_G} {cI : ClassId} {ad : Nat → Nat} {a1 a2 : Int32} {r : Int32} {M M1 : zz_Mem} (hf : f_X4_noise a1 a2 M = some (r, M1)) : zz_K l D zz_SC cI ad 4 yX4_noise cX4_noise 3 (some .int) [.ref (ad 0), .int a1, .int a2] M (some (.int r)) M1 := by
  unfold f_X4_noise at hf
  refine zz_entry (own := RX4) (L := [(0, .ref (ad 0)), (1, .int a1), (2, .int a2)]) (by decide +kernel) rfl (Nat.le_of_ble_eq_true rfl) rfl (fun p e s m args below meth c C => ?_)
  refine zz_aload_n 1 C dX4_noise_0 rfl 0 rfl ?_
  refine zz_getR 4 C dX4_noise_1 rfl fl_X4_10 sc_0 rfl ?_
  refine zz_iload_n 5 C dX4_noise_4 rfl 1 rfl ?_
  obtain ⟨r3, M2, hc1, hf⟩ := zz_b2E hf
  refine zz_callV 8 [.int a1] C dX4_noise_5 rfl ml_X4_97 (k_X3_isTake hc1) sc_1 (vC := vwCl[3]) rfl rfl rfl rfl rfl (Nat.le_of_ble_eq_true rfl) (zz_hR (Nat.le_of_ble_eq_true rfl) (Nat.le_of_ble_eq_true rfl)) ?_
  refine zz_if_eq 11 22 C dX4_noise_8 rfl rfl hf (fun h4 hf => ?_) (fun h4 hf => ?_)
  · refine zz_iconst 23 C dX4_noise_22 rfl zz_im1 ?_
    cases hf
    exact zz_iret C dX4_noise_23 rfl rfl
  · refine zz_aload_n 12 C dX4_noise_11 rfl 0 rfl ?_
    refine zz_getR 15 C dX4_noise_12 rfl fl_X4_10 sc_0 rfl ?_
    refine zz_iload_n 16 C dX4_noise_15 rfl 2 rfl ?_
    obtain ⟨r7, M6, hc5, hf⟩ := zz_b2E hf
    refine zz_callV 19 [.int a2] C dX4_noise_16 rfl ml_X4_97 (k_X3_isTake hc5) sc_1 (vC := vwCl[3]) rfl rfl rfl rfl rfl (Nat.le_of_ble_eq_true rfl) (zz_hR (Nat.le_of_ble_eq_true rfl) (Nat.le_of_ble_eq_true rfl)) ?_
    refine zz_if_ne 22 24 C dX4_noise_19 rfl rfl hf (fun h8 hf => ?_) (fun h8 hf => ?_)
    · refine zz_aload_n 25 C dX4_noise_24 rfl 0 rfl ?_
      refine zz_getR 28 C dX4_noise_25 rfl fl_X4_10 sc_0 rfl ?_
      refine zz_iload_n 29 C dX4_noise_28 rfl 1 rfl ?_
      refine zz_iload_n 30 C dX4_noise_29 rfl 2 rfl ?_
      obtain ⟨r11, M10, hc9, hf⟩ := zz_b2E hf
      refine zz_callV 33 [.int a1, .int a2] C dX4_noise_30 rfl ml_X4_143 (k_X3_noiseOf hc9) sc_1 (vC := vwCl[3]) rfl rfl rfl rfl rfl (Nat.le_of_ble_eq_true rfl) (zz_hR (Nat.le_of_ble_eq_true rfl) (Nat.le_of_ble_eq_true rfl)) ?_
      cases hf
      exact zz_iret C dX4_noise_33 rfl rfl
    · refine zz_iconst 23 C dX4_noise_22 rfl zz_im1 ?_
      cases hf
      exact zz_iret C dX4_noise_23 rfl rfl
def f_X4_cost (M : zz_Mem) : Option (Int32 × zz_Mem) := zz_b1 (f_X0_find M) (fun M2 => some (M2 3 0, M2))
set_option maxHeartbeats 4000000 in
set_option maxRecDepth 100000 in
theorem k_X4_cost {l : Launch} {D : va_G} {cI : ClassId} {ad : Nat → Nat} {r : Int32} {M M1 : zz_Mem} (hf : f_X4_cost M = some (r, M1)) : zz_K l D zz_SC cI ad 10 yX4_cost cX4_cost 1 (some .int) [.ref (ad 0)] M (some (.int r)) M1 := by
  unfold f_X4_cost at hf
  refine zz_entry (own := RX4) (L := [(0, .ref (ad 0))]) (by decide +kernel) rfl (Nat.le_of_ble_eq_true rfl) rfl (fun p e s m args below meth c C => ?_)
  refine zz_aload_n 1 C dX4_cost_0 rfl 0 rfl ?_
  refine zz_getR 4 C dX4_cost_1 rfl fl_X4_26 sc_0 rfl ?_
  refine zz_aload_n 5 C dX4_cost_4 rfl 0 rfl ?_
  refine zz_getR 8 C dX4_cost_5 rfl fl_X4_10 sc_0 rfl ?_
  obtain ⟨M2, hc1, hf⟩ := zz_b1E hf
  refine zz_callV 11 [.ref (ad 1)] C dX4_cost_8 rfl ml_X4_146 (k_X0_find hc1) sc_3 (vC := vwCl[0]) rfl rfl rfl rfl rfl (Nat.le_of_ble_eq_true rfl) (zz_hR (Nat.le_of_ble_eq_true rfl) (Nat.le_of_ble_eq_true rfl)) ?_
  refine zz_aload_n 12 C dX4_cost_11 rfl 0 rfl ?_
  refine zz_getR 15 C dX4_cost_12 rfl fl_X4_26 sc_0 rfl ?_
  refine zz_getI 18 C dX4_cost_15 rfl fl_X4_150 sc_3 rfl ?_
  cases hf
  exact zz_iret C dX4_cost_18 rfl rfl
def f_X4_cut (a1 : Int32) (M : zz_Mem) : Option (Int32 × zz_Mem) := zz_b2 (f_X3_isScene a1 M) (fun r3 M2 => (if r3 = 0 then some ((-1), M2) else zz_b1 (f_X0_find M2) (fun M6 => (if zz_in a1 6 then zz_b2 (f_X4_orNone (M6 24 a1.toNatClampNeg) M6) (fun r10 M9 => some (r10, M9)) else none))))
set_option maxHeartbeats 4000000 in
set_option maxRecDepth 100000 in
theorem k_X4_cut {l : Launch} {D : va_G} {cI : ClassId} {ad : Nat → Nat} {a1 : Int32} {r : Int32} {M M1 : zz_Mem} (hf : f_X4_cut a1 M = some (r, M1)) : zz_K l D zz_SC cI ad 10 yX4_cut cX4_cut 2 (some .int) [.ref (ad 0), .int a1] M (some (.int r)) M1 := by
  unfold f_X4_cut at hf
  refine zz_entry (own := RX4) (L := [(0, .ref (ad 0)), (1, .int a1)]) (by decide +kernel) rfl (Nat.le_of_ble_eq_true rfl) rfl (fun p e s m args below meth c C => ?_)
  refine zz_aload_n 1 C dX4_cut_0 rfl 0 rfl ?_
  refine zz_getR 4 C dX4_cut_1 rfl fl_X4_10 sc_0 rfl ?_
  refine zz_iload_n 5 C dX4_cut_4 rfl 1 rfl ?_
  obtain ⟨r3, M2, hc1, hf⟩ := zz_b2E hf
  refine zz_callV 8 [.int a1] C dX4_cut_5 rfl ml_X4_56 (k_X3_isScene hc1) sc_1 (vC := vwCl[3]) rfl rfl rfl rfl rfl (Nat.le_of_ble_eq_true rfl) (zz_hR (Nat.le_of_ble_eq_true rfl) (Nat.le_of_ble_eq_true rfl)) ?_
  refine zz_if_ne 11 13 C dX4_cut_8 rfl rfl hf (fun h4 hf => ?_) (fun h4 hf => ?_)
  · refine zz_aload_n 14 C dX4_cut_13 rfl 0 rfl ?_
    refine zz_getR 17 C dX4_cut_14 rfl fl_X4_26 sc_0 rfl ?_
    refine zz_aload_n 18 C dX4_cut_17 rfl 0 rfl ?_
    refine zz_getR 21 C dX4_cut_18 rfl fl_X4_10 sc_0 rfl ?_
    obtain ⟨M6, hc5, hf⟩ := zz_b1E hf
    refine zz_callV 24 [.ref (ad 1)] C dX4_cut_21 rfl ml_X4_146 (k_X0_find hc5) sc_3 (vC := vwCl[0]) rfl rfl rfl rfl rfl (Nat.le_of_ble_eq_true rfl) (zz_hR (Nat.le_of_ble_eq_true rfl) (Nat.le_of_ble_eq_true rfl)) ?_
    refine zz_aload_n 25 C dX4_cut_24 rfl 0 rfl ?_
    refine zz_getR 28 C dX4_cut_25 rfl fl_X4_26 sc_0 rfl ?_
    refine zz_getR 31 C dX4_cut_28 rfl fl_X4_153 sc_3 rfl ?_
    refine zz_iload_n 32 C dX4_cut_31 rfl 1 rfl ?_
    obtain ⟨hi7, hf⟩ := zz_chk hf
    refine zz_iald 33 C sc_24 dX4_cut_32 rfl hi7 ?_
    obtain ⟨r10, M9, hc8, hf⟩ := zz_b2E hf
    refine zz_callS 36 [.int (M6 24 a1.toNatClampNeg)] C dX4_cut_33 rfl ml_X4_113 (k_X4_orNone hc8) rfl rfl rfl (Nat.le_of_ble_eq_true rfl) (zz_hR (Nat.le_of_ble_eq_true rfl) (Nat.le_of_ble_eq_true rfl)) ?_
    cases hf
    exact zz_iret C dX4_cut_36 rfl rfl
  · refine zz_iconst 12 C dX4_cut_11 rfl zz_im1 ?_
    cases hf
    exact zz_iret C dX4_cut_12 rfl rfl
def f_X4_choose (a1 a2 : Int32) (M : zz_Mem) : Option (Int32 × zz_Mem) := (if a2 = (-1) then zz_b2 (f_X3_isScene a1 M) (fun r4 M3 => (if r4 = 0 then some ((-5), M3) else (if a2 = (-1) then (if zz_in a1 6 then some (M3 8 a1.toNatClampNeg, zz_up M3 8 a1.toNatClampNeg a2) else none) else (if zz_in a2 16 then (if (M3 12 a2.toNatClampNeg) = a1 then (if zz_in a1 6 then some (M3 8 a1.toNatClampNeg, zz_up M3 8 a1.toNatClampNeg a2) else none) else some ((-3), M3)) else none)))) else zz_b2 (f_X3_isTake a2 M) (fun r13 M12 => (if r13 = 0 then zz_b2 (f_X3_isScene a1 M12) (fun r17 M16 => (if r17 = 0 then some ((-5), M16) else some ((-5), M16))) else zz_b2 (f_X3_isScene a1 M12) (fun r21 M20 => (if r21 = 0 then some ((-5), M20) else (if a2 = (-1) then (if zz_in a1 6 then some (M20 8 a1.toNatClampNeg, zz_up M20 8 a1.toNatClampNeg a2) else none) else (if zz_in a2 16 then (if (M20 12 a2.toNatClampNeg) = a1 then (if zz_in a1 6 then some (M20 8 a1.toNatClampNeg, zz_up M20 8 a1.toNatClampNeg a2) else none) else some ((-3), M20)) else none)))))))
set_option maxHeartbeats 4000000 in
set_option maxRecDepth 100000 in
theorem k_X4_choose {l : Launch} {D : va_G} {cI : ClassId} {ad : Nat → Nat} {a1 a2 : Int32} {r : Int32} {M M1 : zz_Mem} (hf : f_X4_choose a1 a2 M = some (r, M1)) : zz_K l D zz_SC cI ad 1 yX4_choose cX4_choose 5 (some .int) [.ref (ad 0), .int a1, .int a2] M (some (.int r)) M1 := by
  unfold f_X4_choose at hf
  refine zz_entry (own := RX4) (L := [(0, .ref (ad 0)), (1, .int a1), (2, .int a2)]) (by decide +kernel) rfl (Nat.le_of_ble_eq_true rfl) rfl (fun p e s m args below meth c C => ?_)
  refine zz_iload_n 1 C dX4_choose_0 rfl 2 rfl ?_
  refine zz_iconst 2 C dX4_choose_1 rfl zz_im1 ?_
  refine zz_icmp_eq 5 16 C dX4_choose_2 rfl rfl hf (fun h1 hf => ?_) (fun h1 hf => ?_)
  · refine zz_iconst 17 C dX4_choose_16 rfl zz_i1 ?_
    refine zz_goto 21 C dX4_choose_17 rfl ?_
    refine zz_istore_n (L' := [(3, .int 1), (0, .ref (ad 0)), (1, .int a1), (2, .int a2)]) 22 C dX4_choose_21 rfl (Nat.le_of_ble_eq_true rfl) rfl ?_
    refine zz_aload_n 23 C dX4_choose_22 rfl 1 rfl ?_
    refine zz_getR 26 C dX4_choose_23 rfl fl_X4_10 sc_0 rfl ?_
    refine zz_iload_n 27 C dX4_choose_26 rfl 2 rfl ?_
    obtain ⟨r4, M3, hc2, hf⟩ := zz_b2E hf
    refine zz_callV 30 [.int a1] C dX4_choose_27 rfl ml_X4_56 (k_X3_isScene hc2) sc_1 (vC := vwCl[3]) rfl rfl rfl rfl rfl (Nat.le_of_ble_eq_true rfl) (zz_hR (Nat.le_of_ble_eq_true rfl) (Nat.le_of_ble_eq_true rfl)) ?_
    refine zz_if_eq 33 37 C dX4_choose_30 rfl rfl hf (fun h5 hf => ?_) (fun h5 hf => ?_)
    · refine zz_bipush 39 C dX4_choose_37 rfl zz_bpm5 ?_
      cases hf
      exact zz_iret C dX4_choose_39 rfl rfl
    · refine zz_iload_n 34 C dX4_choose_33 rfl 0 rfl ?_
      refine zz_if_neT 40 C dX4_choose_34 rfl (by decide) ?_
      refine zz_iload_n 41 C dX4_choose_40 rfl 3 rfl ?_
      refine zz_iconst 42 C dX4_choose_41 rfl zz_im1 ?_
      refine zz_icmp_eq 45 61 C dX4_choose_42 rfl rfl hf (fun h6 hf => ?_) (fun h6 hf => ?_)
      · refine zz_aload_n 62 C dX4_choose_61 rfl 1 rfl ?_
        refine zz_getR 65 C dX4_choose_62 rfl fl_X4_10 sc_0 rfl ?_
        refine zz_getR 68 C dX4_choose_65 rfl fl_X4_110 sc_1 rfl ?_
        refine zz_iload_n 69 C dX4_choose_68 rfl 2 rfl ?_
        obtain ⟨hi7, hf⟩ := zz_chk hf
        refine zz_iald 70 C sc_8 dX4_choose_69 rfl hi7 ?_
        refine zz_istore (L' := [(4, .int (M3 8 a1.toNatClampNeg)), (3, .int 1), (0, .ref (ad 0)), (1, .int a1), (2, .int a2)]) 72 C dX4_choose_70 rfl (Nat.le_of_ble_eq_true rfl) rfl ?_
        refine zz_aload_n 73 C dX4_choose_72 rfl 2 rfl ?_
        refine zz_getR 76 C dX4_choose_73 rfl fl_X4_10 sc_0 rfl ?_
        refine zz_getR 79 C dX4_choose_76 rfl fl_X4_110 sc_1 rfl ?_
        refine zz_iload_n 80 C dX4_choose_79 rfl 3 rfl ?_
        refine zz_iload_n 81 C dX4_choose_80 rfl 4 rfl ?_
        refine zz_iast 82 C sc_8 dX4_choose_81 rfl hi7 ?_
        refine zz_iload 84 C dX4_choose_82 rfl 0 rfl ?_
        cases hf
        exact zz_iret C dX4_choose_84 rfl rfl
      · refine zz_aload_n 46 C dX4_choose_45 rfl 1 rfl ?_
        refine zz_getR 49 C dX4_choose_46 rfl fl_X4_10 sc_0 rfl ?_
        refine zz_getR 52 C dX4_choose_49 rfl fl_X4_116 sc_1 rfl ?_
        refine zz_iload_n 53 C dX4_choose_52 rfl 3 rfl ?_
        obtain ⟨hi8, hf⟩ := zz_chk hf
        refine zz_iald 54 C sc_12 dX4_choose_53 rfl hi8 ?_
        refine zz_iload_n 55 C dX4_choose_54 rfl 2 rfl ?_
        refine zz_icmp_eq 58 61 C dX4_choose_55 rfl rfl hf (fun h9 hf => ?_) (fun h9 hf => ?_)
        · refine zz_aload_n 62 C dX4_choose_61 rfl 1 rfl ?_
          refine zz_getR 65 C dX4_choose_62 rfl fl_X4_10 sc_0 rfl ?_
          refine zz_getR 68 C dX4_choose_65 rfl fl_X4_110 sc_1 rfl ?_
          refine zz_iload_n 69 C dX4_choose_68 rfl 2 rfl ?_
          obtain ⟨hi10, hf⟩ := zz_chk hf
          refine zz_iald 70 C sc_8 dX4_choose_69 rfl hi10 ?_
          refine zz_istore (L' := [(4, .int (M3 8 a1.toNatClampNeg)), (3, .int 1), (0, .ref (ad 0)), (1, .int a1), (2, .int a2)]) 72 C dX4_choose_70 rfl (Nat.le_of_ble_eq_true rfl) rfl ?_
          refine zz_aload_n 73 C dX4_choose_72 rfl 2 rfl ?_
          refine zz_getR 76 C dX4_choose_73 rfl fl_X4_10 sc_0 rfl ?_
          refine zz_getR 79 C dX4_choose_76 rfl fl_X4_110 sc_1 rfl ?_
          refine zz_iload_n 80 C dX4_choose_79 rfl 3 rfl ?_
          refine zz_iload_n 81 C dX4_choose_80 rfl 4 rfl ?_
          refine zz_iast 82 C sc_8 dX4_choose_81 rfl hi10 ?_
          refine zz_iload 84 C dX4_choose_82 rfl 0 rfl ?_
          cases hf
          exact zz_iret C dX4_choose_84 rfl rfl
        · refine zz_bipush 60 C dX4_choose_58 rfl zz_bpm3 ?_
          cases hf
          exact zz_iret C dX4_choose_60 rfl rfl
  · refine zz_aload_n 6 C dX4_choose_5 rfl 0 rfl ?_
    refine zz_getR 9 C dX4_choose_6 rfl fl_X4_10 sc_0 rfl ?_
    refine zz_iload_n 10 C dX4_choose_9 rfl 2 rfl ?_
    obtain ⟨r13, M12, hc11, hf⟩ := zz_b2E hf
    refine zz_callV 13 [.int a2] C dX4_choose_10 rfl ml_X4_97 (k_X3_isTake hc11) sc_1 (vC := vwCl[3]) rfl rfl rfl rfl rfl (Nat.le_of_ble_eq_true rfl) (zz_hR (Nat.le_of_ble_eq_true rfl) (Nat.le_of_ble_eq_true rfl)) ?_
    refine zz_if_eq 16 20 C dX4_choose_13 rfl rfl hf (fun h14 hf => ?_) (fun h14 hf => ?_)
    · refine zz_iconst 21 C dX4_choose_20 rfl zz_i0 ?_
      refine zz_istore_n (L' := [(3, .int 0), (0, .ref (ad 0)), (1, .int a1), (2, .int a2)]) 22 C dX4_choose_21 rfl (Nat.le_of_ble_eq_true rfl) rfl ?_
      refine zz_aload_n 23 C dX4_choose_22 rfl 1 rfl ?_
      refine zz_getR 26 C dX4_choose_23 rfl fl_X4_10 sc_0 rfl ?_
      refine zz_iload_n 27 C dX4_choose_26 rfl 2 rfl ?_
      obtain ⟨r17, M16, hc15, hf⟩ := zz_b2E hf
      refine zz_callV 30 [.int a1] C dX4_choose_27 rfl ml_X4_56 (k_X3_isScene hc15) sc_1 (vC := vwCl[3]) rfl rfl rfl rfl rfl (Nat.le_of_ble_eq_true rfl) (zz_hR (Nat.le_of_ble_eq_true rfl) (Nat.le_of_ble_eq_true rfl)) ?_
      refine zz_if_eq 33 37 C dX4_choose_30 rfl rfl hf (fun h18 hf => ?_) (fun h18 hf => ?_)
      · refine zz_bipush 39 C dX4_choose_37 rfl zz_bpm5 ?_
        cases hf
        exact zz_iret C dX4_choose_39 rfl rfl
      · refine zz_iload_n 34 C dX4_choose_33 rfl 0 rfl ?_
        refine zz_if_neF 37 40 C dX4_choose_34 rfl rfl (by decide) ?_
        refine zz_bipush 39 C dX4_choose_37 rfl zz_bpm5 ?_
        cases hf
        exact zz_iret C dX4_choose_39 rfl rfl
    · refine zz_iconst 17 C dX4_choose_16 rfl zz_i1 ?_
      refine zz_goto 21 C dX4_choose_17 rfl ?_
      refine zz_istore_n (L' := [(3, .int 1), (0, .ref (ad 0)), (1, .int a1), (2, .int a2)]) 22 C dX4_choose_21 rfl (Nat.le_of_ble_eq_true rfl) rfl ?_
      refine zz_aload_n 23 C dX4_choose_22 rfl 1 rfl ?_
      refine zz_getR 26 C dX4_choose_23 rfl fl_X4_10 sc_0 rfl ?_
      refine zz_iload_n 27 C dX4_choose_26 rfl 2 rfl ?_
      obtain ⟨r21, M20, hc19, hf⟩ := zz_b2E hf
      refine zz_callV 30 [.int a1] C dX4_choose_27 rfl ml_X4_56 (k_X3_isScene hc19) sc_1 (vC := vwCl[3]) rfl rfl rfl rfl rfl (Nat.le_of_ble_eq_true rfl) (zz_hR (Nat.le_of_ble_eq_true rfl) (Nat.le_of_ble_eq_true rfl)) ?_
      refine zz_if_eq 33 37 C dX4_choose_30 rfl rfl hf (fun h22 hf => ?_) (fun h22 hf => ?_)
      · refine zz_bipush 39 C dX4_choose_37 rfl zz_bpm5 ?_
        cases hf
        exact zz_iret C dX4_choose_39 rfl rfl
      · refine zz_iload_n 34 C dX4_choose_33 rfl 0 rfl ?_
        refine zz_if_neT 40 C dX4_choose_34 rfl (by decide) ?_
        refine zz_iload_n 41 C dX4_choose_40 rfl 3 rfl ?_
        refine zz_iconst 42 C dX4_choose_41 rfl zz_im1 ?_
        refine zz_icmp_eq 45 61 C dX4_choose_42 rfl rfl hf (fun h23 hf => ?_) (fun h23 hf => ?_)
        · refine zz_aload_n 62 C dX4_choose_61 rfl 1 rfl ?_
          refine zz_getR 65 C dX4_choose_62 rfl fl_X4_10 sc_0 rfl ?_
          refine zz_getR 68 C dX4_choose_65 rfl fl_X4_110 sc_1 rfl ?_
          refine zz_iload_n 69 C dX4_choose_68 rfl 2 rfl ?_
          obtain ⟨hi24, hf⟩ := zz_chk hf
          refine zz_iald 70 C sc_8 dX4_choose_69 rfl hi24 ?_
          refine zz_istore (L' := [(4, .int (M20 8 a1.toNatClampNeg)), (3, .int 1), (0, .ref (ad 0)), (1, .int a1), (2, .int a2)]) 72 C dX4_choose_70 rfl (Nat.le_of_ble_eq_true rfl) rfl ?_
          refine zz_aload_n 73 C dX4_choose_72 rfl 2 rfl ?_
          refine zz_getR 76 C dX4_choose_73 rfl fl_X4_10 sc_0 rfl ?_
          refine zz_getR 79 C dX4_choose_76 rfl fl_X4_110 sc_1 rfl ?_
          refine zz_iload_n 80 C dX4_choose_79 rfl 3 rfl ?_
          refine zz_iload_n 81 C dX4_choose_80 rfl 4 rfl ?_
          refine zz_iast 82 C sc_8 dX4_choose_81 rfl hi24 ?_
          refine zz_iload 84 C dX4_choose_82 rfl 0 rfl ?_
          cases hf
          exact zz_iret C dX4_choose_84 rfl rfl
        · refine zz_aload_n 46 C dX4_choose_45 rfl 1 rfl ?_
          refine zz_getR 49 C dX4_choose_46 rfl fl_X4_10 sc_0 rfl ?_
          refine zz_getR 52 C dX4_choose_49 rfl fl_X4_116 sc_1 rfl ?_
          refine zz_iload_n 53 C dX4_choose_52 rfl 3 rfl ?_
          obtain ⟨hi25, hf⟩ := zz_chk hf
          refine zz_iald 54 C sc_12 dX4_choose_53 rfl hi25 ?_
          refine zz_iload_n 55 C dX4_choose_54 rfl 2 rfl ?_
          refine zz_icmp_eq 58 61 C dX4_choose_55 rfl rfl hf (fun h26 hf => ?_) (fun h26 hf => ?_)
          · refine zz_aload_n 62 C dX4_choose_61 rfl 1 rfl ?_
            refine zz_getR 65 C dX4_choose_62 rfl fl_X4_10 sc_0 rfl ?_
            refine zz_getR 68 C dX4_choose_65 rfl fl_X4_110 sc_1 rfl ?_
            refine zz_iload_n 69 C dX4_choose_68 rfl 2 rfl ?_
            obtain ⟨hi27, hf⟩ := zz_chk hf
            refine zz_iald 70 C sc_8 dX4_choose_69 rfl hi27 ?_
            refine zz_istore (L' := [(4, .int (M20 8 a1.toNatClampNeg)), (3, .int 1), (0, .ref (ad 0)), (1, .int a1), (2, .int a2)]) 72 C dX4_choose_70 rfl (Nat.le_of_ble_eq_true rfl) rfl ?_
            refine zz_aload_n 73 C dX4_choose_72 rfl 2 rfl ?_
            refine zz_getR 76 C dX4_choose_73 rfl fl_X4_10 sc_0 rfl ?_
            refine zz_getR 79 C dX4_choose_76 rfl fl_X4_110 sc_1 rfl ?_
            refine zz_iload_n 80 C dX4_choose_79 rfl 3 rfl ?_
            refine zz_iload_n 81 C dX4_choose_80 rfl 4 rfl ?_
            refine zz_iast 82 C sc_8 dX4_choose_81 rfl hi27 ?_
            refine zz_iload 84 C dX4_choose_82 rfl 0 rfl ?_
            cases hf
            exact zz_iret C dX4_choose_84 rfl rfl
          · refine zz_bipush 60 C dX4_choose_58 rfl zz_bpm3 ?_
            cases hf
            exact zz_iret C dX4_choose_60 rfl rfl
def f_X4_adopt_15 : Nat → Int32 → Int32 → zz_Mem → Option (Int32 × Int32 × zz_Mem)
  | 0, _, _, _ => none
  | n + 1, v1, v2, M => (if (M 1 0) ≤ v2 then some (v1, v2, M) else (if zz_in v2 6 then (if (M 8 v2.toNatClampNeg) = (M 24 v2.toNatClampNeg) then f_X4_adopt_15 n v1 (v2 + 1) (zz_up M 8 v2.toNatClampNeg (M 24 v2.toNatClampNeg)) else f_X4_adopt_15 n (v1 + 1) (v2 + 1) (zz_up M 8 v2.toNatClampNeg (M 24 v2.toNatClampNeg))) else none))
set_option maxHeartbeats 4000000 in
set_option maxRecDepth 100000 in
theorem l_X4_adopt_15 {p : Program} {l : Launch} {e : Env} {s : State} {m : MethodId} {args : Array Value} {below : List Frame} {meth : Method} {c : Code} {D : va_G} {cI : ClassId} {ad : Nat → Nat} {w : Option Value} {Mf : zz_Mem} (C : zz_C p (zz_rm 10) s m args meth c D cI RX4 cX4_adopt 3 (some .int) 0 0) {w1 w2 : Int32} {M1 : zz_Mem} : ∀ {n : Nat} {v1 v2 : Int32} {M : zz_Mem}, f_X4_adopt_15 n v1 v2 M = some (w1, w2, M1) → zz_V p l e (zz_rm 10) s m args below meth c D zz_SC cI ad (zz_A zz_SC ad) 3 0 0 (MQ below (zz_Q D zz_SC cI ad w Mf) args s 0 0 (zz_A zz_SC ad)) 74 [(0, .ref (ad 0)), (1, .int w1), (2, .int w2)] [] M1 → zz_V p l e (zz_rm 10) s m args below meth c D zz_SC cI ad (zz_A zz_SC ad) 3 0 0 (MQ below (zz_Q D zz_SC cI ad w Mf) args s 0 0 (zz_A zz_SC ad)) 15 [(0, .ref (ad 0)), (1, .int v1), (2, .int v2)] [] M := by
  intro n
  induction n with
  | zero =>
    intro v1 v2 M hf
    simp [f_X4_adopt_15] at hf
  | succ n ih0 =>
    intro v1 v2 M hf hex
    have ih := fun v1 v2 M hf => @ih0 v1 v2 M hf
    rw [f_X4_adopt_15] at hf
    refine zz_iload_n 16 C dX4_adopt_15 rfl 2 rfl ?_
    refine zz_aload_n 17 C dX4_adopt_16 rfl 0 rfl ?_
    refine zz_getR 20 C dX4_adopt_17 rfl fl_X4_10 sc_0 rfl ?_
    refine zz_getI 23 C dX4_adopt_20 rfl fl_X4_48 sc_1 rfl ?_
    refine zz_icmp_ge 26 74 C dX4_adopt_23 rfl rfl hf (fun h3 hf => ?_) (fun h3 hf => ?_)
    · cases hf
      exact zz_sub [0, 1, 2] rfl hex
    · refine zz_aload_n 27 C dX4_adopt_26 rfl 0 rfl ?_
      refine zz_getR 30 C dX4_adopt_27 rfl fl_X4_10 sc_0 rfl ?_
      refine zz_getR 33 C dX4_adopt_30 rfl fl_X4_110 sc_1 rfl ?_
      refine zz_iload_n 34 C dX4_adopt_33 rfl 2 rfl ?_
      obtain ⟨hi4, hf⟩ := zz_chk hf
      refine zz_iald 35 C sc_8 dX4_adopt_34 rfl hi4 ?_
      refine zz_aload_n 36 C dX4_adopt_35 rfl 0 rfl ?_
      refine zz_getR 39 C dX4_adopt_36 rfl fl_X4_26 sc_0 rfl ?_
      refine zz_getR 42 C dX4_adopt_39 rfl fl_X4_153 sc_3 rfl ?_
      refine zz_iload_n 43 C dX4_adopt_42 rfl 2 rfl ?_
      refine zz_iald 44 C sc_24 dX4_adopt_43 rfl hi4 ?_
      refine zz_icmp_eq 47 50 C dX4_adopt_44 rfl rfl hf (fun h5 hf => ?_) (fun h5 hf => ?_)
      · refine zz_aload_n 51 C dX4_adopt_50 rfl 0 rfl ?_
        refine zz_getR 54 C dX4_adopt_51 rfl fl_X4_10 sc_0 rfl ?_
        refine zz_getR 57 C dX4_adopt_54 rfl fl_X4_110 sc_1 rfl ?_
        refine zz_iload_n 58 C dX4_adopt_57 rfl 2 rfl ?_
        refine zz_aload_n 59 C dX4_adopt_58 rfl 0 rfl ?_
        refine zz_getR 62 C dX4_adopt_59 rfl fl_X4_26 sc_0 rfl ?_
        refine zz_getR 65 C dX4_adopt_62 rfl fl_X4_153 sc_3 rfl ?_
        refine zz_iload_n 66 C dX4_adopt_65 rfl 2 rfl ?_
        refine zz_iald 67 C sc_24 dX4_adopt_66 rfl hi4 ?_
        refine zz_iast 68 C sc_8 dX4_adopt_67 rfl hi4 ?_
        refine zz_iinc (L' := [(2, .int (v2 + 1)), (0, .ref (ad 0)), (1, .int v1)]) 71 C dX4_adopt_68 rfl zz_i1 2 rfl (Nat.le_of_ble_eq_true rfl) rfl ?_
        refine zz_goto 15 C dX4_adopt_71 rfl ?_
        exact zz_sub [1, 2, 0] rfl (ih _ _ _ hf hex)
      · refine zz_iinc (L' := [(1, .int (v1 + 1)), (0, .ref (ad 0)), (2, .int v2)]) 50 C dX4_adopt_47 rfl zz_i1 1 rfl (Nat.le_of_ble_eq_true rfl) rfl ?_
        refine zz_aload_n 51 C dX4_adopt_50 rfl 1 rfl ?_
        refine zz_getR 54 C dX4_adopt_51 rfl fl_X4_10 sc_0 rfl ?_
        refine zz_getR 57 C dX4_adopt_54 rfl fl_X4_110 sc_1 rfl ?_
        refine zz_iload_n 58 C dX4_adopt_57 rfl 2 rfl ?_
        refine zz_aload_n 59 C dX4_adopt_58 rfl 1 rfl ?_
        refine zz_getR 62 C dX4_adopt_59 rfl fl_X4_26 sc_0 rfl ?_
        refine zz_getR 65 C dX4_adopt_62 rfl fl_X4_153 sc_3 rfl ?_
        refine zz_iload_n 66 C dX4_adopt_65 rfl 2 rfl ?_
        refine zz_iald 67 C sc_24 dX4_adopt_66 rfl hi4 ?_
        refine zz_iast 68 C sc_8 dX4_adopt_67 rfl hi4 ?_
        refine zz_iinc (L' := [(2, .int (v2 + 1)), (1, .int (v1 + 1)), (0, .ref (ad 0))]) 71 C dX4_adopt_68 rfl zz_i1 2 rfl (Nat.le_of_ble_eq_true rfl) rfl ?_
        refine zz_goto 15 C dX4_adopt_71 rfl ?_
        exact zz_sub [2, 1, 0] rfl (ih _ _ _ hf hex)
def f_X4_adopt (M : zz_Mem) : Option (Int32 × zz_Mem) := zz_b1 (f_X0_find M) (fun M2 => zz_b3 (f_X4_adopt_15 5000 0 0 M2) (fun w6 w7 M8 => some (w6, M8)))
set_option maxHeartbeats 4000000 in
set_option maxRecDepth 100000 in
theorem k_X4_adopt {l : Launch} {D : va_G} {cI : ClassId} {ad : Nat → Nat} {r : Int32} {M M1 : zz_Mem} (hf : f_X4_adopt M = some (r, M1)) : zz_K l D zz_SC cI ad 10 yX4_adopt cX4_adopt 3 (some .int) [.ref (ad 0)] M (some (.int r)) M1 := by
  unfold f_X4_adopt at hf
  refine zz_entry (own := RX4) (L := [(0, .ref (ad 0))]) (by decide +kernel) rfl (Nat.le_of_ble_eq_true rfl) rfl (fun p e s m args below meth c C => ?_)
  refine zz_aload_n 1 C dX4_adopt_0 rfl 0 rfl ?_
  refine zz_getR 4 C dX4_adopt_1 rfl fl_X4_26 sc_0 rfl ?_
  refine zz_aload_n 5 C dX4_adopt_4 rfl 0 rfl ?_
  refine zz_getR 8 C dX4_adopt_5 rfl fl_X4_10 sc_0 rfl ?_
  obtain ⟨M2, hc1, hf⟩ := zz_b1E hf
  refine zz_callV 11 [.ref (ad 1)] C dX4_adopt_8 rfl ml_X4_146 (k_X0_find hc1) sc_3 (vC := vwCl[0]) rfl rfl rfl rfl rfl (Nat.le_of_ble_eq_true rfl) (zz_hR (Nat.le_of_ble_eq_true rfl) (Nat.le_of_ble_eq_true rfl)) ?_
  refine zz_iconst 12 C dX4_adopt_11 rfl zz_i0 ?_
  refine zz_istore_n (L' := [(1, .int 0), (0, .ref (ad 0))]) 13 C dX4_adopt_12 rfl (Nat.le_of_ble_eq_true rfl) rfl ?_
  refine zz_iconst 14 C dX4_adopt_13 rfl zz_i0 ?_
  refine zz_istore_n (L' := [(2, .int 0), (1, .int 0), (0, .ref (ad 0))]) 15 C dX4_adopt_14 rfl (Nat.le_of_ble_eq_true rfl) rfl ?_
  obtain ⟨w6, w7, M8, hc9, hf⟩ := zz_b3E hf
  refine zz_sub [2, 1, 0] rfl (l_X4_adopt_15 C  hc9 ?_)
  refine zz_iload_n 75 C dX4_adopt_74 rfl 1 rfl ?_
  cases hf
  exact zz_iret C dX4_adopt_75 rfl rfl
def f_X4_chosen (M : zz_Mem) : Option (Int32 × zz_Mem) := zz_b2 (f_X3_costOfChosen M) (fun r3 M2 => some (r3, M2))
set_option maxHeartbeats 4000000 in
set_option maxRecDepth 100000 in
theorem k_X4_chosen {l : Launch} {D : va_G} {cI : ClassId} {ad : Nat → Nat} {r : Int32} {M M1 : zz_Mem} (hf : f_X4_chosen M = some (r, M1)) : zz_K l D zz_SC cI ad 6 yX4_chosen cX4_chosen 1 (some .int) [.ref (ad 0)] M (some (.int r)) M1 := by
  unfold f_X4_chosen at hf
  refine zz_entry (own := RX4) (L := [(0, .ref (ad 0))]) (by decide +kernel) rfl (Nat.le_of_ble_eq_true rfl) rfl (fun p e s m args below meth c C => ?_)
  refine zz_aload_n 1 C dX4_chosen_0 rfl 0 rfl ?_
  refine zz_getR 4 C dX4_chosen_1 rfl fl_X4_10 sc_0 rfl ?_
  obtain ⟨r3, M2, hc1, hf⟩ := zz_b2E hf
  refine zz_callV 7 [] C dX4_chosen_4 rfl ml_X4_156 (k_X3_costOfChosen hc1) sc_1 (vC := vwCl[3]) rfl rfl rfl rfl rfl (Nat.le_of_ble_eq_true rfl) (zz_hR (Nat.le_of_ble_eq_true rfl) (Nat.le_of_ble_eq_true rfl)) ?_
  cases hf
  exact zz_iret C dX4_chosen_7 rfl rfl
def f_X4_span (a1 a2 a3 : Int32) (M : zz_Mem) : Option (Int32 × zz_Mem) := zz_b2 (f_X3_isScene a1 M) (fun r3 M2 => (if r3 = 0 then some ((-1), M2) else zz_b2 (f_X3_isThing a2 M2) (fun r7 M6 => (if r7 = 0 then some ((-1), M6) else zz_b2 (f_X4_isBetween a3 0 2 M6) (fun r11 M10 => (if r11 = 0 then some ((-1), M10) else zz_b1 (f_X2_find a1 a2 M10) (fun M14 => zz_b2 (f_X2_sizeOf a1 M14) (fun r17 M16 => (if a3 = 2 then some (r17, M16) else (if r17 = 0 then some ((-4), M16) else (if a3 = 0 then (if zz_in a1 6 then some (M16 27 a1.toNatClampNeg, M16) else none) else (if zz_in a1 6 then some (M16 28 a1.toNatClampNeg, M16) else none))))))))))))
set_option maxHeartbeats 4000000 in
set_option maxRecDepth 100000 in
theorem k_X4_span {l : Launch} {D : va_G} {cI : ClassId} {ad : Nat → Nat} {a1 a2 a3 : Int32} {r : Int32} {M M1 : zz_Mem} (hf : f_X4_span a1 a2 a3 M = some (r, M1)) : zz_K l D zz_SC cI ad 5 yX4_span cX4_span 5 (some .int) [.ref (ad 0), .int a1, .int a2, .int a3] M (some (.int r)) M1 := by
  unfold f_X4_span at hf
  refine zz_entry (own := RX4) (L := [(0, .ref (ad 0)), (1, .int a1), (2, .int a2), (3, .int a3)]) (by decide +kernel) rfl (Nat.le_of_ble_eq_true rfl) rfl (fun p e s m args below meth c C => ?_)
  refine zz_aload_n 1 C dX4_span_0 rfl 0 rfl ?_
  refine zz_getR 4 C dX4_span_1 rfl fl_X4_10 sc_0 rfl ?_
  refine zz_iload_n 5 C dX4_span_4 rfl 1 rfl ?_
  obtain ⟨r3, M2, hc1, hf⟩ := zz_b2E hf
  refine zz_callV 8 [.int a1] C dX4_span_5 rfl ml_X4_56 (k_X3_isScene hc1) sc_1 (vC := vwCl[3]) rfl rfl rfl rfl rfl (Nat.le_of_ble_eq_true rfl) (zz_hR (Nat.le_of_ble_eq_true rfl) (Nat.le_of_ble_eq_true rfl)) ?_
  refine zz_if_eq 11 31 C dX4_span_8 rfl rfl hf (fun h4 hf => ?_) (fun h4 hf => ?_)
  · refine zz_iconst 32 C dX4_span_31 rfl zz_im1 ?_
    cases hf
    exact zz_iret C dX4_span_32 rfl rfl
  · refine zz_aload_n 12 C dX4_span_11 rfl 0 rfl ?_
    refine zz_getR 15 C dX4_span_12 rfl fl_X4_10 sc_0 rfl ?_
    refine zz_iload_n 16 C dX4_span_15 rfl 2 rfl ?_
    obtain ⟨r7, M6, hc5, hf⟩ := zz_b2E hf
    refine zz_callV 19 [.int a2] C dX4_span_16 rfl ml_X4_81 (k_X3_isThing hc5) sc_1 (vC := vwCl[3]) rfl rfl rfl rfl rfl (Nat.le_of_ble_eq_true rfl) (zz_hR (Nat.le_of_ble_eq_true rfl) (Nat.le_of_ble_eq_true rfl)) ?_
    refine zz_if_eq 22 31 C dX4_span_19 rfl rfl hf (fun h8 hf => ?_) (fun h8 hf => ?_)
    · refine zz_iconst 32 C dX4_span_31 rfl zz_im1 ?_
      cases hf
      exact zz_iret C dX4_span_32 rfl rfl
    · refine zz_iload_n 23 C dX4_span_22 rfl 3 rfl ?_
      refine zz_iconst 24 C dX4_span_23 rfl zz_i0 ?_
      refine zz_iconst 25 C dX4_span_24 rfl zz_i2 ?_
      obtain ⟨r11, M10, hc9, hf⟩ := zz_b2E hf
      refine zz_callS 28 [.int a3, .int 0, .int 2] C dX4_span_25 rfl ml_X4_70 (k_X4_isBetween hc9) rfl rfl rfl (Nat.le_of_ble_eq_true rfl) (zz_hR (Nat.le_of_ble_eq_true rfl) (Nat.le_of_ble_eq_true rfl)) ?_
      refine zz_if_ne 31 33 C dX4_span_28 rfl rfl hf (fun h12 hf => ?_) (fun h12 hf => ?_)
      · refine zz_aload_n 34 C dX4_span_33 rfl 0 rfl ?_
        refine zz_getR 37 C dX4_span_34 rfl fl_X4_33 sc_0 rfl ?_
        refine zz_aload_n 38 C dX4_span_37 rfl 0 rfl ?_
        refine zz_getR 41 C dX4_span_38 rfl fl_X4_10 sc_0 rfl ?_
        refine zz_iload_n 42 C dX4_span_41 rfl 1 rfl ?_
        refine zz_iload_n 43 C dX4_span_42 rfl 2 rfl ?_
        obtain ⟨M14, hc13, hf⟩ := zz_b1E hf
        refine zz_callV 46 [.ref (ad 1), .int a1, .int a2] C dX4_span_43 rfl ml_X4_160 (k_X2_find hc13) sc_4 (vC := vwCl[2]) rfl rfl rfl rfl rfl (Nat.le_of_ble_eq_true rfl) (zz_hR (Nat.le_of_ble_eq_true rfl) (Nat.le_of_ble_eq_true rfl)) ?_
        refine zz_aload_n 47 C dX4_span_46 rfl 0 rfl ?_
        refine zz_getR 50 C dX4_span_47 rfl fl_X4_33 sc_0 rfl ?_
        refine zz_iload_n 51 C dX4_span_50 rfl 1 rfl ?_
        obtain ⟨r17, M16, hc15, hf⟩ := zz_b2E hf
        refine zz_callV 54 [.int a1] C dX4_span_51 rfl ml_X4_163 (k_X2_sizeOf hc15) sc_4 (vC := vwCl[2]) rfl rfl rfl rfl rfl (Nat.le_of_ble_eq_true rfl) (zz_hR (Nat.le_of_ble_eq_true rfl) (Nat.le_of_ble_eq_true rfl)) ?_
        refine zz_istore (L' := [(4, .int r17), (0, .ref (ad 0)), (1, .int a1), (2, .int a2), (3, .int a3)]) 56 C dX4_span_54 rfl (Nat.le_of_ble_eq_true rfl) rfl ?_
        refine zz_iload_n 57 C dX4_span_56 rfl 4 rfl ?_
        refine zz_iconst 58 C dX4_span_57 rfl zz_i2 ?_
        refine zz_icmp_ne 61 64 C dX4_span_58 rfl rfl hf (fun h18 hf => ?_) (fun h18 hf => ?_)
        · refine zz_iload 66 C dX4_span_64 rfl 0 rfl ?_
          refine zz_if_ne 69 72 C dX4_span_66 rfl rfl hf (fun h19 hf => ?_) (fun h19 hf => ?_)
          · refine zz_iload_n 73 C dX4_span_72 rfl 4 rfl ?_
            refine zz_if_ne 76 88 C dX4_span_73 rfl rfl hf (fun h20 hf => ?_) (fun h20 hf => ?_)
            · refine zz_aload_n 89 C dX4_span_88 rfl 1 rfl ?_
              refine zz_getR 92 C dX4_span_89 rfl fl_X4_33 sc_0 rfl ?_
              refine zz_getR 95 C dX4_span_92 rfl fl_X4_169 sc_4 rfl ?_
              refine zz_iload_n 96 C dX4_span_95 rfl 2 rfl ?_
              obtain ⟨hi21, hf⟩ := zz_chk hf
              refine zz_iald 97 C sc_28 dX4_span_96 rfl hi21 ?_
              cases hf
              exact zz_iret C dX4_span_97 rfl rfl
            · refine zz_aload_n 77 C dX4_span_76 rfl 1 rfl ?_
              refine zz_getR 80 C dX4_span_77 rfl fl_X4_33 sc_0 rfl ?_
              refine zz_getR 83 C dX4_span_80 rfl fl_X4_166 sc_4 rfl ?_
              refine zz_iload_n 84 C dX4_span_83 rfl 2 rfl ?_
              obtain ⟨hi22, hf⟩ := zz_chk hf
              refine zz_iald 85 C sc_27 dX4_span_84 rfl hi22 ?_
              refine zz_goto 97 C dX4_span_85 rfl ?_
              cases hf
              exact zz_iret C dX4_span_97 rfl rfl
          · refine zz_bipush 71 C dX4_span_69 rfl zz_bpm4 ?_
            cases hf
            exact zz_iret C dX4_span_71 rfl rfl
        · refine zz_iload 63 C dX4_span_61 rfl 0 rfl ?_
          cases hf
          exact zz_iret C dX4_span_63 rfl rfl
      · refine zz_iconst 32 C dX4_span_31 rfl zz_im1 ?_
        cases hf
        exact zz_iret C dX4_span_32 rfl rfl
def f_X4_twin (a1 a2 a3 : Int32) (M : zz_Mem) : Option (Int32 × zz_Mem) := zz_b2 (f_X3_isThing a1 M) (fun r3 M2 => (if r3 = 0 then some ((-1), M2) else zz_b2 (f_X3_isSetOfScenes a2 M2) (fun r7 M6 => (if r7 = 0 then some ((-1), M6) else zz_b2 (f_X2_findDoubles a1 a2 M6) (fun r11 M10 => (if a3 < 0 then some ((-4), M10) else (if a3 < r11 then (if zz_in a3 6 then some (M10 29 a3.toNatClampNeg, M10) else none) else some ((-4), M10))))))))
set_option maxHeartbeats 4000000 in
set_option maxRecDepth 100000 in
theorem k_X4_twin {l : Launch} {D : va_G} {cI : ClassId} {ad : Nat → Nat} {a1 a2 a3 : Int32} {r : Int32} {M M1 : zz_Mem} (hf : f_X4_twin a1 a2 a3 M = some (r, M1)) : zz_K l D zz_SC cI ad 6 yX4_twin cX4_twin 5 (some .int) [.ref (ad 0), .int a1, .int a2, .int a3] M (some (.int r)) M1 := by
  unfold f_X4_twin at hf
  refine zz_entry (own := RX4) (L := [(0, .ref (ad 0)), (1, .int a1), (2, .int a2), (3, .int a3)]) (by decide +kernel) rfl (Nat.le_of_ble_eq_true rfl) rfl (fun p e s m args below meth c C => ?_)
  refine zz_aload_n 1 C dX4_twin_0 rfl 0 rfl ?_
  refine zz_getR 4 C dX4_twin_1 rfl fl_X4_10 sc_0 rfl ?_
  refine zz_iload_n 5 C dX4_twin_4 rfl 1 rfl ?_
  obtain ⟨r3, M2, hc1, hf⟩ := zz_b2E hf
  refine zz_callV 8 [.int a1] C dX4_twin_5 rfl ml_X4_81 (k_X3_isThing hc1) sc_1 (vC := vwCl[3]) rfl rfl rfl rfl rfl (Nat.le_of_ble_eq_true rfl) (zz_hR (Nat.le_of_ble_eq_true rfl) (Nat.le_of_ble_eq_true rfl)) ?_
  refine zz_if_eq 11 22 C dX4_twin_8 rfl rfl hf (fun h4 hf => ?_) (fun h4 hf => ?_)
  · refine zz_iconst 23 C dX4_twin_22 rfl zz_im1 ?_
    cases hf
    exact zz_iret C dX4_twin_23 rfl rfl
  · refine zz_aload_n 12 C dX4_twin_11 rfl 0 rfl ?_
    refine zz_getR 15 C dX4_twin_12 rfl fl_X4_10 sc_0 rfl ?_
    refine zz_iload_n 16 C dX4_twin_15 rfl 2 rfl ?_
    obtain ⟨r7, M6, hc5, hf⟩ := zz_b2E hf
    refine zz_callV 19 [.int a2] C dX4_twin_16 rfl ml_X4_172 (k_X3_isSetOfScenes hc5) sc_1 (vC := vwCl[3]) rfl rfl rfl rfl rfl (Nat.le_of_ble_eq_true rfl) (zz_hR (Nat.le_of_ble_eq_true rfl) (Nat.le_of_ble_eq_true rfl)) ?_
    refine zz_if_ne 22 24 C dX4_twin_19 rfl rfl hf (fun h8 hf => ?_) (fun h8 hf => ?_)
    · refine zz_aload_n 25 C dX4_twin_24 rfl 0 rfl ?_
      refine zz_getR 28 C dX4_twin_25 rfl fl_X4_33 sc_0 rfl ?_
      refine zz_aload_n 29 C dX4_twin_28 rfl 0 rfl ?_
      refine zz_getR 32 C dX4_twin_29 rfl fl_X4_10 sc_0 rfl ?_
      refine zz_iload_n 33 C dX4_twin_32 rfl 1 rfl ?_
      refine zz_iload_n 34 C dX4_twin_33 rfl 2 rfl ?_
      obtain ⟨r11, M10, hc9, hf⟩ := zz_b2E hf
      refine zz_callV 37 [.ref (ad 1), .int a1, .int a2] C dX4_twin_34 rfl ml_X4_175 (k_X2_findDoubles hc9) sc_4 (vC := vwCl[2]) rfl rfl rfl rfl rfl (Nat.le_of_ble_eq_true rfl) (zz_hR (Nat.le_of_ble_eq_true rfl) (Nat.le_of_ble_eq_true rfl)) ?_
      refine zz_istore (L' := [(4, .int r11), (0, .ref (ad 0)), (1, .int a1), (2, .int a2), (3, .int a3)]) 39 C dX4_twin_37 rfl (Nat.le_of_ble_eq_true rfl) rfl ?_
      refine zz_iload_n 40 C dX4_twin_39 rfl 4 rfl ?_
      refine zz_if_lt 43 49 C dX4_twin_40 rfl rfl hf (fun h12 hf => ?_) (fun h12 hf => ?_)
      · refine zz_bipush 51 C dX4_twin_49 rfl zz_bpm4 ?_
        cases hf
        exact zz_iret C dX4_twin_51 rfl rfl
      · refine zz_iload_n 44 C dX4_twin_43 rfl 4 rfl ?_
        refine zz_iload 46 C dX4_twin_44 rfl 0 rfl ?_
        refine zz_icmp_lt 49 52 C dX4_twin_46 rfl rfl hf (fun h13 hf => ?_) (fun h13 hf => ?_)
        · refine zz_aload_n 53 C dX4_twin_52 rfl 1 rfl ?_
          refine zz_getR 56 C dX4_twin_53 rfl fl_X4_33 sc_0 rfl ?_
          refine zz_getR 59 C dX4_twin_56 rfl fl_X4_179 sc_4 rfl ?_
          refine zz_iload_n 60 C dX4_twin_59 rfl 4 rfl ?_
          obtain ⟨hi14, hf⟩ := zz_chk hf
          refine zz_iald 61 C sc_29 dX4_twin_60 rfl hi14 ?_
          cases hf
          exact zz_iret C dX4_twin_61 rfl rfl
        · refine zz_bipush 51 C dX4_twin_49 rfl zz_bpm4 ?_
          cases hf
          exact zz_iret C dX4_twin_51 rfl rfl
    · refine zz_iconst 23 C dX4_twin_22 rfl zz_im1 ?_
      cases hf
      exact zz_iret C dX4_twin_23 rfl rfl
def f_X4_doubles (a1 a2 : Int32) (M : zz_Mem) : Option (Int32 × zz_Mem) := zz_b2 (f_X3_isThing a1 M) (fun r3 M2 => (if r3 = 0 then some ((-1), M2) else zz_b2 (f_X3_isSetOfScenes a2 M2) (fun r7 M6 => (if r7 = 0 then some ((-1), M6) else zz_b2 (f_X2_findDoubles a1 a2 M6) (fun r11 M10 => some (r11, M10))))))
set_option maxHeartbeats 4000000 in
set_option maxRecDepth 100000 in
theorem k_X4_doubles {l : Launch} {D : va_G} {cI : ClassId} {ad : Nat → Nat} {a1 a2 : Int32} {r : Int32} {M M1 : zz_Mem} (hf : f_X4_doubles a1 a2 M = some (r, M1)) : zz_K l D zz_SC cI ad 6 yX4_doubles cX4_doubles 3 (some .int) [.ref (ad 0), .int a1, .int a2] M (some (.int r)) M1 := by
  unfold f_X4_doubles at hf
  refine zz_entry (own := RX4) (L := [(0, .ref (ad 0)), (1, .int a1), (2, .int a2)]) (by decide +kernel) rfl (Nat.le_of_ble_eq_true rfl) rfl (fun p e s m args below meth c C => ?_)
  refine zz_aload_n 1 C dX4_doubles_0 rfl 0 rfl ?_
  refine zz_getR 4 C dX4_doubles_1 rfl fl_X4_10 sc_0 rfl ?_
  refine zz_iload_n 5 C dX4_doubles_4 rfl 1 rfl ?_
  obtain ⟨r3, M2, hc1, hf⟩ := zz_b2E hf
  refine zz_callV 8 [.int a1] C dX4_doubles_5 rfl ml_X4_81 (k_X3_isThing hc1) sc_1 (vC := vwCl[3]) rfl rfl rfl rfl rfl (Nat.le_of_ble_eq_true rfl) (zz_hR (Nat.le_of_ble_eq_true rfl) (Nat.le_of_ble_eq_true rfl)) ?_
  refine zz_if_eq 11 22 C dX4_doubles_8 rfl rfl hf (fun h4 hf => ?_) (fun h4 hf => ?_)
  · refine zz_iconst 23 C dX4_doubles_22 rfl zz_im1 ?_
    cases hf
    exact zz_iret C dX4_doubles_23 rfl rfl
  · refine zz_aload_n 12 C dX4_doubles_11 rfl 0 rfl ?_
    refine zz_getR 15 C dX4_doubles_12 rfl fl_X4_10 sc_0 rfl ?_
    refine zz_iload_n 16 C dX4_doubles_15 rfl 2 rfl ?_
    obtain ⟨r7, M6, hc5, hf⟩ := zz_b2E hf
    refine zz_callV 19 [.int a2] C dX4_doubles_16 rfl ml_X4_172 (k_X3_isSetOfScenes hc5) sc_1 (vC := vwCl[3]) rfl rfl rfl rfl rfl (Nat.le_of_ble_eq_true rfl) (zz_hR (Nat.le_of_ble_eq_true rfl) (Nat.le_of_ble_eq_true rfl)) ?_
    refine zz_if_ne 22 24 C dX4_doubles_19 rfl rfl hf (fun h8 hf => ?_) (fun h8 hf => ?_)
    · refine zz_aload_n 25 C dX4_doubles_24 rfl 0 rfl ?_
      refine zz_getR 28 C dX4_doubles_25 rfl fl_X4_33 sc_0 rfl ?_
      refine zz_aload_n 29 C dX4_doubles_28 rfl 0 rfl ?_
      refine zz_getR 32 C dX4_doubles_29 rfl fl_X4_10 sc_0 rfl ?_
      refine zz_iload_n 33 C dX4_doubles_32 rfl 1 rfl ?_
      refine zz_iload_n 34 C dX4_doubles_33 rfl 2 rfl ?_
      obtain ⟨r11, M10, hc9, hf⟩ := zz_b2E hf
      refine zz_callV 37 [.ref (ad 1), .int a1, .int a2] C dX4_doubles_34 rfl ml_X4_175 (k_X2_findDoubles hc9) sc_4 (vC := vwCl[2]) rfl rfl rfl rfl rfl (Nat.le_of_ble_eq_true rfl) (zz_hR (Nat.le_of_ble_eq_true rfl) (Nat.le_of_ble_eq_true rfl)) ?_
      cases hf
      exact zz_iret C dX4_doubles_37 rfl rfl
    · refine zz_iconst 23 C dX4_doubles_22 rfl zz_im1 ?_
      cases hf
      exact zz_iret C dX4_doubles_23 rfl rfl
def f_X4_reshoot (M : zz_Mem) : Option (Int32 × zz_Mem) := zz_b1 (f_X1_find M) (fun M2 => zz_b2 (f_X1_leastReshoots (M2 1 0) M2) (fun r5 M4 => some (r5, M4)))
set_option maxHeartbeats 4000000 in
set_option maxRecDepth 100000 in
theorem k_X4_reshoot {l : Launch} {D : va_G} {cI : ClassId} {ad : Nat → Nat} {r : Int32} {M M1 : zz_Mem} (hf : f_X4_reshoot M = some (r, M1)) : zz_K l D zz_SC cI ad 6 yX4_reshoot cX4_reshoot 1 (some .int) [.ref (ad 0)] M (some (.int r)) M1 := by
  unfold f_X4_reshoot at hf
  refine zz_entry (own := RX4) (L := [(0, .ref (ad 0))]) (by decide +kernel) rfl (Nat.le_of_ble_eq_true rfl) rfl (fun p e s m args below meth c C => ?_)
  refine zz_aload_n 1 C dX4_reshoot_0 rfl 0 rfl ?_
  refine zz_getR 4 C dX4_reshoot_1 rfl fl_X4_40 sc_0 rfl ?_
  refine zz_aload_n 5 C dX4_reshoot_4 rfl 0 rfl ?_
  refine zz_getR 8 C dX4_reshoot_5 rfl fl_X4_10 sc_0 rfl ?_
  obtain ⟨M2, hc1, hf⟩ := zz_b1E hf
  refine zz_callV 11 [.ref (ad 1)] C dX4_reshoot_8 rfl ml_X4_182 (k_X1_find hc1) sc_5 (vC := vwCl[1]) rfl rfl rfl rfl rfl (Nat.le_of_ble_eq_true rfl) (zz_hR (Nat.le_of_ble_eq_true rfl) (Nat.le_of_ble_eq_true rfl)) ?_
  refine zz_aload_n 12 C dX4_reshoot_11 rfl 0 rfl ?_
  refine zz_getR 15 C dX4_reshoot_12 rfl fl_X4_40 sc_0 rfl ?_
  refine zz_aload_n 16 C dX4_reshoot_15 rfl 0 rfl ?_
  refine zz_getR 19 C dX4_reshoot_16 rfl fl_X4_10 sc_0 rfl ?_
  refine zz_getI 22 C dX4_reshoot_19 rfl fl_X4_48 sc_1 rfl ?_
  obtain ⟨r5, M4, hc3, hf⟩ := zz_b2E hf
  refine zz_callV 25 [.int (M2 1 0)] C dX4_reshoot_22 rfl ml_X4_183 (k_X1_leastReshoots hc3) sc_5 (vC := vwCl[1]) rfl rfl rfl rfl rfl (Nat.le_of_ble_eq_true rfl) (zz_hR (Nat.le_of_ble_eq_true rfl) (Nat.le_of_ble_eq_true rfl)) ?_
  cases hf
  exact zz_iret C dX4_reshoot_25 rfl rfl
def f_X4_clashes (a1 : Int32) (M : zz_Mem) : Option (Int32 × zz_Mem) := zz_b2 (f_X3_isThing a1 M) (fun r3 M2 => (if r3 = 0 then some ((-1), M2) else zz_b2 (f_X3_countChosenClashesBy a1 M2) (fun r7 M6 => some (r7, M6))))
set_option maxHeartbeats 4000000 in
set_option maxRecDepth 100000 in
theorem k_X4_clashes {l : Launch} {D : va_G} {cI : ClassId} {ad : Nat → Nat} {a1 : Int32} {r : Int32} {M M1 : zz_Mem} (hf : f_X4_clashes a1 M = some (r, M1)) : zz_K l D zz_SC cI ad 4 yX4_clashes cX4_clashes 2 (some .int) [.ref (ad 0), .int a1] M (some (.int r)) M1 := by
  unfold f_X4_clashes at hf
  refine zz_entry (own := RX4) (L := [(0, .ref (ad 0)), (1, .int a1)]) (by decide +kernel) rfl (Nat.le_of_ble_eq_true rfl) rfl (fun p e s m args below meth c C => ?_)
  refine zz_aload_n 1 C dX4_clashes_0 rfl 0 rfl ?_
  refine zz_getR 4 C dX4_clashes_1 rfl fl_X4_10 sc_0 rfl ?_
  refine zz_iload_n 5 C dX4_clashes_4 rfl 1 rfl ?_
  obtain ⟨r3, M2, hc1, hf⟩ := zz_b2E hf
  refine zz_callV 8 [.int a1] C dX4_clashes_5 rfl ml_X4_81 (k_X3_isThing hc1) sc_1 (vC := vwCl[3]) rfl rfl rfl rfl rfl (Nat.le_of_ble_eq_true rfl) (zz_hR (Nat.le_of_ble_eq_true rfl) (Nat.le_of_ble_eq_true rfl)) ?_
  refine zz_if_ne 11 13 C dX4_clashes_8 rfl rfl hf (fun h4 hf => ?_) (fun h4 hf => ?_)
  · refine zz_aload_n 14 C dX4_clashes_13 rfl 0 rfl ?_
    refine zz_getR 17 C dX4_clashes_14 rfl fl_X4_10 sc_0 rfl ?_
    refine zz_iload_n 18 C dX4_clashes_17 rfl 1 rfl ?_
    obtain ⟨r7, M6, hc5, hf⟩ := zz_b2E hf
    refine zz_callV 21 [.int a1] C dX4_clashes_18 rfl ml_X4_186 (k_X3_countChosenClashesBy hc5) sc_1 (vC := vwCl[3]) rfl rfl rfl rfl rfl (Nat.le_of_ble_eq_true rfl) (zz_hR (Nat.le_of_ble_eq_true rfl) (Nat.le_of_ble_eq_true rfl)) ?_
    cases hf
    exact zz_iret C dX4_clashes_21 rfl rfl
  · refine zz_iconst 12 C dX4_clashes_11 rfl zz_im1 ?_
    cases hf
    exact zz_iret C dX4_clashes_12 rfl rfl
def f_X4_many (a1 : Int32) (M : zz_Mem) : Option (Int32 × zz_Mem) := (if a1 = 0 then some (M 1 0, M) else (if a1 = 1 then some (M 1 4, M) else (if a1 = 2 then some (M 1 8, M) else (if a1 = 3 then zz_b2 (f_X3_countScenesWithChosen M) (fun r7 M6 => some (r7, M6)) else (if a1 = 4 then zz_b2 (f_X3_countNoisyPairs M) (fun r11 M10 => some (r11, M10)) else some ((-1), M))))))
set_option maxHeartbeats 4000000 in
set_option maxRecDepth 100000 in
theorem k_X4_many {l : Launch} {D : va_G} {cI : ClassId} {ad : Nat → Nat} {a1 : Int32} {r : Int32} {M M1 : zz_Mem} (hf : f_X4_many a1 M = some (r, M1)) : zz_K l D zz_SC cI ad 5 yX4_many cX4_many 2 (some .int) [.ref (ad 0), .int a1] M (some (.int r)) M1 := by
  unfold f_X4_many at hf
  refine zz_entry (own := RX4) (L := [(0, .ref (ad 0)), (1, .int a1)]) (by decide +kernel) rfl (Nat.le_of_ble_eq_true rfl) rfl (fun p e s m args below meth c C => ?_)
  refine zz_iload_n 1 C dX4_many_0 rfl 1 rfl ?_
  by_cases h1 : a1 = 0
  · rw [if_pos h1] at hf
    refine zz_tabIn 36 C dX4_many_1 h1 (by decide) (by decide) rfl rfl ?_
    refine zz_aload_n 37 C dX4_many_36 rfl 0 rfl ?_
    refine zz_getR 40 C dX4_many_37 rfl fl_X4_10 sc_0 rfl ?_
    refine zz_getI 43 C dX4_many_40 rfl fl_X4_48 sc_1 rfl ?_
    cases hf
    exact zz_iret C dX4_many_43 rfl rfl
  · rw [if_neg h1] at hf
    by_cases h2 : a1 = 1
    · rw [if_pos h2] at hf
      refine zz_tabIn 44 C dX4_many_1 h2 (by decide) (by decide) rfl rfl ?_
      refine zz_aload_n 45 C dX4_many_44 rfl 0 rfl ?_
      refine zz_getR 48 C dX4_many_45 rfl fl_X4_10 sc_0 rfl ?_
      refine zz_getI 51 C dX4_many_48 rfl fl_X4_74 sc_1 rfl ?_
      cases hf
      exact zz_iret C dX4_many_51 rfl rfl
    · rw [if_neg h2] at hf
      by_cases h3 : a1 = 2
      · rw [if_pos h3] at hf
        refine zz_tabIn 52 C dX4_many_1 h3 (by decide) (by decide) rfl rfl ?_
        refine zz_aload_n 53 C dX4_many_52 rfl 0 rfl ?_
        refine zz_getR 56 C dX4_many_53 rfl fl_X4_10 sc_0 rfl ?_
        refine zz_getI 59 C dX4_many_56 rfl fl_X4_87 sc_1 rfl ?_
        cases hf
        exact zz_iret C dX4_many_59 rfl rfl
      · rw [if_neg h3] at hf
        by_cases h4 : a1 = 3
        · rw [if_pos h4] at hf
          refine zz_tabIn 60 C dX4_many_1 h4 (by decide) (by decide) rfl rfl ?_
          refine zz_aload_n 61 C dX4_many_60 rfl 0 rfl ?_
          refine zz_getR 64 C dX4_many_61 rfl fl_X4_10 sc_0 rfl ?_
          obtain ⟨r7, M6, hc5, hf⟩ := zz_b2E hf
          refine zz_callV 67 [] C dX4_many_64 rfl ml_X4_189 (k_X3_countScenesWithChosen hc5) sc_1 (vC := vwCl[3]) rfl rfl rfl rfl rfl (Nat.le_of_ble_eq_true rfl) (zz_hR (Nat.le_of_ble_eq_true rfl) (Nat.le_of_ble_eq_true rfl)) ?_
          cases hf
          exact zz_iret C dX4_many_67 rfl rfl
        · rw [if_neg h4] at hf
          by_cases h8 : a1 = 4
          · rw [if_pos h8] at hf
            refine zz_tabIn 68 C dX4_many_1 h8 (by decide) (by decide) rfl rfl ?_
            refine zz_aload_n 69 C dX4_many_68 rfl 0 rfl ?_
            refine zz_getR 72 C dX4_many_69 rfl fl_X4_10 sc_0 rfl ?_
            obtain ⟨r11, M10, hc9, hf⟩ := zz_b2E hf
            refine zz_callV 75 [] C dX4_many_72 rfl ml_X4_192 (k_X3_countNoisyPairs hc9) sc_1 (vC := vwCl[3]) rfl rfl rfl rfl rfl (Nat.le_of_ble_eq_true rfl) (zz_hR (Nat.le_of_ble_eq_true rfl) (Nat.le_of_ble_eq_true rfl)) ?_
            cases hf
            exact zz_iret C dX4_many_75 rfl rfl
          · rw [if_neg h8] at hf
            have eh1 := lv_neT h1 (show (0 : Int32).toInt = 0 from by decide)
            have eh2 := lv_neT h2 (show (1 : Int32).toInt = 1 from by decide)
            have eh3 := lv_neT h3 (show (2 : Int32).toInt = 2 from by decide)
            have eh4 := lv_neT h4 (show (3 : Int32).toInt = 3 from by decide)
            have eh8 := lv_neT h8 (show (4 : Int32).toInt = 4 from by decide)
            refine zz_tabOut 76 C dX4_many_1 (by omega) rfl ?_
            refine zz_iconst 77 C dX4_many_76 rfl zz_im1 ?_
            cases hf
            exact zz_iret C dX4_many_77 rfl rfl
def f_X4_keep (M : zz_Mem) : Option (Int32 × zz_Mem) := zz_b1 (f_X3_becomeLike_k M) (fun M2 => some (1, zz_up M2 0 2 1))
set_option maxHeartbeats 4000000 in
set_option maxRecDepth 100000 in
theorem k_X4_keep {l : Launch} {D : va_G} {cI : ClassId} {ad : Nat → Nat} {r : Int32} {M M1 : zz_Mem} (hf : f_X4_keep M = some (r, M1)) : zz_K l D zz_SC cI ad 2 yX4_keep cX4_keep 1 (some .int) [.ref (ad 0)] M (some (.int r)) M1 := by
  unfold f_X4_keep at hf
  refine zz_entry (own := RX4) (L := [(0, .ref (ad 0))]) (by decide +kernel) rfl (Nat.le_of_ble_eq_true rfl) rfl (fun p e s m args below meth c C => ?_)
  refine zz_aload_n 1 C dX4_keep_0 rfl 0 rfl ?_
  refine zz_getR 4 C dX4_keep_1 rfl fl_X4_16 sc_0 rfl ?_
  refine zz_aload_n 5 C dX4_keep_4 rfl 0 rfl ?_
  refine zz_getR 8 C dX4_keep_5 rfl fl_X4_10 sc_0 rfl ?_
  obtain ⟨M2, hc1, hf⟩ := zz_b1E hf
  refine zz_callV 11 [.ref (ad 1)] C dX4_keep_8 rfl ml_X4_195 (k_X3_becomeLike_k hc1) sc_2 (vC := vwCl[3]) rfl rfl rfl rfl rfl (Nat.le_of_ble_eq_true rfl) (zz_hR (Nat.le_of_ble_eq_true rfl) (Nat.le_of_ble_eq_true rfl)) ?_
  refine zz_aload_n 12 C dX4_keep_11 rfl 0 rfl ?_
  refine zz_iconst 13 C dX4_keep_12 rfl zz_i1 ?_
  refine zz_putI 16 C dX4_keep_13 rfl fl_X4_19 fs_X4_2 (by decide) rfl sc_0 rfl ?_
  refine zz_iconst 17 C dX4_keep_16 rfl zz_i1 ?_
  cases hf
  exact zz_iret C dX4_keep_17 rfl rfl
def f_X4_back (M : zz_Mem) : Option (Int32 × zz_Mem) := (if (M 0 2) = 0 then some ((-4), M) else zz_b1 (f_X3_becomeLike_n M) (fun M3 => some (1, M3)))
set_option maxHeartbeats 4000000 in
set_option maxRecDepth 100000 in
theorem k_X4_back {l : Launch} {D : va_G} {cI : ClassId} {ad : Nat → Nat} {r : Int32} {M M1 : zz_Mem} (hf : f_X4_back M = some (r, M1)) : zz_K l D zz_SC cI ad 2 yX4_back cX4_back 1 (some .int) [.ref (ad 0)] M (some (.int r)) M1 := by
  unfold f_X4_back at hf
  refine zz_entry (own := RX4) (L := [(0, .ref (ad 0))]) (by decide +kernel) rfl (Nat.le_of_ble_eq_true rfl) rfl (fun p e s m args below meth c C => ?_)
  refine zz_aload_n 1 C dX4_back_0 rfl 0 rfl ?_
  refine zz_getI 4 C dX4_back_1 rfl fl_X4_19 sc_0 rfl ?_
  refine zz_if_ne 7 10 C dX4_back_4 rfl rfl hf (fun h1 hf => ?_) (fun h1 hf => ?_)
  · refine zz_aload_n 11 C dX4_back_10 rfl 0 rfl ?_
    refine zz_getR 14 C dX4_back_11 rfl fl_X4_10 sc_0 rfl ?_
    refine zz_aload_n 15 C dX4_back_14 rfl 0 rfl ?_
    refine zz_getR 18 C dX4_back_15 rfl fl_X4_16 sc_0 rfl ?_
    obtain ⟨M3, hc2, hf⟩ := zz_b1E hf
    refine zz_callV 21 [.ref (ad 2)] C dX4_back_18 rfl ml_X4_195 (k_X3_becomeLike_n hc2) sc_1 (vC := vwCl[3]) rfl rfl rfl rfl rfl (Nat.le_of_ble_eq_true rfl) (zz_hR (Nat.le_of_ble_eq_true rfl) (Nat.le_of_ble_eq_true rfl)) ?_
    refine zz_iconst 22 C dX4_back_21 rfl zz_i1 ?_
    cases hf
    exact zz_iret C dX4_back_22 rfl rfl
  · refine zz_bipush 9 C dX4_back_7 rfl zz_bpm4 ?_
    cases hf
    exact zz_iret C dX4_back_9 rfl rfl
