def f_X5_in (a0 a1 a2 : Int32) (M : zz_Mem) : Option (Int32 × zz_Mem) := (if a0 < a1 then some (0, M) else (if a2 < a0 then some (0, M) else some (1, M)))
set_option maxHeartbeats 4000000 in
set_option maxRecDepth 100000 in
theorem k_X5_in {l : Launch} {D : va_G} {cI : ClassId} {ad : Nat → Nat} {S : List zz_Sh} {a0 a1 a2 : Int32} {r : Int32} {M M1 : zz_Mem} (hf : f_X5_in a0 a1 a2 M = some (r, M1)) : zz_K l D S cI ad 0 yX5_in cX5_in 3 (some .boolean) [.int a0, .int a1, .int a2] M (some (.int r)) M1 := by
  unfold f_X5_in at hf
  refine zz_entry (own := RX5) (L := [(0, .int a0), (1, .int a1), (2, .int a2)]) (by decide +kernel) rfl (Nat.le_of_ble_eq_true rfl) rfl (fun p e s m args below meth c C => ?_)
  refine zz_iload_n 1 C dX5_in_0 rfl 0 rfl ?_
  refine zz_iload_n 2 C dX5_in_1 rfl 1 rfl ?_
  refine zz_icmp_lt 5 14 C dX5_in_2 rfl rfl hf (fun h1 hf => ?_) (fun h1 hf => ?_)
  · refine zz_iconst 15 C dX5_in_14 rfl zz_i0 ?_
    cases hf
    exact zz_zret C dX5_in_15 rfl rfl (by decide)
  · refine zz_iload_n 6 C dX5_in_5 rfl 0 rfl ?_
    refine zz_iload_n 7 C dX5_in_6 rfl 2 rfl ?_
    refine zz_icmp_gt 10 14 C dX5_in_7 rfl rfl hf (fun h2 hf => ?_) (fun h2 hf => ?_)
    · refine zz_iconst 15 C dX5_in_14 rfl zz_i0 ?_
      cases hf
      exact zz_zret C dX5_in_15 rfl rfl (by decide)
    · refine zz_iconst 11 C dX5_in_10 rfl zz_i1 ?_
      refine zz_goto 15 C dX5_in_11 rfl ?_
      cases hf
      exact zz_zret C dX5_in_15 rfl rfl (by decide)
def f_X5_isScene (a1 : Int32) (M : zz_Mem) : Option (Int32 × zz_Mem) := zz_b2 (f_X5_in a1 0 ((M 0 0) - 1) M) (fun r3 M2 => (if r3 &&& 1 = r3 then some (r3, M2) else none))
set_option maxHeartbeats 4000000 in
set_option maxRecDepth 100000 in
theorem k_X5_isScene {l : Launch} {D : va_G} {cI : ClassId} {ad : Nat → Nat} {a1 : Int32} {r : Int32} {M M1 : zz_Mem} (hf : f_X5_isScene a1 M = some (r, M1)) : zz_K l D zz_SR cI ad 1 yX5_isScene cX5_isScene 2 (some .boolean) [.ref (ad 0), .int a1] M (some (.int r)) M1 := by
  unfold f_X5_isScene at hf
  refine zz_entry (own := RX5) (L := [(0, .ref (ad 0)), (1, .int a1)]) (by decide +kernel) rfl (Nat.le_of_ble_eq_true rfl) rfl (fun p e s m args below meth c C => ?_)
  refine zz_iload_n 1 C dX5_isScene_0 rfl 1 rfl ?_
  refine zz_iconst 2 C dX5_isScene_1 rfl zz_i0 ?_
  refine zz_aload_n 3 C dX5_isScene_2 rfl 0 rfl ?_
  refine zz_getI 6 C dX5_isScene_3 rfl fl_X5_64 sr_0 rfl ?_
  refine zz_iconst 7 C dX5_isScene_6 rfl zz_i1 ?_
  refine zz_isub 8 C dX5_isScene_7 rfl ?_
  obtain ⟨r3, M2, hc1, hf⟩ := zz_b2E hf
  refine zz_callS 11 [.int a1, .int 0, .int ((M 0 0) - 1)] C dX5_isScene_8 rfl ml_X5_68 (k_X5_in hc1) rfl rfl rfl (Nat.le_of_ble_eq_true rfl) (zz_hR (Nat.le_of_ble_eq_true rfl) (Nat.le_of_ble_eq_true rfl)) ?_
  obtain ⟨hz4, hf⟩ := zz_chk hf
  cases hf
  exact zz_zret C dX5_isScene_11 rfl rfl hz4
def f_X5_isThing (a1 : Int32) (M : zz_Mem) : Option (Int32 × zz_Mem) := zz_b2 (f_X5_in a1 0 ((M 0 4) - 1) M) (fun r3 M2 => (if r3 &&& 1 = r3 then some (r3, M2) else none))
set_option maxHeartbeats 4000000 in
set_option maxRecDepth 100000 in
theorem k_X5_isThing {l : Launch} {D : va_G} {cI : ClassId} {ad : Nat → Nat} {a1 : Int32} {r : Int32} {M M1 : zz_Mem} (hf : f_X5_isThing a1 M = some (r, M1)) : zz_K l D zz_SR cI ad 1 yX5_isThing cX5_isThing 2 (some .boolean) [.ref (ad 0), .int a1] M (some (.int r)) M1 := by
  unfold f_X5_isThing at hf
  refine zz_entry (own := RX5) (L := [(0, .ref (ad 0)), (1, .int a1)]) (by decide +kernel) rfl (Nat.le_of_ble_eq_true rfl) rfl (fun p e s m args below meth c C => ?_)
  refine zz_iload_n 1 C dX5_isThing_0 rfl 1 rfl ?_
  refine zz_iconst 2 C dX5_isThing_1 rfl zz_i0 ?_
  refine zz_aload_n 3 C dX5_isThing_2 rfl 0 rfl ?_
  refine zz_getI 6 C dX5_isThing_3 rfl fl_X5_72 sr_0 rfl ?_
  refine zz_iconst 7 C dX5_isThing_6 rfl zz_i1 ?_
  refine zz_isub 8 C dX5_isThing_7 rfl ?_
  obtain ⟨r3, M2, hc1, hf⟩ := zz_b2E hf
  refine zz_callS 11 [.int a1, .int 0, .int ((M 0 4) - 1)] C dX5_isThing_8 rfl ml_X5_68 (k_X5_in hc1) rfl rfl rfl (Nat.le_of_ble_eq_true rfl) (zz_hR (Nat.le_of_ble_eq_true rfl) (Nat.le_of_ble_eq_true rfl)) ?_
  obtain ⟨hz4, hf⟩ := zz_chk hf
  cases hf
  exact zz_zret C dX5_isThing_11 rfl rfl hz4
def f_X5_isTake (a1 : Int32) (M : zz_Mem) : Option (Int32 × zz_Mem) := zz_b2 (f_X5_in a1 0 ((M 0 8) - 1) M) (fun r3 M2 => (if r3 &&& 1 = r3 then some (r3, M2) else none))
set_option maxHeartbeats 4000000 in
set_option maxRecDepth 100000 in
theorem k_X5_isTake {l : Launch} {D : va_G} {cI : ClassId} {ad : Nat → Nat} {a1 : Int32} {r : Int32} {M M1 : zz_Mem} (hf : f_X5_isTake a1 M = some (r, M1)) : zz_K l D zz_SR cI ad 1 yX5_isTake cX5_isTake 2 (some .boolean) [.ref (ad 0), .int a1] M (some (.int r)) M1 := by
  unfold f_X5_isTake at hf
  refine zz_entry (own := RX5) (L := [(0, .ref (ad 0)), (1, .int a1)]) (by decide +kernel) rfl (Nat.le_of_ble_eq_true rfl) rfl (fun p e s m args below meth c C => ?_)
  refine zz_iload_n 1 C dX5_isTake_0 rfl 1 rfl ?_
  refine zz_iconst 2 C dX5_isTake_1 rfl zz_i0 ?_
  refine zz_aload_n 3 C dX5_isTake_2 rfl 0 rfl ?_
  refine zz_getI 6 C dX5_isTake_3 rfl fl_X5_75 sr_0 rfl ?_
  refine zz_iconst 7 C dX5_isTake_6 rfl zz_i1 ?_
  refine zz_isub 8 C dX5_isTake_7 rfl ?_
  obtain ⟨r3, M2, hc1, hf⟩ := zz_b2E hf
  refine zz_callS 11 [.int a1, .int 0, .int ((M 0 8) - 1)] C dX5_isTake_8 rfl ml_X5_68 (k_X5_in hc1) rfl rfl rfl (Nat.le_of_ble_eq_true rfl) (zz_hR (Nat.le_of_ble_eq_true rfl) (Nat.le_of_ble_eq_true rfl)) ?_
  obtain ⟨hz4, hf⟩ := zz_chk hf
  cases hf
  exact zz_zret C dX5_isTake_11 rfl rfl hz4
def f_X5_scene (a1 a2 : Int32) (M : zz_Mem) : Option (Int32 × zz_Mem) := zz_b2 (f_X5_in a1 0 99 M) (fun r3 M2 => (if r3 = 0 then some ((-1), M2) else zz_b2 (f_X5_in a2 0 99 M2) (fun r7 M6 => (if r7 = 0 then some ((-1), M6) else (if (M6 0 0) = 6 then some ((-2), M6) else (if zz_in (M6 0 0) 6 then (if zz_in ((zz_up M6 1 ((M6 0 0).toNatClampNeg) a1) 0 0) 6 then (if zz_in ((zz_up (zz_up M6 1 ((M6 0 0).toNatClampNeg) a1) 2 (((zz_up M6 1 ((M6 0 0).toNatClampNeg) a1) 0 0).toNatClampNeg) a2) 0 0) 6 then some (((zz_up (zz_up (zz_up (zz_up M6 1 ((M6 0 0).toNatClampNeg) a1) 2 (((zz_up M6 1 ((M6 0 0).toNatClampNeg) a1) 0 0).toNatClampNeg) a2) 3 (((zz_up (zz_up M6 1 ((M6 0 0).toNatClampNeg) a1) 2 (((zz_up M6 1 ((M6 0 0).toNatClampNeg) a1) 0 0).toNatClampNeg) a2) 0 0).toNatClampNeg) (-1)) 0 0 (((zz_up (zz_up (zz_up M6 1 ((M6 0 0).toNatClampNeg) a1) 2 (((zz_up M6 1 ((M6 0 0).toNatClampNeg) a1) 0 0).toNatClampNeg) a2) 3 (((zz_up (zz_up M6 1 ((M6 0 0).toNatClampNeg) a1) 2 (((zz_up M6 1 ((M6 0 0).toNatClampNeg) a1) 0 0).toNatClampNeg) a2) 0 0).toNatClampNeg) (-1)) 0 0) + 1)) 0 0) - 1, zz_up (zz_up (zz_up (zz_up M6 1 ((M6 0 0).toNatClampNeg) a1) 2 (((zz_up M6 1 ((M6 0 0).toNatClampNeg) a1) 0 0).toNatClampNeg) a2) 3 (((zz_up (zz_up M6 1 ((M6 0 0).toNatClampNeg) a1) 2 (((zz_up M6 1 ((M6 0 0).toNatClampNeg) a1) 0 0).toNatClampNeg) a2) 0 0).toNatClampNeg) (-1)) 0 0 (((zz_up (zz_up (zz_up M6 1 ((M6 0 0).toNatClampNeg) a1) 2 (((zz_up M6 1 ((M6 0 0).toNatClampNeg) a1) 0 0).toNatClampNeg) a2) 3 (((zz_up (zz_up M6 1 ((M6 0 0).toNatClampNeg) a1) 2 (((zz_up M6 1 ((M6 0 0).toNatClampNeg) a1) 0 0).toNatClampNeg) a2) 0 0).toNatClampNeg) (-1)) 0 0) + 1)) else none) else none) else none))))))
set_option maxHeartbeats 4000000 in
set_option maxRecDepth 100000 in
theorem k_X5_scene {l : Launch} {D : va_G} {cI : ClassId} {ad : Nat → Nat} {a1 a2 : Int32} {r : Int32} {M M1 : zz_Mem} (hf : f_X5_scene a1 a2 M = some (r, M1)) : zz_K l D zz_SR cI ad 1 yX5_scene cX5_scene 3 (some .int) [.ref (ad 0), .int a1, .int a2] M (some (.int r)) M1 := by
  unfold f_X5_scene at hf
  refine zz_entry (own := RX5) (L := [(0, .ref (ad 0)), (1, .int a1), (2, .int a2)]) (by decide +kernel) rfl (Nat.le_of_ble_eq_true rfl) rfl (fun p e s m args below meth c C => ?_)
  refine zz_iload_n 1 C dX5_scene_0 rfl 1 rfl ?_
  refine zz_iconst 2 C dX5_scene_1 rfl zz_i0 ?_
  refine zz_bipush 4 C dX5_scene_2 rfl zz_bp99 ?_
  obtain ⟨r3, M2, hc1, hf⟩ := zz_b2E hf
  refine zz_callS 7 [.int a1, .int 0, .int 99] C dX5_scene_4 rfl ml_X5_68 (k_X5_in hc1) rfl rfl rfl (Nat.le_of_ble_eq_true rfl) (zz_hR (Nat.le_of_ble_eq_true rfl) (Nat.le_of_ble_eq_true rfl)) ?_
  refine zz_if_eq 10 20 C dX5_scene_7 rfl rfl hf (fun h4 hf => ?_) (fun h4 hf => ?_)
  · refine zz_iconst 21 C dX5_scene_20 rfl zz_im1 ?_
    cases hf
    exact zz_iret C dX5_scene_21 rfl rfl
  · refine zz_iload_n 11 C dX5_scene_10 rfl 2 rfl ?_
    refine zz_iconst 12 C dX5_scene_11 rfl zz_i0 ?_
    refine zz_bipush 14 C dX5_scene_12 rfl zz_bp99 ?_
    obtain ⟨r7, M6, hc5, hf⟩ := zz_b2E hf
    refine zz_callS 17 [.int a2, .int 0, .int 99] C dX5_scene_14 rfl ml_X5_68 (k_X5_in hc5) rfl rfl rfl (Nat.le_of_ble_eq_true rfl) (zz_hR (Nat.le_of_ble_eq_true rfl) (Nat.le_of_ble_eq_true rfl)) ?_
    refine zz_if_ne 20 22 C dX5_scene_17 rfl rfl hf (fun h8 hf => ?_) (fun h8 hf => ?_)
    · refine zz_aload_n 23 C dX5_scene_22 rfl 0 rfl ?_
      refine zz_getI 26 C dX5_scene_23 rfl fl_X5_64 sr_0 rfl ?_
      refine zz_bipush 28 C dX5_scene_26 rfl zz_bp6 ?_
      refine zz_icmp_ne 31 34 C dX5_scene_28 rfl rfl hf (fun h9 hf => ?_) (fun h9 hf => ?_)
      · refine zz_aload_n 35 C dX5_scene_34 rfl 0 rfl ?_
        refine zz_getR 38 C dX5_scene_35 rfl fl_X5_7 sr_0 rfl ?_
        refine zz_aload_n 39 C dX5_scene_38 rfl 0 rfl ?_
        refine zz_getI 42 C dX5_scene_39 rfl fl_X5_64 sr_0 rfl ?_
        refine zz_iload_n 43 C dX5_scene_42 rfl 1 rfl ?_
        obtain ⟨hi10, hf⟩ := zz_chk hf
        refine zz_iast 44 C sr_1 dX5_scene_43 rfl hi10 ?_
        refine zz_aload_n 45 C dX5_scene_44 rfl 0 rfl ?_
        refine zz_getR 48 C dX5_scene_45 rfl fl_X5_13 sr_0 rfl ?_
        refine zz_aload_n 49 C dX5_scene_48 rfl 0 rfl ?_
        refine zz_getI 52 C dX5_scene_49 rfl fl_X5_64 sr_0 rfl ?_
        refine zz_iload_n 53 C dX5_scene_52 rfl 2 rfl ?_
        obtain ⟨hi11, hf⟩ := zz_chk hf
        refine zz_iast 54 C sr_2 dX5_scene_53 rfl hi11 ?_
        refine zz_aload_n 55 C dX5_scene_54 rfl 0 rfl ?_
        refine zz_getR 58 C dX5_scene_55 rfl fl_X5_16 sr_0 rfl ?_
        refine zz_aload_n 59 C dX5_scene_58 rfl 0 rfl ?_
        refine zz_getI 62 C dX5_scene_59 rfl fl_X5_64 sr_0 rfl ?_
        refine zz_iconst 63 C dX5_scene_62 rfl zz_im1 ?_
        obtain ⟨hi12, hf⟩ := zz_chk hf
        refine zz_iast 64 C sr_3 dX5_scene_63 rfl hi12 ?_
        refine zz_aload_n 65 C dX5_scene_64 rfl 0 rfl ?_
        refine zz_dup 66 C dX5_scene_65 rfl rfl ?_
        refine zz_getI 69 C dX5_scene_66 rfl fl_X5_64 sr_0 rfl ?_
        refine zz_iconst 70 C dX5_scene_69 rfl zz_i1 ?_
        refine zz_iadd 71 C dX5_scene_70 rfl ?_
        refine zz_putI 74 C dX5_scene_71 rfl fl_X5_64 fs_X5_0 rfl rfl sr_0 rfl ?_
        refine zz_aload_n 75 C dX5_scene_74 rfl 0 rfl ?_
        refine zz_getI 78 C dX5_scene_75 rfl fl_X5_64 sr_0 rfl ?_
        refine zz_iconst 79 C dX5_scene_78 rfl zz_i1 ?_
        refine zz_isub 80 C dX5_scene_79 rfl ?_
        cases hf
        exact zz_iret C dX5_scene_80 rfl rfl
      · refine zz_bipush 33 C dX5_scene_31 rfl zz_bpm2 ?_
        cases hf
        exact zz_iret C dX5_scene_33 rfl rfl
    · refine zz_iconst 21 C dX5_scene_20 rfl zz_im1 ?_
      cases hf
      exact zz_iret C dX5_scene_21 rfl rfl
def f_X5_shift (a1 a2 a3 : Int32) (M : zz_Mem) : Option (Int32 × zz_Mem) := zz_b2 (f_X5_isScene a1 M) (fun r3 M2 => (if r3 = 0 then some ((-1), M2) else zz_b2 (f_X5_in a2 0 99 M2) (fun r7 M6 => (if r7 = 0 then some ((-1), M6) else zz_b2 (f_X5_in a3 0 99 M6) (fun r11 M10 => (if r11 = 0 then some ((-1), M10) else (if zz_in a1 6 then some (1, zz_up (zz_up M10 1 a1.toNatClampNeg a2) 2 a1.toNatClampNeg a3) else none)))))))
set_option maxHeartbeats 4000000 in
set_option maxRecDepth 100000 in
theorem k_X5_shift {l : Launch} {D : va_G} {cI : ClassId} {ad : Nat → Nat} {a1 a2 a3 : Int32} {r : Int32} {M M1 : zz_Mem} (hf : f_X5_shift a1 a2 a3 M = some (r, M1)) : zz_K l D zz_SR cI ad 2 yX5_shift cX5_shift 4 (some .int) [.ref (ad 0), .int a1, .int a2, .int a3] M (some (.int r)) M1 := by
  unfold f_X5_shift at hf
  refine zz_entry (own := RX5) (L := [(0, .ref (ad 0)), (1, .int a1), (2, .int a2), (3, .int a3)]) (by decide +kernel) rfl (Nat.le_of_ble_eq_true rfl) rfl (fun p e s m args below meth c C => ?_)
  refine zz_aload_n 1 C dX5_shift_0 rfl 0 rfl ?_
  refine zz_iload_n 2 C dX5_shift_1 rfl 1 rfl ?_
  obtain ⟨r3, M2, hc1, hf⟩ := zz_b2E hf
  refine zz_callV 5 [.int a1] C dX5_shift_2 rfl ml_X5_78 (k_X5_isScene hc1) sr_0 (vC := vwCl[5]) rfl rfl rfl rfl rfl (Nat.le_of_ble_eq_true rfl) (zz_hR (Nat.le_of_ble_eq_true rfl) (Nat.le_of_ble_eq_true rfl)) ?_
  refine zz_if_eq 8 28 C dX5_shift_5 rfl rfl hf (fun h4 hf => ?_) (fun h4 hf => ?_)
  · refine zz_iconst 29 C dX5_shift_28 rfl zz_im1 ?_
    cases hf
    exact zz_iret C dX5_shift_29 rfl rfl
  · refine zz_iload_n 9 C dX5_shift_8 rfl 2 rfl ?_
    refine zz_iconst 10 C dX5_shift_9 rfl zz_i0 ?_
    refine zz_bipush 12 C dX5_shift_10 rfl zz_bp99 ?_
    obtain ⟨r7, M6, hc5, hf⟩ := zz_b2E hf
    refine zz_callS 15 [.int a2, .int 0, .int 99] C dX5_shift_12 rfl ml_X5_68 (k_X5_in hc5) rfl rfl rfl (Nat.le_of_ble_eq_true rfl) (zz_hR (Nat.le_of_ble_eq_true rfl) (Nat.le_of_ble_eq_true rfl)) ?_
    refine zz_if_eq 18 28 C dX5_shift_15 rfl rfl hf (fun h8 hf => ?_) (fun h8 hf => ?_)
    · refine zz_iconst 29 C dX5_shift_28 rfl zz_im1 ?_
      cases hf
      exact zz_iret C dX5_shift_29 rfl rfl
    · refine zz_iload_n 19 C dX5_shift_18 rfl 3 rfl ?_
      refine zz_iconst 20 C dX5_shift_19 rfl zz_i0 ?_
      refine zz_bipush 22 C dX5_shift_20 rfl zz_bp99 ?_
      obtain ⟨r11, M10, hc9, hf⟩ := zz_b2E hf
      refine zz_callS 25 [.int a3, .int 0, .int 99] C dX5_shift_22 rfl ml_X5_68 (k_X5_in hc9) rfl rfl rfl (Nat.le_of_ble_eq_true rfl) (zz_hR (Nat.le_of_ble_eq_true rfl) (Nat.le_of_ble_eq_true rfl)) ?_
      refine zz_if_ne 28 30 C dX5_shift_25 rfl rfl hf (fun h12 hf => ?_) (fun h12 hf => ?_)
      · refine zz_aload_n 31 C dX5_shift_30 rfl 0 rfl ?_
        refine zz_getR 34 C dX5_shift_31 rfl fl_X5_7 sr_0 rfl ?_
        refine zz_iload_n 35 C dX5_shift_34 rfl 1 rfl ?_
        refine zz_iload_n 36 C dX5_shift_35 rfl 2 rfl ?_
        obtain ⟨hi13, hf⟩ := zz_chk hf
        refine zz_iast 37 C sr_1 dX5_shift_36 rfl hi13 ?_
        refine zz_aload_n 38 C dX5_shift_37 rfl 0 rfl ?_
        refine zz_getR 41 C dX5_shift_38 rfl fl_X5_13 sr_0 rfl ?_
        refine zz_iload_n 42 C dX5_shift_41 rfl 1 rfl ?_
        refine zz_iload_n 43 C dX5_shift_42 rfl 3 rfl ?_
        refine zz_iast 44 C sr_2 dX5_shift_43 rfl hi13 ?_
        refine zz_iconst 45 C dX5_shift_44 rfl zz_i1 ?_
        cases hf
        exact zz_iret C dX5_shift_45 rfl rfl
      · refine zz_iconst 29 C dX5_shift_28 rfl zz_im1 ?_
        cases hf
        exact zz_iret C dX5_shift_29 rfl rfl
def f_X5_thing (a1 a2 a3 : Int32) (M : zz_Mem) : Option (Int32 × zz_Mem) := zz_b2 (f_X5_in a1 0 3 M) (fun r3 M2 => (if r3 = 0 then some ((-1), M2) else (if a1 = 3 then (if a1 = 3 then zz_b2 (f_X5_in a2 1 9 M2) (fun r46 M45 => (if r46 = 0 then some ((-1), M45) else zz_b2 (f_X5_in a3 1 9 M45) (fun r50 M49 => (if r50 = 0 then some ((-1), M49) else (if (M49 0 4) = 6 then some ((-2), M49) else (if zz_in (M49 0 4) 6 then (if zz_in ((zz_up M49 4 ((M49 0 4).toNatClampNeg) a1) 0 4) 6 then (if zz_in ((zz_up (zz_up M49 4 ((M49 0 4).toNatClampNeg) a1) 5 (((zz_up M49 4 ((M49 0 4).toNatClampNeg) a1) 0 4).toNatClampNeg) a2) 0 4) 6 then some (((zz_up (zz_up (zz_up (zz_up M49 4 ((M49 0 4).toNatClampNeg) a1) 5 (((zz_up M49 4 ((M49 0 4).toNatClampNeg) a1) 0 4).toNatClampNeg) a2) 6 (((zz_up (zz_up M49 4 ((M49 0 4).toNatClampNeg) a1) 5 (((zz_up M49 4 ((M49 0 4).toNatClampNeg) a1) 0 4).toNatClampNeg) a2) 0 4).toNatClampNeg) a3) 0 4 (((zz_up (zz_up (zz_up M49 4 ((M49 0 4).toNatClampNeg) a1) 5 (((zz_up M49 4 ((M49 0 4).toNatClampNeg) a1) 0 4).toNatClampNeg) a2) 6 (((zz_up (zz_up M49 4 ((M49 0 4).toNatClampNeg) a1) 5 (((zz_up M49 4 ((M49 0 4).toNatClampNeg) a1) 0 4).toNatClampNeg) a2) 0 4).toNatClampNeg) a3) 0 4) + 1)) 0 4) - 1, zz_up (zz_up (zz_up (zz_up M49 4 ((M49 0 4).toNatClampNeg) a1) 5 (((zz_up M49 4 ((M49 0 4).toNatClampNeg) a1) 0 4).toNatClampNeg) a2) 6 (((zz_up (zz_up M49 4 ((M49 0 4).toNatClampNeg) a1) 5 (((zz_up M49 4 ((M49 0 4).toNatClampNeg) a1) 0 4).toNatClampNeg) a2) 0 4).toNatClampNeg) a3) 0 4 (((zz_up (zz_up (zz_up M49 4 ((M49 0 4).toNatClampNeg) a1) 5 (((zz_up M49 4 ((M49 0 4).toNatClampNeg) a1) 0 4).toNatClampNeg) a2) 6 (((zz_up (zz_up M49 4 ((M49 0 4).toNatClampNeg) a1) 5 (((zz_up M49 4 ((M49 0 4).toNatClampNeg) a1) 0 4).toNatClampNeg) a2) 0 4).toNatClampNeg) a3) 0 4) + 1)) else none) else none) else none)))))) else zz_b2 (f_X5_in a2 1 0 M2) (fun r34 M33 => (if r34 = 0 then some ((-1), M33) else zz_b2 (f_X5_in a3 1 9 M33) (fun r38 M37 => (if r38 = 0 then some ((-1), M37) else (if (M37 0 4) = 6 then some ((-2), M37) else (if zz_in (M37 0 4) 6 then (if zz_in ((zz_up M37 4 ((M37 0 4).toNatClampNeg) a1) 0 4) 6 then (if zz_in ((zz_up (zz_up M37 4 ((M37 0 4).toNatClampNeg) a1) 5 (((zz_up M37 4 ((M37 0 4).toNatClampNeg) a1) 0 4).toNatClampNeg) a2) 0 4) 6 then some (((zz_up (zz_up (zz_up (zz_up M37 4 ((M37 0 4).toNatClampNeg) a1) 5 (((zz_up M37 4 ((M37 0 4).toNatClampNeg) a1) 0 4).toNatClampNeg) a2) 6 (((zz_up (zz_up M37 4 ((M37 0 4).toNatClampNeg) a1) 5 (((zz_up M37 4 ((M37 0 4).toNatClampNeg) a1) 0 4).toNatClampNeg) a2) 0 4).toNatClampNeg) a3) 0 4 (((zz_up (zz_up (zz_up M37 4 ((M37 0 4).toNatClampNeg) a1) 5 (((zz_up M37 4 ((M37 0 4).toNatClampNeg) a1) 0 4).toNatClampNeg) a2) 6 (((zz_up (zz_up M37 4 ((M37 0 4).toNatClampNeg) a1) 5 (((zz_up M37 4 ((M37 0 4).toNatClampNeg) a1) 0 4).toNatClampNeg) a2) 0 4).toNatClampNeg) a3) 0 4) + 1)) 0 4) - 1, zz_up (zz_up (zz_up (zz_up M37 4 ((M37 0 4).toNatClampNeg) a1) 5 (((zz_up M37 4 ((M37 0 4).toNatClampNeg) a1) 0 4).toNatClampNeg) a2) 6 (((zz_up (zz_up M37 4 ((M37 0 4).toNatClampNeg) a1) 5 (((zz_up M37 4 ((M37 0 4).toNatClampNeg) a1) 0 4).toNatClampNeg) a2) 0 4).toNatClampNeg) a3) 0 4 (((zz_up (zz_up (zz_up M37 4 ((M37 0 4).toNatClampNeg) a1) 5 (((zz_up M37 4 ((M37 0 4).toNatClampNeg) a1) 0 4).toNatClampNeg) a2) 6 (((zz_up (zz_up M37 4 ((M37 0 4).toNatClampNeg) a1) 5 (((zz_up M37 4 ((M37 0 4).toNatClampNeg) a1) 0 4).toNatClampNeg) a2) 0 4).toNatClampNeg) a3) 0 4) + 1)) else none) else none) else none))))))) else (if a1 = 3 then zz_b2 (f_X5_in a2 0 9 M2) (fun r21 M20 => (if r21 = 0 then some ((-1), M20) else zz_b2 (f_X5_in a3 1 9 M20) (fun r25 M24 => (if r25 = 0 then some ((-1), M24) else (if (M24 0 4) = 6 then some ((-2), M24) else (if zz_in (M24 0 4) 6 then (if zz_in ((zz_up M24 4 ((M24 0 4).toNatClampNeg) a1) 0 4) 6 then (if zz_in ((zz_up (zz_up M24 4 ((M24 0 4).toNatClampNeg) a1) 5 (((zz_up M24 4 ((M24 0 4).toNatClampNeg) a1) 0 4).toNatClampNeg) a2) 0 4) 6 then some (((zz_up (zz_up (zz_up (zz_up M24 4 ((M24 0 4).toNatClampNeg) a1) 5 (((zz_up M24 4 ((M24 0 4).toNatClampNeg) a1) 0 4).toNatClampNeg) a2) 6 (((zz_up (zz_up M24 4 ((M24 0 4).toNatClampNeg) a1) 5 (((zz_up M24 4 ((M24 0 4).toNatClampNeg) a1) 0 4).toNatClampNeg) a2) 0 4).toNatClampNeg) a3) 0 4 (((zz_up (zz_up (zz_up M24 4 ((M24 0 4).toNatClampNeg) a1) 5 (((zz_up M24 4 ((M24 0 4).toNatClampNeg) a1) 0 4).toNatClampNeg) a2) 6 (((zz_up (zz_up M24 4 ((M24 0 4).toNatClampNeg) a1) 5 (((zz_up M24 4 ((M24 0 4).toNatClampNeg) a1) 0 4).toNatClampNeg) a2) 0 4).toNatClampNeg) a3) 0 4) + 1)) 0 4) - 1, zz_up (zz_up (zz_up (zz_up M24 4 ((M24 0 4).toNatClampNeg) a1) 5 (((zz_up M24 4 ((M24 0 4).toNatClampNeg) a1) 0 4).toNatClampNeg) a2) 6 (((zz_up (zz_up M24 4 ((M24 0 4).toNatClampNeg) a1) 5 (((zz_up M24 4 ((M24 0 4).toNatClampNeg) a1) 0 4).toNatClampNeg) a2) 0 4).toNatClampNeg) a3) 0 4 (((zz_up (zz_up (zz_up M24 4 ((M24 0 4).toNatClampNeg) a1) 5 (((zz_up M24 4 ((M24 0 4).toNatClampNeg) a1) 0 4).toNatClampNeg) a2) 6 (((zz_up (zz_up M24 4 ((M24 0 4).toNatClampNeg) a1) 5 (((zz_up M24 4 ((M24 0 4).toNatClampNeg) a1) 0 4).toNatClampNeg) a2) 0 4).toNatClampNeg) a3) 0 4) + 1)) else none) else none) else none)))))) else zz_b2 (f_X5_in a2 0 0 M2) (fun r9 M8 => (if r9 = 0 then some ((-1), M8) else zz_b2 (f_X5_in a3 1 9 M8) (fun r13 M12 => (if r13 = 0 then some ((-1), M12) else (if (M12 0 4) = 6 then some ((-2), M12) else (if zz_in (M12 0 4) 6 then (if zz_in ((zz_up M12 4 ((M12 0 4).toNatClampNeg) a1) 0 4) 6 then (if zz_in ((zz_up (zz_up M12 4 ((M12 0 4).toNatClampNeg) a1) 5 (((zz_up M12 4 ((M12 0 4).toNatClampNeg) a1) 0 4).toNatClampNeg) a2) 0 4) 6 then some (((zz_up (zz_up (zz_up (zz_up M12 4 ((M12 0 4).toNatClampNeg) a1) 5 (((zz_up M12 4 ((M12 0 4).toNatClampNeg) a1) 0 4).toNatClampNeg) a2) 6 (((zz_up (zz_up M12 4 ((M12 0 4).toNatClampNeg) a1) 5 (((zz_up M12 4 ((M12 0 4).toNatClampNeg) a1) 0 4).toNatClampNeg) a2) 0 4).toNatClampNeg) a3) 0 4 (((zz_up (zz_up (zz_up M12 4 ((M12 0 4).toNatClampNeg) a1) 5 (((zz_up M12 4 ((M12 0 4).toNatClampNeg) a1) 0 4).toNatClampNeg) a2) 6 (((zz_up (zz_up M12 4 ((M12 0 4).toNatClampNeg) a1) 5 (((zz_up M12 4 ((M12 0 4).toNatClampNeg) a1) 0 4).toNatClampNeg) a2) 0 4).toNatClampNeg) a3) 0 4) + 1)) 0 4) - 1, zz_up (zz_up (zz_up (zz_up M12 4 ((M12 0 4).toNatClampNeg) a1) 5 (((zz_up M12 4 ((M12 0 4).toNatClampNeg) a1) 0 4).toNatClampNeg) a2) 6 (((zz_up (zz_up M12 4 ((M12 0 4).toNatClampNeg) a1) 5 (((zz_up M12 4 ((M12 0 4).toNatClampNeg) a1) 0 4).toNatClampNeg) a2) 0 4).toNatClampNeg) a3) 0 4 (((zz_up (zz_up (zz_up M12 4 ((M12 0 4).toNatClampNeg) a1) 5 (((zz_up M12 4 ((M12 0 4).toNatClampNeg) a1) 0 4).toNatClampNeg) a2) 6 (((zz_up (zz_up M12 4 ((M12 0 4).toNatClampNeg) a1) 5 (((zz_up M12 4 ((M12 0 4).toNatClampNeg) a1) 0 4).toNatClampNeg) a2) 0 4).toNatClampNeg) a3) 0 4) + 1)) else none) else none) else none))))))))))
set_option maxHeartbeats 4000000 in
set_option maxRecDepth 100000 in
theorem k_X5_thing {l : Launch} {D : va_G} {cI : ClassId} {ad : Nat → Nat} {a1 a2 a3 : Int32} {r : Int32} {M M1 : zz_Mem} (hf : f_X5_thing a1 a2 a3 M = some (r, M1)) : zz_K l D zz_SR cI ad 1 yX5_thing cX5_thing 4 (some .int) [.ref (ad 0), .int a1, .int a2, .int a3] M (some (.int r)) M1 := by
  unfold f_X5_thing at hf
  refine zz_entry (own := RX5) (L := [(0, .ref (ad 0)), (1, .int a1), (2, .int a2), (3, .int a3)]) (by decide +kernel) rfl (Nat.le_of_ble_eq_true rfl) rfl (fun p e s m args below meth c C => ?_)
  refine zz_iload_n 1 C dX5_thing_0 rfl 1 rfl ?_
  refine zz_iconst 2 C dX5_thing_1 rfl zz_i0 ?_
  refine zz_iconst 3 C dX5_thing_2 rfl zz_i3 ?_
  obtain ⟨r3, M2, hc1, hf⟩ := zz_b2E hf
  refine zz_callS 6 [.int a1, .int 0, .int 3] C dX5_thing_3 rfl ml_X5_68 (k_X5_in hc1) rfl rfl rfl (Nat.le_of_ble_eq_true rfl) (zz_hR (Nat.le_of_ble_eq_true rfl) (Nat.le_of_ble_eq_true rfl)) ?_
  refine zz_if_eq 9 47 C dX5_thing_6 rfl rfl hf (fun h4 hf => ?_) (fun h4 hf => ?_)
  · refine zz_iconst 48 C dX5_thing_47 rfl zz_im1 ?_
    cases hf
    exact zz_iret C dX5_thing_48 rfl rfl
  · refine zz_iload_n 10 C dX5_thing_9 rfl 2 rfl ?_
    refine zz_iload_n 11 C dX5_thing_10 rfl 1 rfl ?_
    refine zz_iconst 12 C dX5_thing_11 rfl zz_i3 ?_
    refine zz_icmp_ne 15 19 C dX5_thing_12 rfl rfl hf (fun h5 hf => ?_) (fun h5 hf => ?_)
    · refine zz_iconst 20 C dX5_thing_19 rfl zz_i0 ?_
      refine zz_iload_n 21 C dX5_thing_20 rfl 1 rfl ?_
      refine zz_iconst 22 C dX5_thing_21 rfl zz_i3 ?_
      refine zz_icmp_ne 25 30 C dX5_thing_22 rfl rfl hf (fun h6 hf => ?_) (fun h6 hf => ?_)
      · refine zz_iconst 31 C dX5_thing_30 rfl zz_i0 ?_
        obtain ⟨r9, M8, hc7, hf⟩ := zz_b2E hf
        refine zz_callS 34 [.int a2, .int 0, .int 0] C dX5_thing_31 rfl ml_X5_68 (k_X5_in hc7) rfl rfl rfl (Nat.le_of_ble_eq_true rfl) (zz_hR (Nat.le_of_ble_eq_true rfl) (Nat.le_of_ble_eq_true rfl)) ?_
        refine zz_if_eq 37 47 C dX5_thing_34 rfl rfl hf (fun h10 hf => ?_) (fun h10 hf => ?_)
        · refine zz_iconst 48 C dX5_thing_47 rfl zz_im1 ?_
          cases hf
          exact zz_iret C dX5_thing_48 rfl rfl
        · refine zz_iload_n 38 C dX5_thing_37 rfl 3 rfl ?_
          refine zz_iconst 39 C dX5_thing_38 rfl zz_i1 ?_
          refine zz_bipush 41 C dX5_thing_39 rfl zz_bp9 ?_
          obtain ⟨r13, M12, hc11, hf⟩ := zz_b2E hf
          refine zz_callS 44 [.int a3, .int 1, .int 9] C dX5_thing_41 rfl ml_X5_68 (k_X5_in hc11) rfl rfl rfl (Nat.le_of_ble_eq_true rfl) (zz_hR (Nat.le_of_ble_eq_true rfl) (Nat.le_of_ble_eq_true rfl)) ?_
          refine zz_if_ne 47 49 C dX5_thing_44 rfl rfl hf (fun h14 hf => ?_) (fun h14 hf => ?_)
          · refine zz_aload_n 50 C dX5_thing_49 rfl 0 rfl ?_
            refine zz_getI 53 C dX5_thing_50 rfl fl_X5_72 sr_0 rfl ?_
            refine zz_bipush 55 C dX5_thing_53 rfl zz_bp6 ?_
            refine zz_icmp_ne 58 61 C dX5_thing_55 rfl rfl hf (fun h15 hf => ?_) (fun h15 hf => ?_)
            · refine zz_aload_n 62 C dX5_thing_61 rfl 0 rfl ?_
              refine zz_getR 65 C dX5_thing_62 rfl fl_X5_19 sr_0 rfl ?_
              refine zz_aload_n 66 C dX5_thing_65 rfl 0 rfl ?_
              refine zz_getI 69 C dX5_thing_66 rfl fl_X5_72 sr_0 rfl ?_
              refine zz_iload_n 70 C dX5_thing_69 rfl 1 rfl ?_
              obtain ⟨hi16, hf⟩ := zz_chk hf
              refine zz_iast 71 C sr_4 dX5_thing_70 rfl hi16 ?_
              refine zz_aload_n 72 C dX5_thing_71 rfl 0 rfl ?_
              refine zz_getR 75 C dX5_thing_72 rfl fl_X5_22 sr_0 rfl ?_
              refine zz_aload_n 76 C dX5_thing_75 rfl 0 rfl ?_
              refine zz_getI 79 C dX5_thing_76 rfl fl_X5_72 sr_0 rfl ?_
              refine zz_iload_n 80 C dX5_thing_79 rfl 2 rfl ?_
              obtain ⟨hi17, hf⟩ := zz_chk hf
              refine zz_iast 81 C sr_5 dX5_thing_80 rfl hi17 ?_
              refine zz_aload_n 82 C dX5_thing_81 rfl 0 rfl ?_
              refine zz_getR 85 C dX5_thing_82 rfl fl_X5_25 sr_0 rfl ?_
              refine zz_aload_n 86 C dX5_thing_85 rfl 0 rfl ?_
              refine zz_getI 89 C dX5_thing_86 rfl fl_X5_72 sr_0 rfl ?_
              refine zz_iload_n 90 C dX5_thing_89 rfl 3 rfl ?_
              obtain ⟨hi18, hf⟩ := zz_chk hf
              refine zz_iast 91 C sr_6 dX5_thing_90 rfl hi18 ?_
              refine zz_aload_n 92 C dX5_thing_91 rfl 0 rfl ?_
              refine zz_dup 93 C dX5_thing_92 rfl rfl ?_
              refine zz_getI 96 C dX5_thing_93 rfl fl_X5_72 sr_0 rfl ?_
              refine zz_iconst 97 C dX5_thing_96 rfl zz_i1 ?_
              refine zz_iadd 98 C dX5_thing_97 rfl ?_
              refine zz_putI 101 C dX5_thing_98 rfl fl_X5_72 fs_X5_4 rfl rfl sr_0 rfl ?_
              refine zz_aload_n 102 C dX5_thing_101 rfl 0 rfl ?_
              refine zz_getI 105 C dX5_thing_102 rfl fl_X5_72 sr_0 rfl ?_
              refine zz_iconst 106 C dX5_thing_105 rfl zz_i1 ?_
              refine zz_isub 107 C dX5_thing_106 rfl ?_
              cases hf
              exact zz_iret C dX5_thing_107 rfl rfl
            · refine zz_bipush 60 C dX5_thing_58 rfl zz_bpm2 ?_
              cases hf
              exact zz_iret C dX5_thing_60 rfl rfl
          · refine zz_iconst 48 C dX5_thing_47 rfl zz_im1 ?_
            cases hf
            exact zz_iret C dX5_thing_48 rfl rfl
      · refine zz_bipush 27 C dX5_thing_25 rfl zz_bp9 ?_
        refine zz_goto 31 C dX5_thing_27 rfl ?_
        obtain ⟨r21, M20, hc19, hf⟩ := zz_b2E hf
        refine zz_callS 34 [.int a2, .int 0, .int 9] C dX5_thing_31 rfl ml_X5_68 (k_X5_in hc19) rfl rfl rfl (Nat.le_of_ble_eq_true rfl) (zz_hR (Nat.le_of_ble_eq_true rfl) (Nat.le_of_ble_eq_true rfl)) ?_
        refine zz_if_eq 37 47 C dX5_thing_34 rfl rfl hf (fun h22 hf => ?_) (fun h22 hf => ?_)
        · refine zz_iconst 48 C dX5_thing_47 rfl zz_im1 ?_
          cases hf
          exact zz_iret C dX5_thing_48 rfl rfl
        · refine zz_iload_n 38 C dX5_thing_37 rfl 3 rfl ?_
          refine zz_iconst 39 C dX5_thing_38 rfl zz_i1 ?_
          refine zz_bipush 41 C dX5_thing_39 rfl zz_bp9 ?_
          obtain ⟨r25, M24, hc23, hf⟩ := zz_b2E hf
          refine zz_callS 44 [.int a3, .int 1, .int 9] C dX5_thing_41 rfl ml_X5_68 (k_X5_in hc23) rfl rfl rfl (Nat.le_of_ble_eq_true rfl) (zz_hR (Nat.le_of_ble_eq_true rfl) (Nat.le_of_ble_eq_true rfl)) ?_
          refine zz_if_ne 47 49 C dX5_thing_44 rfl rfl hf (fun h26 hf => ?_) (fun h26 hf => ?_)
          · refine zz_aload_n 50 C dX5_thing_49 rfl 0 rfl ?_
            refine zz_getI 53 C dX5_thing_50 rfl fl_X5_72 sr_0 rfl ?_
            refine zz_bipush 55 C dX5_thing_53 rfl zz_bp6 ?_
            refine zz_icmp_ne 58 61 C dX5_thing_55 rfl rfl hf (fun h27 hf => ?_) (fun h27 hf => ?_)
            · refine zz_aload_n 62 C dX5_thing_61 rfl 0 rfl ?_
              refine zz_getR 65 C dX5_thing_62 rfl fl_X5_19 sr_0 rfl ?_
              refine zz_aload_n 66 C dX5_thing_65 rfl 0 rfl ?_
              refine zz_getI 69 C dX5_thing_66 rfl fl_X5_72 sr_0 rfl ?_
              refine zz_iload_n 70 C dX5_thing_69 rfl 1 rfl ?_
              obtain ⟨hi28, hf⟩ := zz_chk hf
              refine zz_iast 71 C sr_4 dX5_thing_70 rfl hi28 ?_
              refine zz_aload_n 72 C dX5_thing_71 rfl 0 rfl ?_
              refine zz_getR 75 C dX5_thing_72 rfl fl_X5_22 sr_0 rfl ?_
              refine zz_aload_n 76 C dX5_thing_75 rfl 0 rfl ?_
              refine zz_getI 79 C dX5_thing_76 rfl fl_X5_72 sr_0 rfl ?_
              refine zz_iload_n 80 C dX5_thing_79 rfl 2 rfl ?_
              obtain ⟨hi29, hf⟩ := zz_chk hf
              refine zz_iast 81 C sr_5 dX5_thing_80 rfl hi29 ?_
              refine zz_aload_n 82 C dX5_thing_81 rfl 0 rfl ?_
              refine zz_getR 85 C dX5_thing_82 rfl fl_X5_25 sr_0 rfl ?_
              refine zz_aload_n 86 C dX5_thing_85 rfl 0 rfl ?_
              refine zz_getI 89 C dX5_thing_86 rfl fl_X5_72 sr_0 rfl ?_
              refine zz_iload_n 90 C dX5_thing_89 rfl 3 rfl ?_
              obtain ⟨hi30, hf⟩ := zz_chk hf
              refine zz_iast 91 C sr_6 dX5_thing_90 rfl hi30 ?_
              refine zz_aload_n 92 C dX5_thing_91 rfl 0 rfl ?_
              refine zz_dup 93 C dX5_thing_92 rfl rfl ?_
              refine zz_getI 96 C dX5_thing_93 rfl fl_X5_72 sr_0 rfl ?_
              refine zz_iconst 97 C dX5_thing_96 rfl zz_i1 ?_
              refine zz_iadd 98 C dX5_thing_97 rfl ?_
              refine zz_putI 101 C dX5_thing_98 rfl fl_X5_72 fs_X5_4 rfl rfl sr_0 rfl ?_
              refine zz_aload_n 102 C dX5_thing_101 rfl 0 rfl ?_
              refine zz_getI 105 C dX5_thing_102 rfl fl_X5_72 sr_0 rfl ?_
              refine zz_iconst 106 C dX5_thing_105 rfl zz_i1 ?_
              refine zz_isub 107 C dX5_thing_106 rfl ?_
              cases hf
              exact zz_iret C dX5_thing_107 rfl rfl
            · refine zz_bipush 60 C dX5_thing_58 rfl zz_bpm2 ?_
              cases hf
              exact zz_iret C dX5_thing_60 rfl rfl
          · refine zz_iconst 48 C dX5_thing_47 rfl zz_im1 ?_
            cases hf
            exact zz_iret C dX5_thing_48 rfl rfl
    · refine zz_iconst 16 C dX5_thing_15 rfl zz_i1 ?_
      refine zz_goto 20 C dX5_thing_16 rfl ?_
      refine zz_iload_n 21 C dX5_thing_20 rfl 1 rfl ?_
      refine zz_iconst 22 C dX5_thing_21 rfl zz_i3 ?_
      refine zz_icmp_ne 25 30 C dX5_thing_22 rfl rfl hf (fun h31 hf => ?_) (fun h31 hf => ?_)
      · refine zz_iconst 31 C dX5_thing_30 rfl zz_i0 ?_
        obtain ⟨r34, M33, hc32, hf⟩ := zz_b2E hf
        refine zz_callS 34 [.int a2, .int 1, .int 0] C dX5_thing_31 rfl ml_X5_68 (k_X5_in hc32) rfl rfl rfl (Nat.le_of_ble_eq_true rfl) (zz_hR (Nat.le_of_ble_eq_true rfl) (Nat.le_of_ble_eq_true rfl)) ?_
        refine zz_if_eq 37 47 C dX5_thing_34 rfl rfl hf (fun h35 hf => ?_) (fun h35 hf => ?_)
        · refine zz_iconst 48 C dX5_thing_47 rfl zz_im1 ?_
          cases hf
          exact zz_iret C dX5_thing_48 rfl rfl
        · refine zz_iload_n 38 C dX5_thing_37 rfl 3 rfl ?_
          refine zz_iconst 39 C dX5_thing_38 rfl zz_i1 ?_
          refine zz_bipush 41 C dX5_thing_39 rfl zz_bp9 ?_
          obtain ⟨r38, M37, hc36, hf⟩ := zz_b2E hf
          refine zz_callS 44 [.int a3, .int 1, .int 9] C dX5_thing_41 rfl ml_X5_68 (k_X5_in hc36) rfl rfl rfl (Nat.le_of_ble_eq_true rfl) (zz_hR (Nat.le_of_ble_eq_true rfl) (Nat.le_of_ble_eq_true rfl)) ?_
          refine zz_if_ne 47 49 C dX5_thing_44 rfl rfl hf (fun h39 hf => ?_) (fun h39 hf => ?_)
          · refine zz_aload_n 50 C dX5_thing_49 rfl 0 rfl ?_
            refine zz_getI 53 C dX5_thing_50 rfl fl_X5_72 sr_0 rfl ?_
            refine zz_bipush 55 C dX5_thing_53 rfl zz_bp6 ?_
            refine zz_icmp_ne 58 61 C dX5_thing_55 rfl rfl hf (fun h40 hf => ?_) (fun h40 hf => ?_)
            · refine zz_aload_n 62 C dX5_thing_61 rfl 0 rfl ?_
              refine zz_getR 65 C dX5_thing_62 rfl fl_X5_19 sr_0 rfl ?_
              refine zz_aload_n 66 C dX5_thing_65 rfl 0 rfl ?_
              refine zz_getI 69 C dX5_thing_66 rfl fl_X5_72 sr_0 rfl ?_
              refine zz_iload_n 70 C dX5_thing_69 rfl 1 rfl ?_
              obtain ⟨hi41, hf⟩ := zz_chk hf
              refine zz_iast 71 C sr_4 dX5_thing_70 rfl hi41 ?_
              refine zz_aload_n 72 C dX5_thing_71 rfl 0 rfl ?_
              refine zz_getR 75 C dX5_thing_72 rfl fl_X5_22 sr_0 rfl ?_
              refine zz_aload_n 76 C dX5_thing_75 rfl 0 rfl ?_
              refine zz_getI 79 C dX5_thing_76 rfl fl_X5_72 sr_0 rfl ?_
              refine zz_iload_n 80 C dX5_thing_79 rfl 2 rfl ?_
              obtain ⟨hi42, hf⟩ := zz_chk hf
              refine zz_iast 81 C sr_5 dX5_thing_80 rfl hi42 ?_
              refine zz_aload_n 82 C dX5_thing_81 rfl 0 rfl ?_
              refine zz_getR 85 C dX5_thing_82 rfl fl_X5_25 sr_0 rfl ?_
              refine zz_aload_n 86 C dX5_thing_85 rfl 0 rfl ?_
              refine zz_getI 89 C dX5_thing_86 rfl fl_X5_72 sr_0 rfl ?_
              refine zz_iload_n 90 C dX5_thing_89 rfl 3 rfl ?_
              obtain ⟨hi43, hf⟩ := zz_chk hf
              refine zz_iast 91 C sr_6 dX5_thing_90 rfl hi43 ?_
              refine zz_aload_n 92 C dX5_thing_91 rfl 0 rfl ?_
              refine zz_dup 93 C dX5_thing_92 rfl rfl ?_
              refine zz_getI 96 C dX5_thing_93 rfl fl_X5_72 sr_0 rfl ?_
              refine zz_iconst 97 C dX5_thing_96 rfl zz_i1 ?_
              refine zz_iadd 98 C dX5_thing_97 rfl ?_
              refine zz_putI 101 C dX5_thing_98 rfl fl_X5_72 fs_X5_4 rfl rfl sr_0 rfl ?_
              refine zz_aload_n 102 C dX5_thing_101 rfl 0 rfl ?_
              refine zz_getI 105 C dX5_thing_102 rfl fl_X5_72 sr_0 rfl ?_
              refine zz_iconst 106 C dX5_thing_105 rfl zz_i1 ?_
              refine zz_isub 107 C dX5_thing_106 rfl ?_
              cases hf
              exact zz_iret C dX5_thing_107 rfl rfl
            · refine zz_bipush 60 C dX5_thing_58 rfl zz_bpm2 ?_
              cases hf
              exact zz_iret C dX5_thing_60 rfl rfl
          · refine zz_iconst 48 C dX5_thing_47 rfl zz_im1 ?_
            cases hf
            exact zz_iret C dX5_thing_48 rfl rfl
      · refine zz_bipush 27 C dX5_thing_25 rfl zz_bp9 ?_
        refine zz_goto 31 C dX5_thing_27 rfl ?_
        obtain ⟨r46, M45, hc44, hf⟩ := zz_b2E hf
        refine zz_callS 34 [.int a2, .int 1, .int 9] C dX5_thing_31 rfl ml_X5_68 (k_X5_in hc44) rfl rfl rfl (Nat.le_of_ble_eq_true rfl) (zz_hR (Nat.le_of_ble_eq_true rfl) (Nat.le_of_ble_eq_true rfl)) ?_
        refine zz_if_eq 37 47 C dX5_thing_34 rfl rfl hf (fun h47 hf => ?_) (fun h47 hf => ?_)
        · refine zz_iconst 48 C dX5_thing_47 rfl zz_im1 ?_
          cases hf
          exact zz_iret C dX5_thing_48 rfl rfl
        · refine zz_iload_n 38 C dX5_thing_37 rfl 3 rfl ?_
          refine zz_iconst 39 C dX5_thing_38 rfl zz_i1 ?_
          refine zz_bipush 41 C dX5_thing_39 rfl zz_bp9 ?_
          obtain ⟨r50, M49, hc48, hf⟩ := zz_b2E hf
          refine zz_callS 44 [.int a3, .int 1, .int 9] C dX5_thing_41 rfl ml_X5_68 (k_X5_in hc48) rfl rfl rfl (Nat.le_of_ble_eq_true rfl) (zz_hR (Nat.le_of_ble_eq_true rfl) (Nat.le_of_ble_eq_true rfl)) ?_
          refine zz_if_ne 47 49 C dX5_thing_44 rfl rfl hf (fun h51 hf => ?_) (fun h51 hf => ?_)
          · refine zz_aload_n 50 C dX5_thing_49 rfl 0 rfl ?_
            refine zz_getI 53 C dX5_thing_50 rfl fl_X5_72 sr_0 rfl ?_
            refine zz_bipush 55 C dX5_thing_53 rfl zz_bp6 ?_
            refine zz_icmp_ne 58 61 C dX5_thing_55 rfl rfl hf (fun h52 hf => ?_) (fun h52 hf => ?_)
            · refine zz_aload_n 62 C dX5_thing_61 rfl 0 rfl ?_
              refine zz_getR 65 C dX5_thing_62 rfl fl_X5_19 sr_0 rfl ?_
              refine zz_aload_n 66 C dX5_thing_65 rfl 0 rfl ?_
              refine zz_getI 69 C dX5_thing_66 rfl fl_X5_72 sr_0 rfl ?_
              refine zz_iload_n 70 C dX5_thing_69 rfl 1 rfl ?_
              obtain ⟨hi53, hf⟩ := zz_chk hf
              refine zz_iast 71 C sr_4 dX5_thing_70 rfl hi53 ?_
              refine zz_aload_n 72 C dX5_thing_71 rfl 0 rfl ?_
              refine zz_getR 75 C dX5_thing_72 rfl fl_X5_22 sr_0 rfl ?_
              refine zz_aload_n 76 C dX5_thing_75 rfl 0 rfl ?_
              refine zz_getI 79 C dX5_thing_76 rfl fl_X5_72 sr_0 rfl ?_
              refine zz_iload_n 80 C dX5_thing_79 rfl 2 rfl ?_
              obtain ⟨hi54, hf⟩ := zz_chk hf
              refine zz_iast 81 C sr_5 dX5_thing_80 rfl hi54 ?_
              refine zz_aload_n 82 C dX5_thing_81 rfl 0 rfl ?_
              refine zz_getR 85 C dX5_thing_82 rfl fl_X5_25 sr_0 rfl ?_
              refine zz_aload_n 86 C dX5_thing_85 rfl 0 rfl ?_
              refine zz_getI 89 C dX5_thing_86 rfl fl_X5_72 sr_0 rfl ?_
              refine zz_iload_n 90 C dX5_thing_89 rfl 3 rfl ?_
              obtain ⟨hi55, hf⟩ := zz_chk hf
              refine zz_iast 91 C sr_6 dX5_thing_90 rfl hi55 ?_
              refine zz_aload_n 92 C dX5_thing_91 rfl 0 rfl ?_
              refine zz_dup 93 C dX5_thing_92 rfl rfl ?_
              refine zz_getI 96 C dX5_thing_93 rfl fl_X5_72 sr_0 rfl ?_
              refine zz_iconst 97 C dX5_thing_96 rfl zz_i1 ?_
              refine zz_iadd 98 C dX5_thing_97 rfl ?_
              refine zz_putI 101 C dX5_thing_98 rfl fl_X5_72 fs_X5_4 rfl rfl sr_0 rfl ?_
              refine zz_aload_n 102 C dX5_thing_101 rfl 0 rfl ?_
              refine zz_getI 105 C dX5_thing_102 rfl fl_X5_72 sr_0 rfl ?_
              refine zz_iconst 106 C dX5_thing_105 rfl zz_i1 ?_
              refine zz_isub 107 C dX5_thing_106 rfl ?_
              cases hf
              exact zz_iret C dX5_thing_107 rfl rfl
            · refine zz_bipush 60 C dX5_thing_58 rfl zz_bpm2 ?_
              cases hf
              exact zz_iret C dX5_thing_60 rfl rfl
          · refine zz_iconst 48 C dX5_thing_47 rfl zz_im1 ?_
            cases hf
            exact zz_iret C dX5_thing_48 rfl rfl
def f_X5_loud (a1 a2 : Int32) (M : zz_Mem) : Option (Int32 × zz_Mem) := zz_b2 (f_X5_isThing a1 M) (fun r3 M2 => (if r3 = 0 then some ((-1), M2) else zz_b2 (f_X5_in a2 1 9 M2) (fun r7 M6 => (if r7 = 0 then some ((-1), M6) else (if zz_in a1 6 then some (M6 6 a1.toNatClampNeg, zz_up M6 6 a1.toNatClampNeg a2) else none)))))
set_option maxHeartbeats 4000000 in
set_option maxRecDepth 100000 in
theorem k_X5_loud {l : Launch} {D : va_G} {cI : ClassId} {ad : Nat → Nat} {a1 a2 : Int32} {r : Int32} {M M1 : zz_Mem} (hf : f_X5_loud a1 a2 M = some (r, M1)) : zz_K l D zz_SR cI ad 2 yX5_loud cX5_loud 4 (some .int) [.ref (ad 0), .int a1, .int a2] M (some (.int r)) M1 := by
  unfold f_X5_loud at hf
  refine zz_entry (own := RX5) (L := [(0, .ref (ad 0)), (1, .int a1), (2, .int a2)]) (by decide +kernel) rfl (Nat.le_of_ble_eq_true rfl) rfl (fun p e s m args below meth c C => ?_)
  refine zz_aload_n 1 C dX5_loud_0 rfl 0 rfl ?_
  refine zz_iload_n 2 C dX5_loud_1 rfl 1 rfl ?_
  obtain ⟨r3, M2, hc1, hf⟩ := zz_b2E hf
  refine zz_callV 5 [.int a1] C dX5_loud_2 rfl ml_X5_82 (k_X5_isThing hc1) sr_0 (vC := vwCl[5]) rfl rfl rfl rfl rfl (Nat.le_of_ble_eq_true rfl) (zz_hR (Nat.le_of_ble_eq_true rfl) (Nat.le_of_ble_eq_true rfl)) ?_
  refine zz_if_eq 8 18 C dX5_loud_5 rfl rfl hf (fun h4 hf => ?_) (fun h4 hf => ?_)
  · refine zz_iconst 19 C dX5_loud_18 rfl zz_im1 ?_
    cases hf
    exact zz_iret C dX5_loud_19 rfl rfl
  · refine zz_iload_n 9 C dX5_loud_8 rfl 2 rfl ?_
    refine zz_iconst 10 C dX5_loud_9 rfl zz_i1 ?_
    refine zz_bipush 12 C dX5_loud_10 rfl zz_bp9 ?_
    obtain ⟨r7, M6, hc5, hf⟩ := zz_b2E hf
    refine zz_callS 15 [.int a2, .int 1, .int 9] C dX5_loud_12 rfl ml_X5_68 (k_X5_in hc5) rfl rfl rfl (Nat.le_of_ble_eq_true rfl) (zz_hR (Nat.le_of_ble_eq_true rfl) (Nat.le_of_ble_eq_true rfl)) ?_
    refine zz_if_ne 18 20 C dX5_loud_15 rfl rfl hf (fun h8 hf => ?_) (fun h8 hf => ?_)
    · refine zz_aload_n 21 C dX5_loud_20 rfl 0 rfl ?_
      refine zz_getR 24 C dX5_loud_21 rfl fl_X5_25 sr_0 rfl ?_
      refine zz_iload_n 25 C dX5_loud_24 rfl 1 rfl ?_
      obtain ⟨hi9, hf⟩ := zz_chk hf
      refine zz_iald 26 C sr_6 dX5_loud_25 rfl hi9 ?_
      refine zz_istore_n (L' := [(3, .int (M6 6 a1.toNatClampNeg)), (0, .ref (ad 0)), (1, .int a1), (2, .int a2)]) 27 C dX5_loud_26 rfl (Nat.le_of_ble_eq_true rfl) rfl ?_
      refine zz_aload_n 28 C dX5_loud_27 rfl 1 rfl ?_
      refine zz_getR 31 C dX5_loud_28 rfl fl_X5_25 sr_0 rfl ?_
      refine zz_iload_n 32 C dX5_loud_31 rfl 2 rfl ?_
      refine zz_iload_n 33 C dX5_loud_32 rfl 3 rfl ?_
      refine zz_iast 34 C sr_6 dX5_loud_33 rfl hi9 ?_
      refine zz_iload_n 35 C dX5_loud_34 rfl 0 rfl ?_
      cases hf
      exact zz_iret C dX5_loud_35 rfl rfl
    · refine zz_iconst 19 C dX5_loud_18 rfl zz_im1 ?_
      cases hf
      exact zz_iret C dX5_loud_19 rfl rfl
def f_X5_takesOf_4 (x1 : Int32) : Nat → Int32 → Int32 → zz_Mem → Option (Int32 × Int32 × zz_Mem)
  | 0, _, _, _ => none
  | n + 1, v2, v3, M => (if (M 0 8) ≤ v3 then some (v2, v3, M) else (if zz_in v3 16 then (if (M 7 v3.toNatClampNeg) = x1 then f_X5_takesOf_4 x1 n (v2 + 1) (v3 + 1) M else f_X5_takesOf_4 x1 n (v2 + 0) (v3 + 1) M) else none))
set_option maxHeartbeats 4000000 in
set_option maxRecDepth 100000 in
theorem l_X5_takesOf_4 {p : Program} {l : Launch} {e : Env} {s : State} {m : MethodId} {args : Array Value} {below : List Frame} {meth : Method} {c : Code} {D : va_G} {cI : ClassId} {ad : Nat → Nat} {x1 : Int32} {w : Option Value} {Mf : zz_Mem} (C : zz_C p (zz_rm 0) s m args meth c D cI RX5 cX5_takesOf 4 (some .int) 0 0) {w2 w3 : Int32} {M1 : zz_Mem} : ∀ {n : Nat} {v2 v3 : Int32} {M : zz_Mem}, f_X5_takesOf_4 x1 n v2 v3 M = some (w2, w3, M1) → zz_V p l e (zz_rm 0) s m args below meth c D zz_SR cI ad (zz_A zz_SR ad) 4 0 0 (MQ below (zz_Q D zz_SR cI ad w Mf) args s 0 0 (zz_A zz_SR ad)) 36 [(0, .ref (ad 0)), (1, .int x1), (2, .int w2), (3, .int w3)] [] M1 → zz_V p l e (zz_rm 0) s m args below meth c D zz_SR cI ad (zz_A zz_SR ad) 4 0 0 (MQ below (zz_Q D zz_SR cI ad w Mf) args s 0 0 (zz_A zz_SR ad)) 4 [(0, .ref (ad 0)), (1, .int x1), (2, .int v2), (3, .int v3)] [] M := by
  intro n
  induction n with
  | zero =>
    intro v2 v3 M hf
    simp [f_X5_takesOf_4] at hf
  | succ n ih0 =>
    intro v2 v3 M hf hex
    have ih := fun v2 v3 M hf => @ih0 v2 v3 M hf
    rw [f_X5_takesOf_4] at hf
    refine zz_iload_n 5 C dX5_takesOf_4 rfl 3 rfl ?_
    refine zz_aload_n 6 C dX5_takesOf_5 rfl 0 rfl ?_
    refine zz_getI 9 C dX5_takesOf_6 rfl fl_X5_75 sr_0 rfl ?_
    refine zz_icmp_ge 12 36 C dX5_takesOf_9 rfl rfl hf (fun h1 hf => ?_) (fun h1 hf => ?_)
    · cases hf
      exact zz_sub [0, 1, 2, 3] rfl hex
    · refine zz_iload_n 13 C dX5_takesOf_12 rfl 2 rfl ?_
      refine zz_aload_n 14 C dX5_takesOf_13 rfl 0 rfl ?_
      refine zz_getR 17 C dX5_takesOf_14 rfl fl_X5_28 sr_0 rfl ?_
      refine zz_iload_n 18 C dX5_takesOf_17 rfl 3 rfl ?_
      obtain ⟨hi2, hf⟩ := zz_chk hf
      refine zz_iald 19 C sr_7 dX5_takesOf_18 rfl hi2 ?_
      refine zz_iload_n 20 C dX5_takesOf_19 rfl 1 rfl ?_
      refine zz_icmp_ne 23 27 C dX5_takesOf_20 rfl rfl hf (fun h3 hf => ?_) (fun h3 hf => ?_)
      · refine zz_iconst 28 C dX5_takesOf_27 rfl zz_i0 ?_
        refine zz_iadd 29 C dX5_takesOf_28 rfl ?_
        refine zz_istore_n (L' := [(2, .int (v2 + 0)), (0, .ref (ad 0)), (1, .int x1), (3, .int v3)]) 30 C dX5_takesOf_29 rfl (Nat.le_of_ble_eq_true rfl) rfl ?_
        refine zz_iinc (L' := [(3, .int (v3 + 1)), (2, .int (v2 + 0)), (0, .ref (ad 0)), (1, .int x1)]) 33 C dX5_takesOf_30 rfl zz_i1 3 rfl (Nat.le_of_ble_eq_true rfl) rfl ?_
        refine zz_goto 4 C dX5_takesOf_33 rfl ?_
        exact zz_sub [2, 3, 1, 0] rfl (ih _ _ _ hf hex)
      · refine zz_iconst 24 C dX5_takesOf_23 rfl zz_i1 ?_
        refine zz_goto 28 C dX5_takesOf_24 rfl ?_
        refine zz_iadd 29 C dX5_takesOf_28 rfl ?_
        refine zz_istore_n (L' := [(2, .int (v2 + 1)), (0, .ref (ad 0)), (1, .int x1), (3, .int v3)]) 30 C dX5_takesOf_29 rfl (Nat.le_of_ble_eq_true rfl) rfl ?_
        refine zz_iinc (L' := [(3, .int (v3 + 1)), (2, .int (v2 + 1)), (0, .ref (ad 0)), (1, .int x1)]) 33 C dX5_takesOf_30 rfl zz_i1 3 rfl (Nat.le_of_ble_eq_true rfl) rfl ?_
        refine zz_goto 4 C dX5_takesOf_33 rfl ?_
        exact zz_sub [2, 3, 1, 0] rfl (ih _ _ _ hf hex)
def f_X5_takesOf (a1 : Int32) (M : zz_Mem) : Option (Int32 × zz_Mem) := zz_b3 (f_X5_takesOf_4 a1 5000 0 0 M) (fun w4 w5 M6 => some (w4, M6))
set_option maxHeartbeats 4000000 in
set_option maxRecDepth 100000 in
theorem k_X5_takesOf {l : Launch} {D : va_G} {cI : ClassId} {ad : Nat → Nat} {a1 : Int32} {r : Int32} {M M1 : zz_Mem} (hf : f_X5_takesOf a1 M = some (r, M1)) : zz_K l D zz_SR cI ad 0 yX5_takesOf cX5_takesOf 4 (some .int) [.ref (ad 0), .int a1] M (some (.int r)) M1 := by
  unfold f_X5_takesOf at hf
  refine zz_entry (own := RX5) (L := [(0, .ref (ad 0)), (1, .int a1)]) (by decide +kernel) rfl (Nat.le_of_ble_eq_true rfl) rfl (fun p e s m args below meth c C => ?_)
  refine zz_iconst 1 C dX5_takesOf_0 rfl zz_i0 ?_
  refine zz_istore_n (L' := [(2, .int 0), (0, .ref (ad 0)), (1, .int a1)]) 2 C dX5_takesOf_1 rfl (Nat.le_of_ble_eq_true rfl) rfl ?_
  refine zz_iconst 3 C dX5_takesOf_2 rfl zz_i0 ?_
  refine zz_istore_n (L' := [(3, .int 0), (2, .int 0), (0, .ref (ad 0)), (1, .int a1)]) 4 C dX5_takesOf_3 rfl (Nat.le_of_ble_eq_true rfl) rfl ?_
  obtain ⟨w4, w5, M6, hc7, hf⟩ := zz_b3E hf
  refine zz_sub [2, 3, 1, 0] rfl (l_X5_takesOf_4 C  hc7 ?_)
  refine zz_iload_n 37 C dX5_takesOf_36 rfl 2 rfl ?_
  cases hf
  exact zz_iret C dX5_takesOf_37 rfl rfl
def f_X5_take_63 (x1 x2 : Int32) : Nat → Int32 → zz_Mem → Option (Int32 × zz_Mem)
  | 0, _, _ => none
  | n + 1, v3, M => (if 6 ≤ v3 then some (v3, M) else (if zz_in ((6 * (M 0 8)) + v3) 96 then f_X5_take_63 x1 x2 n (v3 + 1) (zz_up M 9 (((6 * (M 0 8)) + v3).toNatClampNeg) (-1)) else none))
set_option maxHeartbeats 4000000 in
set_option maxRecDepth 100000 in
theorem l_X5_take_63 {p : Program} {l : Launch} {e : Env} {s : State} {m : MethodId} {args : Array Value} {below : List Frame} {meth : Method} {c : Code} {D : va_G} {cI : ClassId} {ad : Nat → Nat} {x1 x2 : Int32} {w : Option Value} {Mf : zz_Mem} (C : zz_C p (zz_rm 2) s m args meth c D cI RX5 cX5_take 4 (some .int) 0 0) {w3 : Int32} {M1 : zz_Mem} : ∀ {n : Nat} {v3 : Int32} {M : zz_Mem}, f_X5_take_63 x1 x2 n v3 M = some (w3, M1) → zz_V p l e (zz_rm 2) s m args below meth c D zz_SR cI ad (zz_A zz_SR ad) 4 0 0 (MQ below (zz_Q D zz_SR cI ad w Mf) args s 0 0 (zz_A zz_SR ad)) 90 [(0, .ref (ad 0)), (1, .int x1), (2, .int x2), (3, .int w3)] [] M1 → zz_V p l e (zz_rm 2) s m args below meth c D zz_SR cI ad (zz_A zz_SR ad) 4 0 0 (MQ below (zz_Q D zz_SR cI ad w Mf) args s 0 0 (zz_A zz_SR ad)) 63 [(0, .ref (ad 0)), (1, .int x1), (2, .int x2), (3, .int v3)] [] M := by
  intro n
  induction n with
  | zero =>
    intro v3 M hf
    simp [f_X5_take_63] at hf
  | succ n ih0 =>
    intro v3 M hf hex
    have ih := fun v3 M hf => @ih0 v3 M hf
    rw [f_X5_take_63] at hf
    refine zz_iload_n 64 C dX5_take_63 rfl 3 rfl ?_
    refine zz_bipush 66 C dX5_take_64 rfl zz_bp6 ?_
    refine zz_icmp_ge 69 90 C dX5_take_66 rfl rfl hf (fun h16 hf => ?_) (fun h16 hf => ?_)
    · cases hf
      exact zz_sub [0, 1, 2, 3] rfl hex
    · refine zz_aload_n 70 C dX5_take_69 rfl 0 rfl ?_
      refine zz_getR 73 C dX5_take_70 rfl fl_X5_34 sr_0 rfl ?_
      refine zz_bipush 75 C dX5_take_73 rfl zz_bp6 ?_
      refine zz_aload_n 76 C dX5_take_75 rfl 0 rfl ?_
      refine zz_getI 79 C dX5_take_76 rfl fl_X5_75 sr_0 rfl ?_
      refine zz_imul 80 C dX5_take_79 rfl ?_
      refine zz_iload_n 81 C dX5_take_80 rfl 3 rfl ?_
      refine zz_iadd 82 C dX5_take_81 rfl ?_
      refine zz_iconst 83 C dX5_take_82 rfl zz_im1 ?_
      obtain ⟨hi17, hf⟩ := zz_chk hf
      refine zz_iast 84 C sr_9 dX5_take_83 rfl hi17 ?_
      refine zz_iinc (L' := [(3, .int (v3 + 1)), (0, .ref (ad 0)), (1, .int x1), (2, .int x2)]) 87 C dX5_take_84 rfl zz_i1 3 rfl (Nat.le_of_ble_eq_true rfl) rfl ?_
      refine zz_goto 63 C dX5_take_87 rfl ?_
      exact zz_sub [1, 2, 3, 0] rfl (ih _ _ hf hex)
def f_X5_take (a1 a2 : Int32) (M : zz_Mem) : Option (Int32 × zz_Mem) := zz_b2 (f_X5_isScene a1 M) (fun r3 M2 => (if r3 = 0 then some ((-1), M2) else zz_b2 (f_X5_in a2 0 20 M2) (fun r7 M6 => (if r7 = 0 then some ((-1), M6) else (if (M6 0 8) = 16 then some ((-2), M6) else zz_b2 (f_X5_takesOf a1 M6) (fun r12 M11 => (if r12 = 4 then some ((-2), M11) else (if zz_in (M11 0 8) 16 then (if zz_in ((zz_up M11 7 ((M11 0 8).toNatClampNeg) a1) 0 8) 16 then zz_b2 (f_X5_take_63 a1 a2 5000 0 (zz_up (zz_up M11 7 ((M11 0 8).toNatClampNeg) a1) 8 (((zz_up M11 7 ((M11 0 8).toNatClampNeg) a1) 0 8).toNatClampNeg) a2)) (fun w18 M19 => some (((zz_up M19 0 8 ((M19 0 8) + 1)) 0 8) - 1, zz_up M19 0 8 ((M19 0 8) + 1))) else none) else none))))))))
set_option maxHeartbeats 4000000 in
set_option maxRecDepth 100000 in
theorem k_X5_take {l : Launch} {D : va_G} {cI : ClassId} {ad : Nat → Nat} {a1 a2 : Int32} {r : Int32} {M M1 : zz_Mem} (hf : f_X5_take a1 a2 M = some (r, M1)) : zz_K l D zz_SR cI ad 2 yX5_take cX5_take 4 (some .int) [.ref (ad 0), .int a1, .int a2] M (some (.int r)) M1 := by
  unfold f_X5_take at hf
  refine zz_entry (own := RX5) (L := [(0, .ref (ad 0)), (1, .int a1), (2, .int a2)]) (by decide +kernel) rfl (Nat.le_of_ble_eq_true rfl) rfl (fun p e s m args below meth c C => ?_)
  refine zz_aload_n 1 C dX5_take_0 rfl 0 rfl ?_
  refine zz_iload_n 2 C dX5_take_1 rfl 1 rfl ?_
  obtain ⟨r3, M2, hc1, hf⟩ := zz_b2E hf
  refine zz_callV 5 [.int a1] C dX5_take_2 rfl ml_X5_78 (k_X5_isScene hc1) sr_0 (vC := vwCl[5]) rfl rfl rfl rfl rfl (Nat.le_of_ble_eq_true rfl) (zz_hR (Nat.le_of_ble_eq_true rfl) (Nat.le_of_ble_eq_true rfl)) ?_
  refine zz_if_eq 8 18 C dX5_take_5 rfl rfl hf (fun h4 hf => ?_) (fun h4 hf => ?_)
  · refine zz_iconst 19 C dX5_take_18 rfl zz_im1 ?_
    cases hf
    exact zz_iret C dX5_take_19 rfl rfl
  · refine zz_iload_n 9 C dX5_take_8 rfl 2 rfl ?_
    refine zz_iconst 10 C dX5_take_9 rfl zz_i0 ?_
    refine zz_bipush 12 C dX5_take_10 rfl zz_bp20 ?_
    obtain ⟨r7, M6, hc5, hf⟩ := zz_b2E hf
    refine zz_callS 15 [.int a2, .int 0, .int 20] C dX5_take_12 rfl ml_X5_68 (k_X5_in hc5) rfl rfl rfl (Nat.le_of_ble_eq_true rfl) (zz_hR (Nat.le_of_ble_eq_true rfl) (Nat.le_of_ble_eq_true rfl)) ?_
    refine zz_if_ne 18 20 C dX5_take_15 rfl rfl hf (fun h8 hf => ?_) (fun h8 hf => ?_)
    · refine zz_aload_n 21 C dX5_take_20 rfl 0 rfl ?_
      refine zz_getI 24 C dX5_take_21 rfl fl_X5_75 sr_0 rfl ?_
      refine zz_bipush 26 C dX5_take_24 rfl zz_bp16 ?_
      refine zz_icmp_eq 29 38 C dX5_take_26 rfl rfl hf (fun h9 hf => ?_) (fun h9 hf => ?_)
      · refine zz_bipush 40 C dX5_take_38 rfl zz_bpm2 ?_
        cases hf
        exact zz_iret C dX5_take_40 rfl rfl
      · refine zz_aload_n 30 C dX5_take_29 rfl 0 rfl ?_
        refine zz_iload_n 31 C dX5_take_30 rfl 1 rfl ?_
        obtain ⟨r12, M11, hc10, hf⟩ := zz_b2E hf
        refine zz_callV 34 [.int a1] C dX5_take_31 rfl ml_X5_85 (k_X5_takesOf hc10) sr_0 (vC := vwCl[5]) rfl rfl rfl rfl rfl (Nat.le_of_ble_eq_true rfl) (zz_hR (Nat.le_of_ble_eq_true rfl) (Nat.le_of_ble_eq_true rfl)) ?_
        refine zz_iconst 35 C dX5_take_34 rfl zz_i4 ?_
        refine zz_icmp_ne 38 41 C dX5_take_35 rfl rfl hf (fun h13 hf => ?_) (fun h13 hf => ?_)
        · refine zz_aload_n 42 C dX5_take_41 rfl 0 rfl ?_
          refine zz_getR 45 C dX5_take_42 rfl fl_X5_28 sr_0 rfl ?_
          refine zz_aload_n 46 C dX5_take_45 rfl 0 rfl ?_
          refine zz_getI 49 C dX5_take_46 rfl fl_X5_75 sr_0 rfl ?_
          refine zz_iload_n 50 C dX5_take_49 rfl 1 rfl ?_
          obtain ⟨hi14, hf⟩ := zz_chk hf
          refine zz_iast 51 C sr_7 dX5_take_50 rfl hi14 ?_
          refine zz_aload_n 52 C dX5_take_51 rfl 0 rfl ?_
          refine zz_getR 55 C dX5_take_52 rfl fl_X5_31 sr_0 rfl ?_
          refine zz_aload_n 56 C dX5_take_55 rfl 0 rfl ?_
          refine zz_getI 59 C dX5_take_56 rfl fl_X5_75 sr_0 rfl ?_
          refine zz_iload_n 60 C dX5_take_59 rfl 2 rfl ?_
          obtain ⟨hi15, hf⟩ := zz_chk hf
          refine zz_iast 61 C sr_8 dX5_take_60 rfl hi15 ?_
          refine zz_iconst 62 C dX5_take_61 rfl zz_i0 ?_
          refine zz_istore_n (L' := [(3, .int 0), (0, .ref (ad 0)), (1, .int a1), (2, .int a2)]) 63 C dX5_take_62 rfl (Nat.le_of_ble_eq_true rfl) rfl ?_
          obtain ⟨w18, M19, hc20, hf⟩ := zz_b2E hf
          refine zz_sub [1, 2, 3, 0] rfl (l_X5_take_63 C  hc20 ?_)
          refine zz_aload_n 91 C dX5_take_90 rfl 0 rfl ?_
          refine zz_dup 92 C dX5_take_91 rfl rfl ?_
          refine zz_getI 95 C dX5_take_92 rfl fl_X5_75 sr_0 rfl ?_
          refine zz_iconst 96 C dX5_take_95 rfl zz_i1 ?_
          refine zz_iadd 97 C dX5_take_96 rfl ?_
          refine zz_putI 100 C dX5_take_97 rfl fl_X5_75 fs_X5_8 rfl rfl sr_0 rfl ?_
          refine zz_aload_n 101 C dX5_take_100 rfl 0 rfl ?_
          refine zz_getI 104 C dX5_take_101 rfl fl_X5_75 sr_0 rfl ?_
          refine zz_iconst 105 C dX5_take_104 rfl zz_i1 ?_
          refine zz_isub 106 C dX5_take_105 rfl ?_
          cases hf
          exact zz_iret C dX5_take_106 rfl rfl
        · refine zz_bipush 40 C dX5_take_38 rfl zz_bpm2 ?_
          cases hf
          exact zz_iret C dX5_take_40 rfl rfl
    · refine zz_iconst 19 C dX5_take_18 rfl zz_im1 ?_
      cases hf
      exact zz_iret C dX5_take_19 rfl rfl
def f_X5_show (a1 a2 a3 : Int32) (M : zz_Mem) : Option (Int32 × zz_Mem) := zz_b2 (f_X5_isTake a1 M) (fun r3 M2 => (if r3 = 0 then some ((-5), M2) else zz_b2 (f_X5_isThing a2 M2) (fun r7 M6 => (if r7 = 0 then some ((-5), M6) else zz_b2 (f_X5_in a3 (-1) 99 M6) (fun r11 M10 => (if r11 = 0 then some ((-5), M10) else (if zz_in ((6 * a1) + a2) 96 then some (M10 9 (((6 * a1) + a2).toNatClampNeg), zz_up M10 9 (((6 * a1) + a2).toNatClampNeg) a3) else none)))))))
set_option maxHeartbeats 4000000 in
set_option maxRecDepth 100000 in
theorem k_X5_show {l : Launch} {D : va_G} {cI : ClassId} {ad : Nat → Nat} {a1 a2 a3 : Int32} {r : Int32} {M M1 : zz_Mem} (hf : f_X5_show a1 a2 a3 M = some (r, M1)) : zz_K l D zz_SR cI ad 2 yX5_show cX5_show 5 (some .int) [.ref (ad 0), .int a1, .int a2, .int a3] M (some (.int r)) M1 := by
  unfold f_X5_show at hf
  refine zz_entry (own := RX5) (L := [(0, .ref (ad 0)), (1, .int a1), (2, .int a2), (3, .int a3)]) (by decide +kernel) rfl (Nat.le_of_ble_eq_true rfl) rfl (fun p e s m args below meth c C => ?_)
  refine zz_aload_n 1 C dX5_show_0 rfl 0 rfl ?_
  refine zz_iload_n 2 C dX5_show_1 rfl 1 rfl ?_
  obtain ⟨r3, M2, hc1, hf⟩ := zz_b2E hf
  refine zz_callV 5 [.int a1] C dX5_show_2 rfl ml_X5_89 (k_X5_isTake hc1) sr_0 (vC := vwCl[5]) rfl rfl rfl rfl rfl (Nat.le_of_ble_eq_true rfl) (zz_hR (Nat.le_of_ble_eq_true rfl) (Nat.le_of_ble_eq_true rfl)) ?_
  refine zz_if_eq 8 26 C dX5_show_5 rfl rfl hf (fun h4 hf => ?_) (fun h4 hf => ?_)
  · refine zz_bipush 28 C dX5_show_26 rfl zz_bpm5 ?_
    cases hf
    exact zz_iret C dX5_show_28 rfl rfl
  · refine zz_aload_n 9 C dX5_show_8 rfl 0 rfl ?_
    refine zz_iload_n 10 C dX5_show_9 rfl 2 rfl ?_
    obtain ⟨r7, M6, hc5, hf⟩ := zz_b2E hf
    refine zz_callV 13 [.int a2] C dX5_show_10 rfl ml_X5_82 (k_X5_isThing hc5) sr_0 (vC := vwCl[5]) rfl rfl rfl rfl rfl (Nat.le_of_ble_eq_true rfl) (zz_hR (Nat.le_of_ble_eq_true rfl) (Nat.le_of_ble_eq_true rfl)) ?_
    refine zz_if_eq 16 26 C dX5_show_13 rfl rfl hf (fun h8 hf => ?_) (fun h8 hf => ?_)
    · refine zz_bipush 28 C dX5_show_26 rfl zz_bpm5 ?_
      cases hf
      exact zz_iret C dX5_show_28 rfl rfl
    · refine zz_iload_n 17 C dX5_show_16 rfl 3 rfl ?_
      refine zz_iconst 18 C dX5_show_17 rfl zz_im1 ?_
      refine zz_bipush 20 C dX5_show_18 rfl zz_bp99 ?_
      obtain ⟨r11, M10, hc9, hf⟩ := zz_b2E hf
      refine zz_callS 23 [.int a3, .int (-1), .int 99] C dX5_show_20 rfl ml_X5_68 (k_X5_in hc9) rfl rfl rfl (Nat.le_of_ble_eq_true rfl) (zz_hR (Nat.le_of_ble_eq_true rfl) (Nat.le_of_ble_eq_true rfl)) ?_
      refine zz_if_ne 26 29 C dX5_show_23 rfl rfl hf (fun h12 hf => ?_) (fun h12 hf => ?_)
      · refine zz_aload_n 30 C dX5_show_29 rfl 0 rfl ?_
        refine zz_getR 33 C dX5_show_30 rfl fl_X5_34 sr_0 rfl ?_
        refine zz_bipush 35 C dX5_show_33 rfl zz_bp6 ?_
        refine zz_iload_n 36 C dX5_show_35 rfl 1 rfl ?_
        refine zz_imul 37 C dX5_show_36 rfl ?_
        refine zz_iload_n 38 C dX5_show_37 rfl 2 rfl ?_
        refine zz_iadd 39 C dX5_show_38 rfl ?_
        obtain ⟨hi13, hf⟩ := zz_chk hf
        refine zz_iald 40 C sr_9 dX5_show_39 rfl hi13 ?_
        refine zz_istore (L' := [(4, .int (M10 9 (((6 * a1) + a2).toNatClampNeg))), (0, .ref (ad 0)), (1, .int a1), (2, .int a2), (3, .int a3)]) 42 C dX5_show_40 rfl (Nat.le_of_ble_eq_true rfl) rfl ?_
        refine zz_aload_n 43 C dX5_show_42 rfl 1 rfl ?_
        refine zz_getR 46 C dX5_show_43 rfl fl_X5_34 sr_0 rfl ?_
        refine zz_bipush 48 C dX5_show_46 rfl zz_bp6 ?_
        refine zz_iload_n 49 C dX5_show_48 rfl 2 rfl ?_
        refine zz_imul 50 C dX5_show_49 rfl ?_
        refine zz_iload_n 51 C dX5_show_50 rfl 3 rfl ?_
        refine zz_iadd 52 C dX5_show_51 rfl ?_
        refine zz_iload_n 53 C dX5_show_52 rfl 4 rfl ?_
        refine zz_iast 54 C sr_9 dX5_show_53 rfl hi13 ?_
        refine zz_iload 56 C dX5_show_54 rfl 0 rfl ?_
        cases hf
        exact zz_iret C dX5_show_56 rfl rfl
      · refine zz_bipush 28 C dX5_show_26 rfl zz_bpm5 ?_
        cases hf
        exact zz_iret C dX5_show_28 rfl rfl
def f_X5_like_23 (x1 x2 : Int32) : Nat → Int32 → Int32 → zz_Mem → Option (Int32 × Int32 × zz_Mem)
  | 0, _, _, _ => none
  | n + 1, v3, v4, M => (if (M 0 4) ≤ v4 then some (v3, v4, M) else (if zz_in ((6 * x1) + v4) 96 then (if zz_in ((6 * x2) + v4) 96 then (if (M 9 (((6 * x1) + v4).toNatClampNeg)) = (M 9 (((6 * x2) + v4).toNatClampNeg)) then f_X5_like_23 x1 x2 n (v3 + 0) (v4 + 1) (zz_up M 9 (((6 * x1) + v4).toNatClampNeg) (M 9 (((6 * x2) + v4).toNatClampNeg))) else f_X5_like_23 x1 x2 n (v3 + 1) (v4 + 1) (zz_up M 9 (((6 * x1) + v4).toNatClampNeg) (M 9 (((6 * x2) + v4).toNatClampNeg)))) else none) else none))
set_option maxHeartbeats 4000000 in
set_option maxRecDepth 100000 in
theorem l_X5_like_23 {p : Program} {l : Launch} {e : Env} {s : State} {m : MethodId} {args : Array Value} {below : List Frame} {meth : Method} {c : Code} {D : va_G} {cI : ClassId} {ad : Nat → Nat} {x1 x2 : Int32} {w : Option Value} {Mf : zz_Mem} (C : zz_C p (zz_rm 2) s m args meth c D cI RX5 cX5_like 5 (some .int) 0 0) {w3 w4 : Int32} {M1 : zz_Mem} : ∀ {n : Nat} {v3 v4 : Int32} {M : zz_Mem}, f_X5_like_23 x1 x2 n v3 v4 M = some (w3, w4, M1) → zz_V p l e (zz_rm 2) s m args below meth c D zz_SR cI ad (zz_A zz_SR ad) 5 0 0 (MQ below (zz_Q D zz_SR cI ad w Mf) args s 0 0 (zz_A zz_SR ad)) 97 [(0, .ref (ad 0)), (1, .int x1), (2, .int x2), (3, .int w3), (4, .int w4)] [] M1 → zz_V p l e (zz_rm 2) s m args below meth c D zz_SR cI ad (zz_A zz_SR ad) 5 0 0 (MQ below (zz_Q D zz_SR cI ad w Mf) args s 0 0 (zz_A zz_SR ad)) 23 [(0, .ref (ad 0)), (1, .int x1), (2, .int x2), (3, .int v3), (4, .int v4)] [] M := by
  intro n
  induction n with
  | zero =>
    intro v3 v4 M hf
    simp [f_X5_like_23] at hf
  | succ n ih0 =>
    intro v3 v4 M hf hex
    have ih := fun v3 v4 M hf => @ih0 v3 v4 M hf
    rw [f_X5_like_23] at hf
    refine zz_iload 25 C dX5_like_23 rfl 4 rfl ?_
    refine zz_aload_n 26 C dX5_like_25 rfl 0 rfl ?_
    refine zz_getI 29 C dX5_like_26 rfl fl_X5_72 sr_0 rfl ?_
    refine zz_icmp_ge 32 97 C dX5_like_29 rfl rfl hf (fun h9 hf => ?_) (fun h9 hf => ?_)
    · cases hf
      exact zz_sub [0, 1, 2, 3, 4] rfl hex
    · refine zz_iload_n 33 C dX5_like_32 rfl 3 rfl ?_
      refine zz_aload_n 34 C dX5_like_33 rfl 0 rfl ?_
      refine zz_getR 37 C dX5_like_34 rfl fl_X5_34 sr_0 rfl ?_
      refine zz_bipush 39 C dX5_like_37 rfl zz_bp6 ?_
      refine zz_iload_n 40 C dX5_like_39 rfl 1 rfl ?_
      refine zz_imul 41 C dX5_like_40 rfl ?_
      refine zz_iload 43 C dX5_like_41 rfl 4 rfl ?_
      refine zz_iadd 44 C dX5_like_43 rfl ?_
      obtain ⟨hi10, hf⟩ := zz_chk hf
      refine zz_iald 45 C sr_9 dX5_like_44 rfl hi10 ?_
      refine zz_aload_n 46 C dX5_like_45 rfl 0 rfl ?_
      refine zz_getR 49 C dX5_like_46 rfl fl_X5_34 sr_0 rfl ?_
      refine zz_bipush 51 C dX5_like_49 rfl zz_bp6 ?_
      refine zz_iload_n 52 C dX5_like_51 rfl 2 rfl ?_
      refine zz_imul 53 C dX5_like_52 rfl ?_
      refine zz_iload 55 C dX5_like_53 rfl 4 rfl ?_
      refine zz_iadd 56 C dX5_like_55 rfl ?_
      obtain ⟨hi11, hf⟩ := zz_chk hf
      refine zz_iald 57 C sr_9 dX5_like_56 rfl hi11 ?_
      refine zz_icmp_eq 60 64 C dX5_like_57 rfl rfl hf (fun h12 hf => ?_) (fun h12 hf => ?_)
      · refine zz_iconst 65 C dX5_like_64 rfl zz_i0 ?_
        refine zz_iadd 66 C dX5_like_65 rfl ?_
        refine zz_istore_n (L' := [(3, .int (v3 + 0)), (0, .ref (ad 0)), (1, .int x1), (2, .int x2), (4, .int v4)]) 67 C dX5_like_66 rfl (Nat.le_of_ble_eq_true rfl) rfl ?_
        refine zz_aload_n 68 C dX5_like_67 rfl 1 rfl ?_
        refine zz_getR 71 C dX5_like_68 rfl fl_X5_34 sr_0 rfl ?_
        refine zz_bipush 73 C dX5_like_71 rfl zz_bp6 ?_
        refine zz_iload_n 74 C dX5_like_73 rfl 2 rfl ?_
        refine zz_imul 75 C dX5_like_74 rfl ?_
        refine zz_iload 77 C dX5_like_75 rfl 4 rfl ?_
        refine zz_iadd 78 C dX5_like_77 rfl ?_
        refine zz_aload_n 79 C dX5_like_78 rfl 1 rfl ?_
        refine zz_getR 82 C dX5_like_79 rfl fl_X5_34 sr_0 rfl ?_
        refine zz_bipush 84 C dX5_like_82 rfl zz_bp6 ?_
        refine zz_iload_n 85 C dX5_like_84 rfl 3 rfl ?_
        refine zz_imul 86 C dX5_like_85 rfl ?_
        refine zz_iload 88 C dX5_like_86 rfl 4 rfl ?_
        refine zz_iadd 89 C dX5_like_88 rfl ?_
        refine zz_iald 90 C sr_9 dX5_like_89 rfl hi11 ?_
        refine zz_iast 91 C sr_9 dX5_like_90 rfl hi10 ?_
        refine zz_iinc (L' := [(4, .int (v4 + 1)), (3, .int (v3 + 0)), (0, .ref (ad 0)), (1, .int x1), (2, .int x2)]) 94 C dX5_like_91 rfl zz_i1 4 rfl (Nat.le_of_ble_eq_true rfl) rfl ?_
        refine zz_goto 23 C dX5_like_94 rfl ?_
        exact zz_sub [2, 3, 4, 1, 0] rfl (ih _ _ _ hf hex)
      · refine zz_iconst 61 C dX5_like_60 rfl zz_i1 ?_
        refine zz_goto 65 C dX5_like_61 rfl ?_
        refine zz_iadd 66 C dX5_like_65 rfl ?_
        refine zz_istore_n (L' := [(3, .int (v3 + 1)), (0, .ref (ad 0)), (1, .int x1), (2, .int x2), (4, .int v4)]) 67 C dX5_like_66 rfl (Nat.le_of_ble_eq_true rfl) rfl ?_
        refine zz_aload_n 68 C dX5_like_67 rfl 1 rfl ?_
        refine zz_getR 71 C dX5_like_68 rfl fl_X5_34 sr_0 rfl ?_
        refine zz_bipush 73 C dX5_like_71 rfl zz_bp6 ?_
        refine zz_iload_n 74 C dX5_like_73 rfl 2 rfl ?_
        refine zz_imul 75 C dX5_like_74 rfl ?_
        refine zz_iload 77 C dX5_like_75 rfl 4 rfl ?_
        refine zz_iadd 78 C dX5_like_77 rfl ?_
        refine zz_aload_n 79 C dX5_like_78 rfl 1 rfl ?_
        refine zz_getR 82 C dX5_like_79 rfl fl_X5_34 sr_0 rfl ?_
        refine zz_bipush 84 C dX5_like_82 rfl zz_bp6 ?_
        refine zz_iload_n 85 C dX5_like_84 rfl 3 rfl ?_
        refine zz_imul 86 C dX5_like_85 rfl ?_
        refine zz_iload 88 C dX5_like_86 rfl 4 rfl ?_
        refine zz_iadd 89 C dX5_like_88 rfl ?_
        refine zz_iald 90 C sr_9 dX5_like_89 rfl hi11 ?_
        refine zz_iast 91 C sr_9 dX5_like_90 rfl hi10 ?_
        refine zz_iinc (L' := [(4, .int (v4 + 1)), (3, .int (v3 + 1)), (0, .ref (ad 0)), (1, .int x1), (2, .int x2)]) 94 C dX5_like_91 rfl zz_i1 4 rfl (Nat.le_of_ble_eq_true rfl) rfl ?_
        refine zz_goto 23 C dX5_like_94 rfl ?_
        exact zz_sub [2, 3, 4, 1, 0] rfl (ih _ _ _ hf hex)
def f_X5_like (a1 a2 : Int32) (M : zz_Mem) : Option (Int32 × zz_Mem) := zz_b2 (f_X5_isTake a1 M) (fun r3 M2 => (if r3 = 0 then some ((-1), M2) else zz_b2 (f_X5_isTake a2 M2) (fun r7 M6 => (if r7 = 0 then some ((-1), M6) else zz_b3 (f_X5_like_23 a1 a2 5000 0 0 M6) (fun w13 w14 M15 => some (w13, M15))))))
set_option maxHeartbeats 4000000 in
set_option maxRecDepth 100000 in
theorem k_X5_like {l : Launch} {D : va_G} {cI : ClassId} {ad : Nat → Nat} {a1 a2 : Int32} {r : Int32} {M M1 : zz_Mem} (hf : f_X5_like a1 a2 M = some (r, M1)) : zz_K l D zz_SR cI ad 2 yX5_like cX5_like 5 (some .int) [.ref (ad 0), .int a1, .int a2] M (some (.int r)) M1 := by
  unfold f_X5_like at hf
  refine zz_entry (own := RX5) (L := [(0, .ref (ad 0)), (1, .int a1), (2, .int a2)]) (by decide +kernel) rfl (Nat.le_of_ble_eq_true rfl) rfl (fun p e s m args below meth c C => ?_)
  refine zz_aload_n 1 C dX5_like_0 rfl 0 rfl ?_
  refine zz_iload_n 2 C dX5_like_1 rfl 1 rfl ?_
  obtain ⟨r3, M2, hc1, hf⟩ := zz_b2E hf
  refine zz_callV 5 [.int a1] C dX5_like_2 rfl ml_X5_89 (k_X5_isTake hc1) sr_0 (vC := vwCl[5]) rfl rfl rfl rfl rfl (Nat.le_of_ble_eq_true rfl) (zz_hR (Nat.le_of_ble_eq_true rfl) (Nat.le_of_ble_eq_true rfl)) ?_
  refine zz_if_eq 8 16 C dX5_like_5 rfl rfl hf (fun h4 hf => ?_) (fun h4 hf => ?_)
  · refine zz_iconst 17 C dX5_like_16 rfl zz_im1 ?_
    cases hf
    exact zz_iret C dX5_like_17 rfl rfl
  · refine zz_aload_n 9 C dX5_like_8 rfl 0 rfl ?_
    refine zz_iload_n 10 C dX5_like_9 rfl 2 rfl ?_
    obtain ⟨r7, M6, hc5, hf⟩ := zz_b2E hf
    refine zz_callV 13 [.int a2] C dX5_like_10 rfl ml_X5_89 (k_X5_isTake hc5) sr_0 (vC := vwCl[5]) rfl rfl rfl rfl rfl (Nat.le_of_ble_eq_true rfl) (zz_hR (Nat.le_of_ble_eq_true rfl) (Nat.le_of_ble_eq_true rfl)) ?_
    refine zz_if_ne 16 18 C dX5_like_13 rfl rfl hf (fun h8 hf => ?_) (fun h8 hf => ?_)
    · refine zz_iconst 19 C dX5_like_18 rfl zz_i0 ?_
      refine zz_istore_n (L' := [(3, .int 0), (0, .ref (ad 0)), (1, .int a1), (2, .int a2)]) 20 C dX5_like_19 rfl (Nat.le_of_ble_eq_true rfl) rfl ?_
      refine zz_iconst 21 C dX5_like_20 rfl zz_i0 ?_
      refine zz_istore (L' := [(4, .int 0), (3, .int 0), (0, .ref (ad 0)), (1, .int a1), (2, .int a2)]) 23 C dX5_like_21 rfl (Nat.le_of_ble_eq_true rfl) rfl ?_
      obtain ⟨w13, w14, M15, hc16, hf⟩ := zz_b3E hf
      refine zz_sub [2, 3, 4, 1, 0] rfl (l_X5_like_23 C  hc16 ?_)
      refine zz_iload_n 98 C dX5_like_97 rfl 3 rfl ?_
      cases hf
      exact zz_iret C dX5_like_98 rfl rfl
    · refine zz_iconst 17 C dX5_like_16 rfl zz_im1 ?_
      cases hf
      exact zz_iret C dX5_like_17 rfl rfl
def f_X5_of (a1 a2 : Int32) (M : zz_Mem) : Option (Int32 × zz_Mem) := zz_b2 (f_X5_isScene a1 M) (fun r3 M2 => (if r3 = 0 then some ((-1), M2) else zz_b2 (f_X5_in a2 0 3 M2) (fun r7 M6 => (if r7 = 0 then some ((-1), M6) else (if a2 = 0 then (if zz_in a1 6 then some (M6 1 a1.toNatClampNeg, M6) else none) else (if a2 = 1 then (if zz_in a1 6 then some (M6 2 a1.toNatClampNeg, M6) else none) else (if a2 = 2 then zz_b2 (f_X5_takesOf a1 M6) (fun r16 M15 => some (r16, M15)) else (if zz_in a1 6 then (if 0 ≤ (M6 3 a1.toNatClampNeg) then some (M6 3 a1.toNatClampNeg, M6) else some ((-4), M6)) else none))))))))
set_option maxHeartbeats 4000000 in
set_option maxRecDepth 100000 in
theorem k_X5_of {l : Launch} {D : va_G} {cI : ClassId} {ad : Nat → Nat} {a1 a2 : Int32} {r : Int32} {M M1 : zz_Mem} (hf : f_X5_of a1 a2 M = some (r, M1)) : zz_K l D zz_SR cI ad 2 yX5_of cX5_of 3 (some .int) [.ref (ad 0), .int a1, .int a2] M (some (.int r)) M1 := by
  unfold f_X5_of at hf
  refine zz_entry (own := RX5) (L := [(0, .ref (ad 0)), (1, .int a1), (2, .int a2)]) (by decide +kernel) rfl (Nat.le_of_ble_eq_true rfl) rfl (fun p e s m args below meth c C => ?_)
  refine zz_aload_n 1 C dX5_of_0 rfl 0 rfl ?_
  refine zz_iload_n 2 C dX5_of_1 rfl 1 rfl ?_
  obtain ⟨r3, M2, hc1, hf⟩ := zz_b2E hf
  refine zz_callV 5 [.int a1] C dX5_of_2 rfl ml_X5_78 (k_X5_isScene hc1) sr_0 (vC := vwCl[5]) rfl rfl rfl rfl rfl (Nat.le_of_ble_eq_true rfl) (zz_hR (Nat.le_of_ble_eq_true rfl) (Nat.le_of_ble_eq_true rfl)) ?_
  refine zz_if_eq 8 17 C dX5_of_5 rfl rfl hf (fun h4 hf => ?_) (fun h4 hf => ?_)
  · refine zz_iconst 18 C dX5_of_17 rfl zz_im1 ?_
    cases hf
    exact zz_iret C dX5_of_18 rfl rfl
  · refine zz_iload_n 9 C dX5_of_8 rfl 2 rfl ?_
    refine zz_iconst 10 C dX5_of_9 rfl zz_i0 ?_
    refine zz_iconst 11 C dX5_of_10 rfl zz_i3 ?_
    obtain ⟨r7, M6, hc5, hf⟩ := zz_b2E hf
    refine zz_callS 14 [.int a2, .int 0, .int 3] C dX5_of_11 rfl ml_X5_68 (k_X5_in hc5) rfl rfl rfl (Nat.le_of_ble_eq_true rfl) (zz_hR (Nat.le_of_ble_eq_true rfl) (Nat.le_of_ble_eq_true rfl)) ?_
    refine zz_if_ne 17 19 C dX5_of_14 rfl rfl hf (fun h8 hf => ?_) (fun h8 hf => ?_)
    · refine zz_iload_n 20 C dX5_of_19 rfl 2 rfl ?_
      by_cases h9 : a2 = 0
      · rw [if_pos h9] at hf
        refine zz_tabIn 48 C dX5_of_20 h9 (by decide) (by decide) rfl rfl ?_
        refine zz_aload_n 49 C dX5_of_48 rfl 0 rfl ?_
        refine zz_getR 52 C dX5_of_49 rfl fl_X5_7 sr_0 rfl ?_
        refine zz_iload_n 53 C dX5_of_52 rfl 1 rfl ?_
        obtain ⟨hi10, hf⟩ := zz_chk hf
        refine zz_iald 54 C sr_1 dX5_of_53 rfl hi10 ?_
        cases hf
        exact zz_iret C dX5_of_54 rfl rfl
      · rw [if_neg h9] at hf
        by_cases h11 : a2 = 1
        · rw [if_pos h11] at hf
          refine zz_tabIn 55 C dX5_of_20 h11 (by decide) (by decide) rfl rfl ?_
          refine zz_aload_n 56 C dX5_of_55 rfl 0 rfl ?_
          refine zz_getR 59 C dX5_of_56 rfl fl_X5_13 sr_0 rfl ?_
          refine zz_iload_n 60 C dX5_of_59 rfl 1 rfl ?_
          obtain ⟨hi12, hf⟩ := zz_chk hf
          refine zz_iald 61 C sr_2 dX5_of_60 rfl hi12 ?_
          cases hf
          exact zz_iret C dX5_of_61 rfl rfl
        · rw [if_neg h11] at hf
          by_cases h13 : a2 = 2
          · rw [if_pos h13] at hf
            refine zz_tabIn 62 C dX5_of_20 h13 (by decide) (by decide) rfl rfl ?_
            refine zz_aload_n 63 C dX5_of_62 rfl 0 rfl ?_
            refine zz_iload_n 64 C dX5_of_63 rfl 1 rfl ?_
            obtain ⟨r16, M15, hc14, hf⟩ := zz_b2E hf
            refine zz_callV 67 [.int a1] C dX5_of_64 rfl ml_X5_85 (k_X5_takesOf hc14) sr_0 (vC := vwCl[5]) rfl rfl rfl rfl rfl (Nat.le_of_ble_eq_true rfl) (zz_hR (Nat.le_of_ble_eq_true rfl) (Nat.le_of_ble_eq_true rfl)) ?_
            cases hf
            exact zz_iret C dX5_of_67 rfl rfl
          · rw [if_neg h13] at hf
            have eh9 := lv_neT h9 (show (0 : Int32).toInt = 0 from by decide)
            have eh11 := lv_neT h11 (show (1 : Int32).toInt = 1 from by decide)
            have eh13 := lv_neT h13 (show (2 : Int32).toInt = 2 from by decide)
            refine zz_tabOut 68 C dX5_of_20 (by omega) rfl ?_
            refine zz_aload_n 69 C dX5_of_68 rfl 0 rfl ?_
            refine zz_getR 72 C dX5_of_69 rfl fl_X5_16 sr_0 rfl ?_
            refine zz_iload_n 73 C dX5_of_72 rfl 1 rfl ?_
            obtain ⟨hi17, hf⟩ := zz_chk hf
            refine zz_iald 74 C sr_3 dX5_of_73 rfl hi17 ?_
            refine zz_if_ge 77 82 C dX5_of_74 rfl rfl hf (fun h18 hf => ?_) (fun h18 hf => ?_)
            · refine zz_aload_n 83 C dX5_of_82 rfl 0 rfl ?_
              refine zz_getR 86 C dX5_of_83 rfl fl_X5_16 sr_0 rfl ?_
              refine zz_iload_n 87 C dX5_of_86 rfl 1 rfl ?_
              refine zz_iald 88 C sr_3 dX5_of_87 rfl hi17 ?_
              cases hf
              exact zz_iret C dX5_of_88 rfl rfl
            · refine zz_bipush 79 C dX5_of_77 rfl zz_bpm4 ?_
              refine zz_goto 88 C dX5_of_79 rfl ?_
              cases hf
              exact zz_iret C dX5_of_88 rfl rfl
    · refine zz_iconst 18 C dX5_of_17 rfl zz_im1 ?_
      cases hf
      exact zz_iret C dX5_of_18 rfl rfl
def f_X5_told_49 (x1 x2 : Int32) : Nat → Int32 → Int32 → zz_Mem → Option (Int32 × Int32 × zz_Mem)
  | 0, _, _, _ => none
  | n + 1, v3, v4, M => (if (M 0 4) ≤ v4 then some (v3, v4, M) else (if zz_in ((6 * x1) + v4) 96 then (if (M 9 (((6 * x1) + v4).toNatClampNeg)) < 0 then f_X5_told_49 x1 x2 n (v3 + 0) (v4 + 1) M else f_X5_told_49 x1 x2 n (v3 + 1) (v4 + 1) M) else none))
set_option maxHeartbeats 4000000 in
set_option maxRecDepth 100000 in
theorem l_X5_told_49 {p : Program} {l : Launch} {e : Env} {s : State} {m : MethodId} {args : Array Value} {below : List Frame} {meth : Method} {c : Code} {D : va_G} {cI : ClassId} {ad : Nat → Nat} {x1 x2 : Int32} {w : Option Value} {Mf : zz_Mem} (C : zz_C p (zz_rm 2) s m args meth c D cI RX5 cX5_told 5 (some .int) 0 0) {w3 w4 : Int32} {M1 : zz_Mem} : ∀ {n : Nat} {v3 v4 : Int32} {M : zz_Mem}, f_X5_told_49 x1 x2 n v3 v4 M = some (w3, w4, M1) → zz_V p l e (zz_rm 2) s m args below meth c D zz_SR cI ad (zz_A zz_SR ad) 5 0 0 (MQ below (zz_Q D zz_SR cI ad w Mf) args s 0 0 (zz_A zz_SR ad)) 87 [(0, .ref (ad 0)), (1, .int x1), (2, .int x2), (3, .int w3), (4, .int w4)] [] M1 → zz_V p l e (zz_rm 2) s m args below meth c D zz_SR cI ad (zz_A zz_SR ad) 5 0 0 (MQ below (zz_Q D zz_SR cI ad w Mf) args s 0 0 (zz_A zz_SR ad)) 49 [(0, .ref (ad 0)), (1, .int x1), (2, .int x2), (3, .int v3), (4, .int v4)] [] M := by
  intro n
  induction n with
  | zero =>
    intro v3 v4 M hf
    simp [f_X5_told_49] at hf
  | succ n ih0 =>
    intro v3 v4 M hf hex
    have ih := fun v3 v4 M hf => @ih0 v3 v4 M hf
    rw [f_X5_told_49] at hf
    refine zz_iload 51 C dX5_told_49 rfl 4 rfl ?_
    refine zz_aload_n 52 C dX5_told_51 rfl 0 rfl ?_
    refine zz_getI 55 C dX5_told_52 rfl fl_X5_72 sr_0 rfl ?_
    refine zz_icmp_ge 58 87 C dX5_told_55 rfl rfl hf (fun h17 hf => ?_) (fun h17 hf => ?_)
    · cases hf
      exact zz_sub [0, 1, 2, 3, 4] rfl hex
    · refine zz_iload_n 59 C dX5_told_58 rfl 3 rfl ?_
      refine zz_aload_n 60 C dX5_told_59 rfl 0 rfl ?_
      refine zz_getR 63 C dX5_told_60 rfl fl_X5_34 sr_0 rfl ?_
      refine zz_bipush 65 C dX5_told_63 rfl zz_bp6 ?_
      refine zz_iload_n 66 C dX5_told_65 rfl 1 rfl ?_
      refine zz_imul 67 C dX5_told_66 rfl ?_
      refine zz_iload 69 C dX5_told_67 rfl 4 rfl ?_
      refine zz_iadd 70 C dX5_told_69 rfl ?_
      obtain ⟨hi18, hf⟩ := zz_chk hf
      refine zz_iald 71 C sr_9 dX5_told_70 rfl hi18 ?_
      refine zz_if_lt 74 78 C dX5_told_71 rfl rfl hf (fun h19 hf => ?_) (fun h19 hf => ?_)
      · refine zz_iconst 79 C dX5_told_78 rfl zz_i0 ?_
        refine zz_iadd 80 C dX5_told_79 rfl ?_
        refine zz_istore_n (L' := [(3, .int (v3 + 0)), (0, .ref (ad 0)), (1, .int x1), (2, .int x2), (4, .int v4)]) 81 C dX5_told_80 rfl (Nat.le_of_ble_eq_true rfl) rfl ?_
        refine zz_iinc (L' := [(4, .int (v4 + 1)), (3, .int (v3 + 0)), (0, .ref (ad 0)), (1, .int x1), (2, .int x2)]) 84 C dX5_told_81 rfl zz_i1 4 rfl (Nat.le_of_ble_eq_true rfl) rfl ?_
        refine zz_goto 49 C dX5_told_84 rfl ?_
        exact zz_sub [2, 3, 4, 1, 0] rfl (ih _ _ _ hf hex)
      · refine zz_iconst 75 C dX5_told_74 rfl zz_i1 ?_
        refine zz_goto 79 C dX5_told_75 rfl ?_
        refine zz_iadd 80 C dX5_told_79 rfl ?_
        refine zz_istore_n (L' := [(3, .int (v3 + 1)), (0, .ref (ad 0)), (1, .int x1), (2, .int x2), (4, .int v4)]) 81 C dX5_told_80 rfl (Nat.le_of_ble_eq_true rfl) rfl ?_
        refine zz_iinc (L' := [(4, .int (v4 + 1)), (3, .int (v3 + 1)), (0, .ref (ad 0)), (1, .int x1), (2, .int x2)]) 84 C dX5_told_81 rfl zz_i1 4 rfl (Nat.le_of_ble_eq_true rfl) rfl ?_
        refine zz_goto 49 C dX5_told_84 rfl ?_
        exact zz_sub [2, 3, 4, 1, 0] rfl (ih _ _ _ hf hex)
def f_X5_told (a1 a2 : Int32) (M : zz_Mem) : Option (Int32 × zz_Mem) := zz_b2 (f_X5_isTake a1 M) (fun r3 M2 => (if r3 = 0 then some ((-1), M2) else (if a2 = 0 then (if a2 = 0 then (if zz_in a1 16 then some (M2 7 a1.toNatClampNeg, M2) else none) else (if zz_in a1 16 then some (M2 8 a1.toNatClampNeg, M2) else none)) else (if a2 = 1 then (if a2 = 0 then (if zz_in a1 16 then some (M2 7 a1.toNatClampNeg, M2) else none) else (if zz_in a1 16 then some (M2 8 a1.toNatClampNeg, M2) else none)) else (if a2 = 2 then zz_b3 (f_X5_told_49 a1 a2 5000 0 0 M2) (fun w20 w21 M22 => some (w20, M22)) else zz_b2 (f_X5_in a2 10 (9 + (M2 0 4)) M2) (fun r13 M12 => (if r13 = 0 then some ((-1), M12) else (if zz_in (((6 * a1) + a2) - 10) 96 then (if 0 ≤ (M12 9 ((((6 * a1) + a2) - 10).toNatClampNeg)) then some (M12 9 ((((6 * a1) + a2) - 10).toNatClampNeg), M12) else some ((-4), M12)) else none))))))))
set_option maxHeartbeats 4000000 in
set_option maxRecDepth 100000 in
theorem k_X5_told {l : Launch} {D : va_G} {cI : ClassId} {ad : Nat → Nat} {a1 a2 : Int32} {r : Int32} {M M1 : zz_Mem} (hf : f_X5_told a1 a2 M = some (r, M1)) : zz_K l D zz_SR cI ad 2 yX5_told cX5_told 5 (some .int) [.ref (ad 0), .int a1, .int a2] M (some (.int r)) M1 := by
  unfold f_X5_told at hf
  refine zz_entry (own := RX5) (L := [(0, .ref (ad 0)), (1, .int a1), (2, .int a2)]) (by decide +kernel) rfl (Nat.le_of_ble_eq_true rfl) rfl (fun p e s m args below meth c C => ?_)
  refine zz_aload_n 1 C dX5_told_0 rfl 0 rfl ?_
  refine zz_iload_n 2 C dX5_told_1 rfl 1 rfl ?_
  obtain ⟨r3, M2, hc1, hf⟩ := zz_b2E hf
  refine zz_callV 5 [.int a1] C dX5_told_2 rfl ml_X5_89 (k_X5_isTake hc1) sr_0 (vC := vwCl[5]) rfl rfl rfl rfl rfl (Nat.le_of_ble_eq_true rfl) (zz_hR (Nat.le_of_ble_eq_true rfl) (Nat.le_of_ble_eq_true rfl)) ?_
  refine zz_if_ne 8 10 C dX5_told_5 rfl rfl hf (fun h4 hf => ?_) (fun h4 hf => ?_)
  · refine zz_iload_n 11 C dX5_told_10 rfl 2 rfl ?_
    refine zz_if_eq 14 19 C dX5_told_11 rfl rfl hf (fun h5 hf => ?_) (fun h5 hf => ?_)
    · refine zz_iload_n 20 C dX5_told_19 rfl 2 rfl ?_
      refine zz_if_ne 23 32 C dX5_told_20 rfl rfl hf (fun h6 hf => ?_) (fun h6 hf => ?_)
      · refine zz_aload_n 33 C dX5_told_32 rfl 0 rfl ?_
        refine zz_getR 36 C dX5_told_33 rfl fl_X5_31 sr_0 rfl ?_
        refine zz_iload_n 37 C dX5_told_36 rfl 1 rfl ?_
        obtain ⟨hi7, hf⟩ := zz_chk hf
        refine zz_iald 38 C sr_8 dX5_told_37 rfl hi7 ?_
        cases hf
        exact zz_iret C dX5_told_38 rfl rfl
      · refine zz_aload_n 24 C dX5_told_23 rfl 0 rfl ?_
        refine zz_getR 27 C dX5_told_24 rfl fl_X5_28 sr_0 rfl ?_
        refine zz_iload_n 28 C dX5_told_27 rfl 1 rfl ?_
        obtain ⟨hi8, hf⟩ := zz_chk hf
        refine zz_iald 29 C sr_7 dX5_told_28 rfl hi8 ?_
        refine zz_goto 38 C dX5_told_29 rfl ?_
        cases hf
        exact zz_iret C dX5_told_38 rfl rfl
    · refine zz_iload_n 15 C dX5_told_14 rfl 2 rfl ?_
      refine zz_iconst 16 C dX5_told_15 rfl zz_i1 ?_
      refine zz_icmp_ne 19 39 C dX5_told_16 rfl rfl hf (fun h9 hf => ?_) (fun h9 hf => ?_)
      · refine zz_iload_n 40 C dX5_told_39 rfl 2 rfl ?_
        refine zz_iconst 41 C dX5_told_40 rfl zz_i2 ?_
        refine zz_icmp_ne 44 89 C dX5_told_41 rfl rfl hf (fun h10 hf => ?_) (fun h10 hf => ?_)
        · refine zz_iload_n 90 C dX5_told_89 rfl 2 rfl ?_
          refine zz_bipush 92 C dX5_told_90 rfl zz_bp10 ?_
          refine zz_bipush 94 C dX5_told_92 rfl zz_bp9 ?_
          refine zz_aload_n 95 C dX5_told_94 rfl 0 rfl ?_
          refine zz_getI 98 C dX5_told_95 rfl fl_X5_72 sr_0 rfl ?_
          refine zz_iadd 99 C dX5_told_98 rfl ?_
          obtain ⟨r13, M12, hc11, hf⟩ := zz_b2E hf
          refine zz_callS 102 [.int a2, .int 10, .int (9 + (M2 0 4))] C dX5_told_99 rfl ml_X5_68 (k_X5_in hc11) rfl rfl rfl (Nat.le_of_ble_eq_true rfl) (zz_hR (Nat.le_of_ble_eq_true rfl) (Nat.le_of_ble_eq_true rfl)) ?_
          refine zz_if_ne 105 107 C dX5_told_102 rfl rfl hf (fun h14 hf => ?_) (fun h14 hf => ?_)
          · refine zz_aload_n 108 C dX5_told_107 rfl 0 rfl ?_
            refine zz_getR 111 C dX5_told_108 rfl fl_X5_34 sr_0 rfl ?_
            refine zz_bipush 113 C dX5_told_111 rfl zz_bp6 ?_
            refine zz_iload_n 114 C dX5_told_113 rfl 1 rfl ?_
            refine zz_imul 115 C dX5_told_114 rfl ?_
            refine zz_iload_n 116 C dX5_told_115 rfl 2 rfl ?_
            refine zz_iadd 117 C dX5_told_116 rfl ?_
            refine zz_bipush 119 C dX5_told_117 rfl zz_bp10 ?_
            refine zz_isub 120 C dX5_told_119 rfl ?_
            obtain ⟨hi15, hf⟩ := zz_chk hf
            refine zz_iald 121 C sr_9 dX5_told_120 rfl hi15 ?_
            refine zz_istore_n (L' := [(3, .int (M12 9 ((((6 * a1) + a2) - 10).toNatClampNeg))), (0, .ref (ad 0)), (1, .int a1), (2, .int a2)]) 122 C dX5_told_121 rfl (Nat.le_of_ble_eq_true rfl) rfl ?_
            refine zz_iload_n 123 C dX5_told_122 rfl 0 rfl ?_
            refine zz_if_ge 126 131 C dX5_told_123 rfl rfl hf (fun h16 hf => ?_) (fun h16 hf => ?_)
            · refine zz_iload_n 132 C dX5_told_131 rfl 0 rfl ?_
              cases hf
              exact zz_iret C dX5_told_132 rfl rfl
            · refine zz_bipush 128 C dX5_told_126 rfl zz_bpm4 ?_
              refine zz_goto 132 C dX5_told_128 rfl ?_
              cases hf
              exact zz_iret C dX5_told_132 rfl rfl
          · refine zz_iconst 106 C dX5_told_105 rfl zz_im1 ?_
            cases hf
            exact zz_iret C dX5_told_106 rfl rfl
        · refine zz_iconst 45 C dX5_told_44 rfl zz_i0 ?_
          refine zz_istore_n (L' := [(3, .int 0), (0, .ref (ad 0)), (1, .int a1), (2, .int a2)]) 46 C dX5_told_45 rfl (Nat.le_of_ble_eq_true rfl) rfl ?_
          refine zz_iconst 47 C dX5_told_46 rfl zz_i0 ?_
          refine zz_istore (L' := [(4, .int 0), (3, .int 0), (0, .ref (ad 0)), (1, .int a1), (2, .int a2)]) 49 C dX5_told_47 rfl (Nat.le_of_ble_eq_true rfl) rfl ?_
          obtain ⟨w20, w21, M22, hc23, hf⟩ := zz_b3E hf
          refine zz_sub [2, 3, 4, 1, 0] rfl (l_X5_told_49 C  hc23 ?_)
          refine zz_iload_n 88 C dX5_told_87 rfl 3 rfl ?_
          cases hf
          exact zz_iret C dX5_told_88 rfl rfl
      · refine zz_iload_n 20 C dX5_told_19 rfl 2 rfl ?_
        refine zz_if_ne 23 32 C dX5_told_20 rfl rfl hf (fun h24 hf => ?_) (fun h24 hf => ?_)
        · refine zz_aload_n 33 C dX5_told_32 rfl 0 rfl ?_
          refine zz_getR 36 C dX5_told_33 rfl fl_X5_31 sr_0 rfl ?_
          refine zz_iload_n 37 C dX5_told_36 rfl 1 rfl ?_
          obtain ⟨hi25, hf⟩ := zz_chk hf
          refine zz_iald 38 C sr_8 dX5_told_37 rfl hi25 ?_
          cases hf
          exact zz_iret C dX5_told_38 rfl rfl
        · refine zz_aload_n 24 C dX5_told_23 rfl 0 rfl ?_
          refine zz_getR 27 C dX5_told_24 rfl fl_X5_28 sr_0 rfl ?_
          refine zz_iload_n 28 C dX5_told_27 rfl 1 rfl ?_
          obtain ⟨hi26, hf⟩ := zz_chk hf
          refine zz_iald 29 C sr_7 dX5_told_28 rfl hi26 ?_
          refine zz_goto 38 C dX5_told_29 rfl ?_
          cases hf
          exact zz_iret C dX5_told_38 rfl rfl
  · refine zz_iconst 9 C dX5_told_8 rfl zz_im1 ?_
    cases hf
    exact zz_iret C dX5_told_9 rfl rfl
def f_X5_thingOf_63 (x1 x2 : Int32) : Nat → Int32 → Int32 → zz_Mem → Option (Int32 × Int32 × zz_Mem)
  | 0, _, _, _ => none
  | n + 1, v3, v4, M => (if (M 0 8) ≤ v4 then some (v3, v4, M) else (if zz_in ((6 * v4) + x1) 96 then (if (M 9 (((6 * v4) + x1).toNatClampNeg)) < 0 then f_X5_thingOf_63 x1 x2 n (v3 + 0) (v4 + 1) M else f_X5_thingOf_63 x1 x2 n (v3 + 1) (v4 + 1) M) else none))
set_option maxHeartbeats 4000000 in
set_option maxRecDepth 100000 in
theorem l_X5_thingOf_63 {p : Program} {l : Launch} {e : Env} {s : State} {m : MethodId} {args : Array Value} {below : List Frame} {meth : Method} {c : Code} {D : va_G} {cI : ClassId} {ad : Nat → Nat} {x1 x2 : Int32} {w : Option Value} {Mf : zz_Mem} (C : zz_C p (zz_rm 2) s m args meth c D cI RX5 cX5_thingOf 5 (some .int) 0 0) {w3 w4 : Int32} {M1 : zz_Mem} : ∀ {n : Nat} {v3 v4 : Int32} {M : zz_Mem}, f_X5_thingOf_63 x1 x2 n v3 v4 M = some (w3, w4, M1) → zz_V p l e (zz_rm 2) s m args below meth c D zz_SR cI ad (zz_A zz_SR ad) 5 0 0 (MQ below (zz_Q D zz_SR cI ad w Mf) args s 0 0 (zz_A zz_SR ad)) 101 [(0, .ref (ad 0)), (1, .int x1), (2, .int x2), (3, .int w3), (4, .int w4)] [] M1 → zz_V p l e (zz_rm 2) s m args below meth c D zz_SR cI ad (zz_A zz_SR ad) 5 0 0 (MQ below (zz_Q D zz_SR cI ad w Mf) args s 0 0 (zz_A zz_SR ad)) 63 [(0, .ref (ad 0)), (1, .int x1), (2, .int x2), (3, .int v3), (4, .int v4)] [] M := by
  intro n
  induction n with
  | zero =>
    intro v3 v4 M hf
    simp [f_X5_thingOf_63] at hf
  | succ n ih0 =>
    intro v3 v4 M hf hex
    have ih := fun v3 v4 M hf => @ih0 v3 v4 M hf
    rw [f_X5_thingOf_63] at hf
    refine zz_iload 65 C dX5_thingOf_63 rfl 4 rfl ?_
    refine zz_aload_n 66 C dX5_thingOf_65 rfl 0 rfl ?_
    refine zz_getI 69 C dX5_thingOf_66 rfl fl_X5_75 sr_0 rfl ?_
    refine zz_icmp_ge 72 101 C dX5_thingOf_69 rfl rfl hf (fun h10 hf => ?_) (fun h10 hf => ?_)
    · cases hf
      exact zz_sub [0, 1, 2, 3, 4] rfl hex
    · refine zz_iload_n 73 C dX5_thingOf_72 rfl 3 rfl ?_
      refine zz_aload_n 74 C dX5_thingOf_73 rfl 0 rfl ?_
      refine zz_getR 77 C dX5_thingOf_74 rfl fl_X5_34 sr_0 rfl ?_
      refine zz_bipush 79 C dX5_thingOf_77 rfl zz_bp6 ?_
      refine zz_iload 81 C dX5_thingOf_79 rfl 4 rfl ?_
      refine zz_imul 82 C dX5_thingOf_81 rfl ?_
      refine zz_iload_n 83 C dX5_thingOf_82 rfl 1 rfl ?_
      refine zz_iadd 84 C dX5_thingOf_83 rfl ?_
      obtain ⟨hi11, hf⟩ := zz_chk hf
      refine zz_iald 85 C sr_9 dX5_thingOf_84 rfl hi11 ?_
      refine zz_if_lt 88 92 C dX5_thingOf_85 rfl rfl hf (fun h12 hf => ?_) (fun h12 hf => ?_)
      · refine zz_iconst 93 C dX5_thingOf_92 rfl zz_i0 ?_
        refine zz_iadd 94 C dX5_thingOf_93 rfl ?_
        refine zz_istore_n (L' := [(3, .int (v3 + 0)), (0, .ref (ad 0)), (1, .int x1), (2, .int x2), (4, .int v4)]) 95 C dX5_thingOf_94 rfl (Nat.le_of_ble_eq_true rfl) rfl ?_
        refine zz_iinc (L' := [(4, .int (v4 + 1)), (3, .int (v3 + 0)), (0, .ref (ad 0)), (1, .int x1), (2, .int x2)]) 98 C dX5_thingOf_95 rfl zz_i1 4 rfl (Nat.le_of_ble_eq_true rfl) rfl ?_
        refine zz_goto 63 C dX5_thingOf_98 rfl ?_
        exact zz_sub [2, 3, 4, 1, 0] rfl (ih _ _ _ hf hex)
      · refine zz_iconst 89 C dX5_thingOf_88 rfl zz_i1 ?_
        refine zz_goto 93 C dX5_thingOf_89 rfl ?_
        refine zz_iadd 94 C dX5_thingOf_93 rfl ?_
        refine zz_istore_n (L' := [(3, .int (v3 + 1)), (0, .ref (ad 0)), (1, .int x1), (2, .int x2), (4, .int v4)]) 95 C dX5_thingOf_94 rfl (Nat.le_of_ble_eq_true rfl) rfl ?_
        refine zz_iinc (L' := [(4, .int (v4 + 1)), (3, .int (v3 + 1)), (0, .ref (ad 0)), (1, .int x1), (2, .int x2)]) 98 C dX5_thingOf_95 rfl zz_i1 4 rfl (Nat.le_of_ble_eq_true rfl) rfl ?_
        refine zz_goto 63 C dX5_thingOf_98 rfl ?_
        exact zz_sub [2, 3, 4, 1, 0] rfl (ih _ _ _ hf hex)
def f_X5_thingOf (a1 a2 : Int32) (M : zz_Mem) : Option (Int32 × zz_Mem) := zz_b2 (f_X5_isThing a1 M) (fun r3 M2 => (if r3 = 0 then some ((-1), M2) else zz_b2 (f_X5_in a2 0 3 M2) (fun r7 M6 => (if r7 = 0 then some ((-1), M6) else (if 3 ≤ a2 then zz_b3 (f_X5_thingOf_63 a1 a2 5000 0 0 M6) (fun w13 w14 M15 => some (w13, M15)) else (if a2 = 0 then (if zz_in a1 6 then some (M6 4 a1.toNatClampNeg, M6) else none) else (if a2 = 1 then (if zz_in a1 6 then some (M6 5 a1.toNatClampNeg, M6) else none) else (if zz_in a1 6 then some (M6 6 a1.toNatClampNeg, M6) else none))))))))
set_option maxHeartbeats 4000000 in
set_option maxRecDepth 100000 in
theorem k_X5_thingOf {l : Launch} {D : va_G} {cI : ClassId} {ad : Nat → Nat} {a1 a2 : Int32} {r : Int32} {M M1 : zz_Mem} (hf : f_X5_thingOf a1 a2 M = some (r, M1)) : zz_K l D zz_SR cI ad 2 yX5_thingOf cX5_thingOf 5 (some .int) [.ref (ad 0), .int a1, .int a2] M (some (.int r)) M1 := by
  unfold f_X5_thingOf at hf
  refine zz_entry (own := RX5) (L := [(0, .ref (ad 0)), (1, .int a1), (2, .int a2)]) (by decide +kernel) rfl (Nat.le_of_ble_eq_true rfl) rfl (fun p e s m args below meth c C => ?_)
  refine zz_aload_n 1 C dX5_thingOf_0 rfl 0 rfl ?_
  refine zz_iload_n 2 C dX5_thingOf_1 rfl 1 rfl ?_
  obtain ⟨r3, M2, hc1, hf⟩ := zz_b2E hf
  refine zz_callV 5 [.int a1] C dX5_thingOf_2 rfl ml_X5_82 (k_X5_isThing hc1) sr_0 (vC := vwCl[5]) rfl rfl rfl rfl rfl (Nat.le_of_ble_eq_true rfl) (zz_hR (Nat.le_of_ble_eq_true rfl) (Nat.le_of_ble_eq_true rfl)) ?_
  refine zz_if_eq 8 17 C dX5_thingOf_5 rfl rfl hf (fun h4 hf => ?_) (fun h4 hf => ?_)
  · refine zz_iconst 18 C dX5_thingOf_17 rfl zz_im1 ?_
    cases hf
    exact zz_iret C dX5_thingOf_18 rfl rfl
  · refine zz_iload_n 9 C dX5_thingOf_8 rfl 2 rfl ?_
    refine zz_iconst 10 C dX5_thingOf_9 rfl zz_i0 ?_
    refine zz_iconst 11 C dX5_thingOf_10 rfl zz_i3 ?_
    obtain ⟨r7, M6, hc5, hf⟩ := zz_b2E hf
    refine zz_callS 14 [.int a2, .int 0, .int 3] C dX5_thingOf_11 rfl ml_X5_68 (k_X5_in hc5) rfl rfl rfl (Nat.le_of_ble_eq_true rfl) (zz_hR (Nat.le_of_ble_eq_true rfl) (Nat.le_of_ble_eq_true rfl)) ?_
    refine zz_if_ne 17 19 C dX5_thingOf_14 rfl rfl hf (fun h8 hf => ?_) (fun h8 hf => ?_)
    · refine zz_iload_n 20 C dX5_thingOf_19 rfl 2 rfl ?_
      refine zz_iconst 21 C dX5_thingOf_20 rfl zz_i3 ?_
      refine zz_icmp_ge 24 58 C dX5_thingOf_21 rfl rfl hf (fun h9 hf => ?_) (fun h9 hf => ?_)
      · refine zz_iconst 59 C dX5_thingOf_58 rfl zz_i0 ?_
        refine zz_istore_n (L' := [(3, .int 0), (0, .ref (ad 0)), (1, .int a1), (2, .int a2)]) 60 C dX5_thingOf_59 rfl (Nat.le_of_ble_eq_true rfl) rfl ?_
        refine zz_iconst 61 C dX5_thingOf_60 rfl zz_i0 ?_
        refine zz_istore (L' := [(4, .int 0), (3, .int 0), (0, .ref (ad 0)), (1, .int a1), (2, .int a2)]) 63 C dX5_thingOf_61 rfl (Nat.le_of_ble_eq_true rfl) rfl ?_
        obtain ⟨w13, w14, M15, hc16, hf⟩ := zz_b3E hf
        refine zz_sub [2, 3, 4, 1, 0] rfl (l_X5_thingOf_63 C  hc16 ?_)
        refine zz_iload_n 102 C dX5_thingOf_101 rfl 3 rfl ?_
        cases hf
        exact zz_iret C dX5_thingOf_102 rfl rfl
      · refine zz_iload_n 25 C dX5_thingOf_24 rfl 2 rfl ?_
        refine zz_if_ne 28 37 C dX5_thingOf_25 rfl rfl hf (fun h17 hf => ?_) (fun h17 hf => ?_)
        · refine zz_iload_n 38 C dX5_thingOf_37 rfl 2 rfl ?_
          refine zz_iconst 39 C dX5_thingOf_38 rfl zz_i1 ?_
          refine zz_icmp_ne 42 51 C dX5_thingOf_39 rfl rfl hf (fun h18 hf => ?_) (fun h18 hf => ?_)
          · refine zz_aload_n 52 C dX5_thingOf_51 rfl 0 rfl ?_
            refine zz_getR 55 C dX5_thingOf_52 rfl fl_X5_25 sr_0 rfl ?_
            refine zz_iload_n 56 C dX5_thingOf_55 rfl 1 rfl ?_
            obtain ⟨hi19, hf⟩ := zz_chk hf
            refine zz_iald 57 C sr_6 dX5_thingOf_56 rfl hi19 ?_
            cases hf
            exact zz_iret C dX5_thingOf_57 rfl rfl
          · refine zz_aload_n 43 C dX5_thingOf_42 rfl 0 rfl ?_
            refine zz_getR 46 C dX5_thingOf_43 rfl fl_X5_22 sr_0 rfl ?_
            refine zz_iload_n 47 C dX5_thingOf_46 rfl 1 rfl ?_
            obtain ⟨hi20, hf⟩ := zz_chk hf
            refine zz_iald 48 C sr_5 dX5_thingOf_47 rfl hi20 ?_
            refine zz_goto 57 C dX5_thingOf_48 rfl ?_
            cases hf
            exact zz_iret C dX5_thingOf_57 rfl rfl
        · refine zz_aload_n 29 C dX5_thingOf_28 rfl 0 rfl ?_
          refine zz_getR 32 C dX5_thingOf_29 rfl fl_X5_19 sr_0 rfl ?_
          refine zz_iload_n 33 C dX5_thingOf_32 rfl 1 rfl ?_
          obtain ⟨hi21, hf⟩ := zz_chk hf
          refine zz_iald 34 C sr_4 dX5_thingOf_33 rfl hi21 ?_
          refine zz_goto 57 C dX5_thingOf_34 rfl ?_
          cases hf
          exact zz_iret C dX5_thingOf_57 rfl rfl
    · refine zz_iconst 18 C dX5_thingOf_17 rfl zz_im1 ?_
      cases hf
      exact zz_iret C dX5_thingOf_18 rfl rfl
def f_X5_isAhead (a1 a2 : Int32) (M : zz_Mem) : Option (Int32 × zz_Mem) := (if zz_in a1 6 then (if zz_in a2 6 then (if (M 1 a1.toNatClampNeg) < (M 1 a2.toNatClampNeg) then some (1, M) else (if (M 1 a1.toNatClampNeg) = (M 1 a2.toNatClampNeg) then (if (M 2 a2.toNatClampNeg) ≤ (M 2 a1.toNatClampNeg) then some (0, M) else some (1, M)) else some (0, M))) else none) else none)
set_option maxHeartbeats 4000000 in
set_option maxRecDepth 100000 in
theorem k_X5_isAhead {l : Launch} {D : va_G} {cI : ClassId} {ad : Nat → Nat} {a1 a2 : Int32} {r : Int32} {M M1 : zz_Mem} (hf : f_X5_isAhead a1 a2 M = some (r, M1)) : zz_K l D zz_SR cI ad 0 yX5_isAhead cX5_isAhead 3 (some .boolean) [.ref (ad 0), .int a1, .int a2] M (some (.int r)) M1 := by
  unfold f_X5_isAhead at hf
  refine zz_entry (own := RX5) (L := [(0, .ref (ad 0)), (1, .int a1), (2, .int a2)]) (by decide +kernel) rfl (Nat.le_of_ble_eq_true rfl) rfl (fun p e s m args below meth c C => ?_)
  refine zz_aload_n 1 C dX5_isAhead_0 rfl 0 rfl ?_
  refine zz_getR 4 C dX5_isAhead_1 rfl fl_X5_7 sr_0 rfl ?_
  refine zz_iload_n 5 C dX5_isAhead_4 rfl 1 rfl ?_
  obtain ⟨hi1, hf⟩ := zz_chk hf
  refine zz_iald 6 C sr_1 dX5_isAhead_5 rfl hi1 ?_
  refine zz_aload_n 7 C dX5_isAhead_6 rfl 0 rfl ?_
  refine zz_getR 10 C dX5_isAhead_7 rfl fl_X5_7 sr_0 rfl ?_
  refine zz_iload_n 11 C dX5_isAhead_10 rfl 2 rfl ?_
  obtain ⟨hi2, hf⟩ := zz_chk hf
  refine zz_iald 12 C sr_1 dX5_isAhead_11 rfl hi2 ?_
  refine zz_icmp_lt 15 45 C dX5_isAhead_12 rfl rfl hf (fun h3 hf => ?_) (fun h3 hf => ?_)
  · refine zz_iconst 46 C dX5_isAhead_45 rfl zz_i1 ?_
    refine zz_goto 50 C dX5_isAhead_46 rfl ?_
    cases hf
    exact zz_zret C dX5_isAhead_50 rfl rfl (by decide)
  · refine zz_aload_n 16 C dX5_isAhead_15 rfl 0 rfl ?_
    refine zz_getR 19 C dX5_isAhead_16 rfl fl_X5_7 sr_0 rfl ?_
    refine zz_iload_n 20 C dX5_isAhead_19 rfl 1 rfl ?_
    refine zz_iald 21 C sr_1 dX5_isAhead_20 rfl hi1 ?_
    refine zz_aload_n 22 C dX5_isAhead_21 rfl 0 rfl ?_
    refine zz_getR 25 C dX5_isAhead_22 rfl fl_X5_7 sr_0 rfl ?_
    refine zz_iload_n 26 C dX5_isAhead_25 rfl 2 rfl ?_
    refine zz_iald 27 C sr_1 dX5_isAhead_26 rfl hi2 ?_
    refine zz_icmp_ne 30 49 C dX5_isAhead_27 rfl rfl hf (fun h4 hf => ?_) (fun h4 hf => ?_)
    · refine zz_iconst 50 C dX5_isAhead_49 rfl zz_i0 ?_
      cases hf
      exact zz_zret C dX5_isAhead_50 rfl rfl (by decide)
    · refine zz_aload_n 31 C dX5_isAhead_30 rfl 0 rfl ?_
      refine zz_getR 34 C dX5_isAhead_31 rfl fl_X5_13 sr_0 rfl ?_
      refine zz_iload_n 35 C dX5_isAhead_34 rfl 1 rfl ?_
      refine zz_iald 36 C sr_2 dX5_isAhead_35 rfl hi1 ?_
      refine zz_aload_n 37 C dX5_isAhead_36 rfl 0 rfl ?_
      refine zz_getR 40 C dX5_isAhead_37 rfl fl_X5_13 sr_0 rfl ?_
      refine zz_iload_n 41 C dX5_isAhead_40 rfl 2 rfl ?_
      refine zz_iald 42 C sr_2 dX5_isAhead_41 rfl hi2 ?_
      refine zz_icmp_ge 45 49 C dX5_isAhead_42 rfl rfl hf (fun h5 hf => ?_) (fun h5 hf => ?_)
      · refine zz_iconst 50 C dX5_isAhead_49 rfl zz_i0 ?_
        cases hf
        exact zz_zret C dX5_isAhead_50 rfl rfl (by decide)
      · refine zz_iconst 46 C dX5_isAhead_45 rfl zz_i1 ?_
        refine zz_goto 50 C dX5_isAhead_46 rfl ?_
        cases hf
        exact zz_zret C dX5_isAhead_50 rfl rfl (by decide)
def f_X5_ahead (a1 a2 : Int32) (M : zz_Mem) : Option (Int32 × zz_Mem) := zz_b2 (f_X5_isScene a1 M) (fun r3 M2 => (if r3 = 0 then some ((-1), M2) else zz_b2 (f_X5_isScene a2 M2) (fun r7 M6 => (if r7 = 0 then some ((-1), M6) else zz_b2 (f_X5_isAhead a1 a2 M6) (fun r11 M10 => (if r11 = 0 then zz_b2 (f_X5_isAhead a2 a1 M10) (fun r15 M14 => (if r15 = 0 then some (0, M14) else some (2, M14))) else some (1, M10)))))))
set_option maxHeartbeats 4000000 in
set_option maxRecDepth 100000 in
theorem k_X5_ahead {l : Launch} {D : va_G} {cI : ClassId} {ad : Nat → Nat} {a1 a2 : Int32} {r : Int32} {M M1 : zz_Mem} (hf : f_X5_ahead a1 a2 M = some (r, M1)) : zz_K l D zz_SR cI ad 2 yX5_ahead cX5_ahead 3 (some .int) [.ref (ad 0), .int a1, .int a2] M (some (.int r)) M1 := by
  unfold f_X5_ahead at hf
  refine zz_entry (own := RX5) (L := [(0, .ref (ad 0)), (1, .int a1), (2, .int a2)]) (by decide +kernel) rfl (Nat.le_of_ble_eq_true rfl) rfl (fun p e s m args below meth c C => ?_)
  refine zz_aload_n 1 C dX5_ahead_0 rfl 0 rfl ?_
  refine zz_iload_n 2 C dX5_ahead_1 rfl 1 rfl ?_
  obtain ⟨r3, M2, hc1, hf⟩ := zz_b2E hf
  refine zz_callV 5 [.int a1] C dX5_ahead_2 rfl ml_X5_78 (k_X5_isScene hc1) sr_0 (vC := vwCl[5]) rfl rfl rfl rfl rfl (Nat.le_of_ble_eq_true rfl) (zz_hR (Nat.le_of_ble_eq_true rfl) (Nat.le_of_ble_eq_true rfl)) ?_
  refine zz_if_eq 8 16 C dX5_ahead_5 rfl rfl hf (fun h4 hf => ?_) (fun h4 hf => ?_)
  · refine zz_iconst 17 C dX5_ahead_16 rfl zz_im1 ?_
    cases hf
    exact zz_iret C dX5_ahead_17 rfl rfl
  · refine zz_aload_n 9 C dX5_ahead_8 rfl 0 rfl ?_
    refine zz_iload_n 10 C dX5_ahead_9 rfl 2 rfl ?_
    obtain ⟨r7, M6, hc5, hf⟩ := zz_b2E hf
    refine zz_callV 13 [.int a2] C dX5_ahead_10 rfl ml_X5_78 (k_X5_isScene hc5) sr_0 (vC := vwCl[5]) rfl rfl rfl rfl rfl (Nat.le_of_ble_eq_true rfl) (zz_hR (Nat.le_of_ble_eq_true rfl) (Nat.le_of_ble_eq_true rfl)) ?_
    refine zz_if_ne 16 18 C dX5_ahead_13 rfl rfl hf (fun h8 hf => ?_) (fun h8 hf => ?_)
    · refine zz_aload_n 19 C dX5_ahead_18 rfl 0 rfl ?_
      refine zz_iload_n 20 C dX5_ahead_19 rfl 1 rfl ?_
      refine zz_iload_n 21 C dX5_ahead_20 rfl 2 rfl ?_
      obtain ⟨r11, M10, hc9, hf⟩ := zz_b2E hf
      refine zz_callV 24 [.int a1, .int a2] C dX5_ahead_21 rfl ml_X5_92 (k_X5_isAhead hc9) sr_0 (vC := vwCl[5]) rfl rfl rfl rfl rfl (Nat.le_of_ble_eq_true rfl) (zz_hR (Nat.le_of_ble_eq_true rfl) (Nat.le_of_ble_eq_true rfl)) ?_
      refine zz_if_eq 27 31 C dX5_ahead_24 rfl rfl hf (fun h12 hf => ?_) (fun h12 hf => ?_)
      · refine zz_aload_n 32 C dX5_ahead_31 rfl 0 rfl ?_
        refine zz_iload_n 33 C dX5_ahead_32 rfl 2 rfl ?_
        refine zz_iload_n 34 C dX5_ahead_33 rfl 1 rfl ?_
        obtain ⟨r15, M14, hc13, hf⟩ := zz_b2E hf
        refine zz_callV 37 [.int a2, .int a1] C dX5_ahead_34 rfl ml_X5_92 (k_X5_isAhead hc13) sr_0 (vC := vwCl[5]) rfl rfl rfl rfl rfl (Nat.le_of_ble_eq_true rfl) (zz_hR (Nat.le_of_ble_eq_true rfl) (Nat.le_of_ble_eq_true rfl)) ?_
        refine zz_if_eq 40 44 C dX5_ahead_37 rfl rfl hf (fun h16 hf => ?_) (fun h16 hf => ?_)
        · refine zz_iconst 45 C dX5_ahead_44 rfl zz_i0 ?_
          cases hf
          exact zz_iret C dX5_ahead_45 rfl rfl
        · refine zz_iconst 41 C dX5_ahead_40 rfl zz_i2 ?_
          refine zz_goto 45 C dX5_ahead_41 rfl ?_
          cases hf
          exact zz_iret C dX5_ahead_45 rfl rfl
      · refine zz_iconst 28 C dX5_ahead_27 rfl zz_i1 ?_
        refine zz_goto 45 C dX5_ahead_28 rfl ?_
        cases hf
        exact zz_iret C dX5_ahead_45 rfl rfl
    · refine zz_iconst 17 C dX5_ahead_16 rfl zz_im1 ?_
      cases hf
      exact zz_iret C dX5_ahead_17 rfl rfl
def f_X5_breaks (a1 a2 a3 a4 : Int32) (M : zz_Mem) : Option (Int32 × zz_Mem) := (if zz_in a1 6 then (if (M 4 a1.toNatClampNeg) = 1 then (if a4 ≤ a3 then some (0, M) else some (1, M)) else (if (M 4 a1.toNatClampNeg) = 2 then (if a3 ≤ a4 then some (0, M) else some (1, M)) else (if 0 ≤ (a3 - ((M 5 a1.toNatClampNeg) * a2)) then (if a4 = (a3 - ((M 5 a1.toNatClampNeg) * a2)) then some (0, M) else some (1, M)) else (if a4 = 0 then some (0, M) else some (1, M))))) else none)
set_option maxHeartbeats 4000000 in
set_option maxRecDepth 100000 in
theorem k_X5_breaks {l : Launch} {D : va_G} {cI : ClassId} {ad : Nat → Nat} {a1 a2 a3 a4 : Int32} {r : Int32} {M M1 : zz_Mem} (hf : f_X5_breaks a1 a2 a3 a4 M = some (r, M1)) : zz_K l D zz_SR cI ad 0 yX5_breaks cX5_breaks 6 (some .boolean) [.ref (ad 0), .int a1, .int a2, .int a3, .int a4] M (some (.int r)) M1 := by
  unfold f_X5_breaks at hf
  refine zz_entry (own := RX5) (L := [(0, .ref (ad 0)), (1, .int a1), (2, .int a2), (3, .int a3), (4, .int a4)]) (by decide +kernel) rfl (Nat.le_of_ble_eq_true rfl) rfl (fun p e s m args below meth c C => ?_)
  refine zz_aload_n 1 C dX5_breaks_0 rfl 0 rfl ?_
  refine zz_getR 4 C dX5_breaks_1 rfl fl_X5_19 sr_0 rfl ?_
  refine zz_iload_n 5 C dX5_breaks_4 rfl 1 rfl ?_
  obtain ⟨hi1, hf⟩ := zz_chk hf
  refine zz_iald 6 C sr_4 dX5_breaks_5 rfl hi1 ?_
  refine zz_iconst 7 C dX5_breaks_6 rfl zz_i1 ?_
  refine zz_icmp_ne 10 22 C dX5_breaks_7 rfl rfl hf (fun h2 hf => ?_) (fun h2 hf => ?_)
  · refine zz_aload_n 23 C dX5_breaks_22 rfl 0 rfl ?_
    refine zz_getR 26 C dX5_breaks_23 rfl fl_X5_19 sr_0 rfl ?_
    refine zz_iload_n 27 C dX5_breaks_26 rfl 1 rfl ?_
    refine zz_iald 28 C sr_4 dX5_breaks_27 rfl hi1 ?_
    refine zz_iconst 29 C dX5_breaks_28 rfl zz_i2 ?_
    refine zz_icmp_ne 32 44 C dX5_breaks_29 rfl rfl hf (fun h3 hf => ?_) (fun h3 hf => ?_)
    · refine zz_iload_n 45 C dX5_breaks_44 rfl 3 rfl ?_
      refine zz_aload_n 46 C dX5_breaks_45 rfl 0 rfl ?_
      refine zz_getR 49 C dX5_breaks_46 rfl fl_X5_22 sr_0 rfl ?_
      refine zz_iload_n 50 C dX5_breaks_49 rfl 1 rfl ?_
      refine zz_iald 51 C sr_5 dX5_breaks_50 rfl hi1 ?_
      refine zz_iload_n 52 C dX5_breaks_51 rfl 2 rfl ?_
      refine zz_imul 53 C dX5_breaks_52 rfl ?_
      refine zz_isub 54 C dX5_breaks_53 rfl ?_
      refine zz_istore (L' := [(5, .int (a3 - ((M 5 a1.toNatClampNeg) * a2))), (0, .ref (ad 0)), (1, .int a1), (2, .int a2), (3, .int a3), (4, .int a4)]) 56 C dX5_breaks_54 rfl (Nat.le_of_ble_eq_true rfl) rfl ?_
      refine zz_iload 58 C dX5_breaks_56 rfl 5 rfl ?_
      refine zz_iload 60 C dX5_breaks_58 rfl 0 rfl ?_
      refine zz_if_ge 63 67 C dX5_breaks_60 rfl rfl hf (fun h4 hf => ?_) (fun h4 hf => ?_)
      · refine zz_iload 69 C dX5_breaks_67 rfl 0 rfl ?_
        refine zz_icmp_eq 72 76 C dX5_breaks_69 rfl rfl hf (fun h5 hf => ?_) (fun h5 hf => ?_)
        · refine zz_iconst 77 C dX5_breaks_76 rfl zz_i0 ?_
          cases hf
          exact zz_zret C dX5_breaks_77 rfl rfl (by decide)
        · refine zz_iconst 73 C dX5_breaks_72 rfl zz_i1 ?_
          refine zz_goto 77 C dX5_breaks_73 rfl ?_
          cases hf
          exact zz_zret C dX5_breaks_77 rfl rfl (by decide)
      · refine zz_iconst 64 C dX5_breaks_63 rfl zz_i0 ?_
        refine zz_goto 69 C dX5_breaks_64 rfl ?_
        refine zz_icmp_eq 72 76 C dX5_breaks_69 rfl rfl hf (fun h6 hf => ?_) (fun h6 hf => ?_)
        · refine zz_iconst 77 C dX5_breaks_76 rfl zz_i0 ?_
          cases hf
          exact zz_zret C dX5_breaks_77 rfl rfl (by decide)
        · refine zz_iconst 73 C dX5_breaks_72 rfl zz_i1 ?_
          refine zz_goto 77 C dX5_breaks_73 rfl ?_
          cases hf
          exact zz_zret C dX5_breaks_77 rfl rfl (by decide)
    · refine zz_iload 34 C dX5_breaks_32 rfl 4 rfl ?_
      refine zz_iload_n 35 C dX5_breaks_34 rfl 3 rfl ?_
      refine zz_icmp_ge 38 42 C dX5_breaks_35 rfl rfl hf (fun h7 hf => ?_) (fun h7 hf => ?_)
      · refine zz_iconst 43 C dX5_breaks_42 rfl zz_i0 ?_
        cases hf
        exact zz_zret C dX5_breaks_43 rfl rfl (by decide)
      · refine zz_iconst 39 C dX5_breaks_38 rfl zz_i1 ?_
        refine zz_goto 43 C dX5_breaks_39 rfl ?_
        cases hf
        exact zz_zret C dX5_breaks_43 rfl rfl (by decide)
  · refine zz_iload 12 C dX5_breaks_10 rfl 4 rfl ?_
    refine zz_iload_n 13 C dX5_breaks_12 rfl 3 rfl ?_
    refine zz_icmp_le 16 20 C dX5_breaks_13 rfl rfl hf (fun h8 hf => ?_) (fun h8 hf => ?_)
    · refine zz_iconst 21 C dX5_breaks_20 rfl zz_i0 ?_
      cases hf
      exact zz_zret C dX5_breaks_21 rfl rfl (by decide)
    · refine zz_iconst 17 C dX5_breaks_16 rfl zz_i1 ?_
      refine zz_goto 21 C dX5_breaks_17 rfl ?_
      cases hf
      exact zz_zret C dX5_breaks_21 rfl rfl (by decide)
def f_X5_quarrels (a1 a2 a3 a4 a5 : Int32) (M : zz_Mem) : Option (Int32 × zz_Mem) := (if a2 = a4 then some (0, M) else (if a3 < 0 then some (0, M) else (if 0 ≤ a5 then (if zz_in a1 6 then (if (M 4 a1.toNatClampNeg) = 0 then (if zz_in a2 6 then (if zz_in a4 6 then (if (M 1 a2.toNatClampNeg) = (M 1 a4.toNatClampNeg) then (if a3 = a5 then some (0, M) else some (1, M)) else some (0, M)) else none) else none) else zz_b2 (f_X5_isAhead a2 a4 M) (fun r8 M7 => (if r8 = 0 then zz_b2 (f_X5_isAhead a4 a2 M7) (fun r12 M11 => (if r12 = 0 then some (0, M11) else (if zz_in a2 6 then (if zz_in a4 6 then zz_b2 (f_X5_breaks a1 ((M11 1 a2.toNatClampNeg) - (M11 1 a4.toNatClampNeg)) a5 a3 M11) (fun r18 M17 => (if r18 = 0 then some (0, M17) else some (1, M17))) else none) else none))) else (if zz_in a4 6 then (if zz_in a2 6 then zz_b2 (f_X5_breaks a1 ((M7 1 a4.toNatClampNeg) - (M7 1 a2.toNatClampNeg)) a3 a5 M7) (fun r24 M23 => (if r24 &&& 1 = r24 then some (r24, M23) else none)) else none) else none)))) else none) else some (0, M))))
set_option maxHeartbeats 4000000 in
set_option maxRecDepth 100000 in
theorem k_X5_quarrels {l : Launch} {D : va_G} {cI : ClassId} {ad : Nat → Nat} {a1 a2 a3 a4 a5 : Int32} {r : Int32} {M M1 : zz_Mem} (hf : f_X5_quarrels a1 a2 a3 a4 a5 M = some (r, M1)) : zz_K l D zz_SR cI ad 1 yX5_quarrels cX5_quarrels 6 (some .boolean) [.ref (ad 0), .int a1, .int a2, .int a3, .int a4, .int a5] M (some (.int r)) M1 := by
  unfold f_X5_quarrels at hf
  refine zz_entry (own := RX5) (L := [(0, .ref (ad 0)), (1, .int a1), (2, .int a2), (3, .int a3), (4, .int a4), (5, .int a5)]) (by decide +kernel) rfl (Nat.le_of_ble_eq_true rfl) rfl (fun p e s m args below meth c C => ?_)
  refine zz_iload_n 1 C dX5_quarrels_0 rfl 2 rfl ?_
  refine zz_iload 3 C dX5_quarrels_1 rfl 4 rfl ?_
  refine zz_icmp_eq 6 15 C dX5_quarrels_3 rfl rfl hf (fun h1 hf => ?_) (fun h1 hf => ?_)
  · refine zz_iconst 16 C dX5_quarrels_15 rfl zz_i0 ?_
    cases hf
    exact zz_zret C dX5_quarrels_16 rfl rfl (by decide)
  · refine zz_iload_n 7 C dX5_quarrels_6 rfl 3 rfl ?_
    refine zz_if_lt 10 15 C dX5_quarrels_7 rfl rfl hf (fun h2 hf => ?_) (fun h2 hf => ?_)
    · refine zz_iconst 16 C dX5_quarrels_15 rfl zz_i0 ?_
      cases hf
      exact zz_zret C dX5_quarrels_16 rfl rfl (by decide)
    · refine zz_iload 12 C dX5_quarrels_10 rfl 5 rfl ?_
      refine zz_if_ge 15 17 C dX5_quarrels_12 rfl rfl hf (fun h3 hf => ?_) (fun h3 hf => ?_)
      · refine zz_aload_n 18 C dX5_quarrels_17 rfl 0 rfl ?_
        refine zz_getR 21 C dX5_quarrels_18 rfl fl_X5_19 sr_0 rfl ?_
        refine zz_iload_n 22 C dX5_quarrels_21 rfl 1 rfl ?_
        obtain ⟨hi4, hf⟩ := zz_chk hf
        refine zz_iald 23 C sr_4 dX5_quarrels_22 rfl hi4 ?_
        refine zz_if_ne 26 54 C dX5_quarrels_23 rfl rfl hf (fun h5 hf => ?_) (fun h5 hf => ?_)
        · refine zz_aload_n 55 C dX5_quarrels_54 rfl 0 rfl ?_
          refine zz_iload_n 56 C dX5_quarrels_55 rfl 2 rfl ?_
          refine zz_iload 58 C dX5_quarrels_56 rfl 4 rfl ?_
          obtain ⟨r8, M7, hc6, hf⟩ := zz_b2E hf
          refine zz_callV 61 [.int a2, .int a4] C dX5_quarrels_58 rfl ml_X5_92 (k_X5_isAhead hc6) sr_0 (vC := vwCl[5]) rfl rfl rfl rfl rfl (Nat.le_of_ble_eq_true rfl) (zz_hR (Nat.le_of_ble_eq_true rfl) (Nat.le_of_ble_eq_true rfl)) ?_
          refine zz_if_eq 64 87 C dX5_quarrels_61 rfl rfl hf (fun h9 hf => ?_) (fun h9 hf => ?_)
          · refine zz_aload_n 88 C dX5_quarrels_87 rfl 0 rfl ?_
            refine zz_iload 90 C dX5_quarrels_88 rfl 4 rfl ?_
            refine zz_iload_n 91 C dX5_quarrels_90 rfl 2 rfl ?_
            obtain ⟨r12, M11, hc10, hf⟩ := zz_b2E hf
            refine zz_callV 94 [.int a4, .int a2] C dX5_quarrels_91 rfl ml_X5_92 (k_X5_isAhead hc10) sr_0 (vC := vwCl[5]) rfl rfl rfl rfl rfl (Nat.le_of_ble_eq_true rfl) (zz_hR (Nat.le_of_ble_eq_true rfl) (Nat.le_of_ble_eq_true rfl)) ?_
            refine zz_if_eq 97 126 C dX5_quarrels_94 rfl rfl hf (fun h13 hf => ?_) (fun h13 hf => ?_)
            · refine zz_iconst 127 C dX5_quarrels_126 rfl zz_i0 ?_
              cases hf
              exact zz_zret C dX5_quarrels_127 rfl rfl (by decide)
            · refine zz_aload_n 98 C dX5_quarrels_97 rfl 0 rfl ?_
              refine zz_iload_n 99 C dX5_quarrels_98 rfl 1 rfl ?_
              refine zz_aload_n 100 C dX5_quarrels_99 rfl 0 rfl ?_
              refine zz_getR 103 C dX5_quarrels_100 rfl fl_X5_7 sr_0 rfl ?_
              refine zz_iload_n 104 C dX5_quarrels_103 rfl 2 rfl ?_
              obtain ⟨hi14, hf⟩ := zz_chk hf
              refine zz_iald 105 C sr_1 dX5_quarrels_104 rfl hi14 ?_
              refine zz_aload_n 106 C dX5_quarrels_105 rfl 0 rfl ?_
              refine zz_getR 109 C dX5_quarrels_106 rfl fl_X5_7 sr_0 rfl ?_
              refine zz_iload 111 C dX5_quarrels_109 rfl 4 rfl ?_
              obtain ⟨hi15, hf⟩ := zz_chk hf
              refine zz_iald 112 C sr_1 dX5_quarrels_111 rfl hi15 ?_
              refine zz_isub 113 C dX5_quarrels_112 rfl ?_
              refine zz_iload 115 C dX5_quarrels_113 rfl 5 rfl ?_
              refine zz_iload_n 116 C dX5_quarrels_115 rfl 3 rfl ?_
              obtain ⟨r18, M17, hc16, hf⟩ := zz_b2E hf
              refine zz_callV 119 [.int a1, .int ((M11 1 a2.toNatClampNeg) - (M11 1 a4.toNatClampNeg)), .int a5, .int a3] C dX5_quarrels_116 rfl ml_X5_96 (k_X5_breaks hc16) sr_0 (vC := vwCl[5]) rfl rfl rfl rfl rfl (Nat.le_of_ble_eq_true rfl) (zz_hR (Nat.le_of_ble_eq_true rfl) (Nat.le_of_ble_eq_true rfl)) ?_
              refine zz_if_eq 122 126 C dX5_quarrels_119 rfl rfl hf (fun h19 hf => ?_) (fun h19 hf => ?_)
              · refine zz_iconst 127 C dX5_quarrels_126 rfl zz_i0 ?_
                cases hf
                exact zz_zret C dX5_quarrels_127 rfl rfl (by decide)
              · refine zz_iconst 123 C dX5_quarrels_122 rfl zz_i1 ?_
                refine zz_goto 127 C dX5_quarrels_123 rfl ?_
                cases hf
                exact zz_zret C dX5_quarrels_127 rfl rfl (by decide)
          · refine zz_aload_n 65 C dX5_quarrels_64 rfl 0 rfl ?_
            refine zz_iload_n 66 C dX5_quarrels_65 rfl 1 rfl ?_
            refine zz_aload_n 67 C dX5_quarrels_66 rfl 0 rfl ?_
            refine zz_getR 70 C dX5_quarrels_67 rfl fl_X5_7 sr_0 rfl ?_
            refine zz_iload 72 C dX5_quarrels_70 rfl 4 rfl ?_
            obtain ⟨hi20, hf⟩ := zz_chk hf
            refine zz_iald 73 C sr_1 dX5_quarrels_72 rfl hi20 ?_
            refine zz_aload_n 74 C dX5_quarrels_73 rfl 0 rfl ?_
            refine zz_getR 77 C dX5_quarrels_74 rfl fl_X5_7 sr_0 rfl ?_
            refine zz_iload_n 78 C dX5_quarrels_77 rfl 2 rfl ?_
            obtain ⟨hi21, hf⟩ := zz_chk hf
            refine zz_iald 79 C sr_1 dX5_quarrels_78 rfl hi21 ?_
            refine zz_isub 80 C dX5_quarrels_79 rfl ?_
            refine zz_iload_n 81 C dX5_quarrels_80 rfl 3 rfl ?_
            refine zz_iload 83 C dX5_quarrels_81 rfl 5 rfl ?_
            obtain ⟨r24, M23, hc22, hf⟩ := zz_b2E hf
            refine zz_callV 86 [.int a1, .int ((M7 1 a4.toNatClampNeg) - (M7 1 a2.toNatClampNeg)), .int a3, .int a5] C dX5_quarrels_83 rfl ml_X5_96 (k_X5_breaks hc22) sr_0 (vC := vwCl[5]) rfl rfl rfl rfl rfl (Nat.le_of_ble_eq_true rfl) (zz_hR (Nat.le_of_ble_eq_true rfl) (Nat.le_of_ble_eq_true rfl)) ?_
            obtain ⟨hz25, hf⟩ := zz_chk hf
            cases hf
            exact zz_zret C dX5_quarrels_86 rfl rfl hz25
        · refine zz_aload_n 27 C dX5_quarrels_26 rfl 0 rfl ?_
          refine zz_getR 30 C dX5_quarrels_27 rfl fl_X5_7 sr_0 rfl ?_
          refine zz_iload_n 31 C dX5_quarrels_30 rfl 2 rfl ?_
          obtain ⟨hi26, hf⟩ := zz_chk hf
          refine zz_iald 32 C sr_1 dX5_quarrels_31 rfl hi26 ?_
          refine zz_aload_n 33 C dX5_quarrels_32 rfl 0 rfl ?_
          refine zz_getR 36 C dX5_quarrels_33 rfl fl_X5_7 sr_0 rfl ?_
          refine zz_iload 38 C dX5_quarrels_36 rfl 4 rfl ?_
          obtain ⟨hi27, hf⟩ := zz_chk hf
          refine zz_iald 39 C sr_1 dX5_quarrels_38 rfl hi27 ?_
          refine zz_icmp_ne 42 52 C dX5_quarrels_39 rfl rfl hf (fun h28 hf => ?_) (fun h28 hf => ?_)
          · refine zz_iconst 53 C dX5_quarrels_52 rfl zz_i0 ?_
            cases hf
            exact zz_zret C dX5_quarrels_53 rfl rfl (by decide)
          · refine zz_iload_n 43 C dX5_quarrels_42 rfl 3 rfl ?_
            refine zz_iload 45 C dX5_quarrels_43 rfl 5 rfl ?_
            refine zz_icmp_eq 48 52 C dX5_quarrels_45 rfl rfl hf (fun h29 hf => ?_) (fun h29 hf => ?_)
            · refine zz_iconst 53 C dX5_quarrels_52 rfl zz_i0 ?_
              cases hf
              exact zz_zret C dX5_quarrels_53 rfl rfl (by decide)
            · refine zz_iconst 49 C dX5_quarrels_48 rfl zz_i1 ?_
              refine zz_goto 53 C dX5_quarrels_49 rfl ?_
              cases hf
              exact zz_zret C dX5_quarrels_53 rfl rfl (by decide)
      · refine zz_iconst 16 C dX5_quarrels_15 rfl zz_i0 ?_
        cases hf
        exact zz_zret C dX5_quarrels_16 rfl rfl (by decide)
def f_X5_doClash (a1 a2 a3 : Int32) (M : zz_Mem) : Option (Int32 × zz_Mem) := (if zz_in a1 16 then (if zz_in ((6 * a1) + a3) 96 then (if zz_in a2 16 then (if zz_in ((6 * a2) + a3) 96 then zz_b2 (f_X5_quarrels a3 (M 7 a1.toNatClampNeg) (M 9 (((6 * a1) + a3).toNatClampNeg)) (M 7 a2.toNatClampNeg) (M 9 (((6 * a2) + a3).toNatClampNeg)) M) (fun r7 M6 => (if r7 &&& 1 = r7 then some (r7, M6) else none)) else none) else none) else none) else none)
set_option maxHeartbeats 4000000 in
set_option maxRecDepth 100000 in
theorem k_X5_doClash {l : Launch} {D : va_G} {cI : ClassId} {ad : Nat → Nat} {a1 a2 a3 : Int32} {r : Int32} {M M1 : zz_Mem} (hf : f_X5_doClash a1 a2 a3 M = some (r, M1)) : zz_K l D zz_SR cI ad 2 yX5_doClash cX5_doClash 4 (some .boolean) [.ref (ad 0), .int a1, .int a2, .int a3] M (some (.int r)) M1 := by
  unfold f_X5_doClash at hf
  refine zz_entry (own := RX5) (L := [(0, .ref (ad 0)), (1, .int a1), (2, .int a2), (3, .int a3)]) (by decide +kernel) rfl (Nat.le_of_ble_eq_true rfl) rfl (fun p e s m args below meth c C => ?_)
  refine zz_aload_n 1 C dX5_doClash_0 rfl 0 rfl ?_
  refine zz_iload_n 2 C dX5_doClash_1 rfl 3 rfl ?_
  refine zz_aload_n 3 C dX5_doClash_2 rfl 0 rfl ?_
  refine zz_getR 6 C dX5_doClash_3 rfl fl_X5_28 sr_0 rfl ?_
  refine zz_iload_n 7 C dX5_doClash_6 rfl 1 rfl ?_
  obtain ⟨hi1, hf⟩ := zz_chk hf
  refine zz_iald 8 C sr_7 dX5_doClash_7 rfl hi1 ?_
  refine zz_aload_n 9 C dX5_doClash_8 rfl 0 rfl ?_
  refine zz_getR 12 C dX5_doClash_9 rfl fl_X5_34 sr_0 rfl ?_
  refine zz_bipush 14 C dX5_doClash_12 rfl zz_bp6 ?_
  refine zz_iload_n 15 C dX5_doClash_14 rfl 1 rfl ?_
  refine zz_imul 16 C dX5_doClash_15 rfl ?_
  refine zz_iload_n 17 C dX5_doClash_16 rfl 3 rfl ?_
  refine zz_iadd 18 C dX5_doClash_17 rfl ?_
  obtain ⟨hi2, hf⟩ := zz_chk hf
  refine zz_iald 19 C sr_9 dX5_doClash_18 rfl hi2 ?_
  refine zz_aload_n 20 C dX5_doClash_19 rfl 0 rfl ?_
  refine zz_getR 23 C dX5_doClash_20 rfl fl_X5_28 sr_0 rfl ?_
  refine zz_iload_n 24 C dX5_doClash_23 rfl 2 rfl ?_
  obtain ⟨hi3, hf⟩ := zz_chk hf
  refine zz_iald 25 C sr_7 dX5_doClash_24 rfl hi3 ?_
  refine zz_aload_n 26 C dX5_doClash_25 rfl 0 rfl ?_
  refine zz_getR 29 C dX5_doClash_26 rfl fl_X5_34 sr_0 rfl ?_
  refine zz_bipush 31 C dX5_doClash_29 rfl zz_bp6 ?_
  refine zz_iload_n 32 C dX5_doClash_31 rfl 2 rfl ?_
  refine zz_imul 33 C dX5_doClash_32 rfl ?_
  refine zz_iload_n 34 C dX5_doClash_33 rfl 3 rfl ?_
  refine zz_iadd 35 C dX5_doClash_34 rfl ?_
  obtain ⟨hi4, hf⟩ := zz_chk hf
  refine zz_iald 36 C sr_9 dX5_doClash_35 rfl hi4 ?_
  obtain ⟨r7, M6, hc5, hf⟩ := zz_b2E hf
  refine zz_callV 39 [.int a3, .int (M 7 a1.toNatClampNeg), .int (M 9 (((6 * a1) + a3).toNatClampNeg)), .int (M 7 a2.toNatClampNeg), .int (M 9 (((6 * a2) + a3).toNatClampNeg))] C dX5_doClash_36 rfl ml_X5_100 (k_X5_quarrels hc5) sr_0 (vC := vwCl[5]) rfl rfl rfl rfl rfl (Nat.le_of_ble_eq_true rfl) (zz_hR (Nat.le_of_ble_eq_true rfl) (Nat.le_of_ble_eq_true rfl)) ?_
  obtain ⟨hz8, hf⟩ := zz_chk hf
  cases hf
  exact zz_zret C dX5_doClash_39 rfl rfl hz8
def f_X5_clash (a1 a2 a3 : Int32) (M : zz_Mem) : Option (Int32 × zz_Mem) := zz_b2 (f_X5_isTake a1 M) (fun r3 M2 => (if r3 = 0 then some ((-1), M2) else zz_b2 (f_X5_isTake a2 M2) (fun r7 M6 => (if r7 = 0 then some ((-1), M6) else zz_b2 (f_X5_isThing a3 M6) (fun r11 M10 => (if r11 = 0 then some ((-1), M10) else zz_b2 (f_X5_doClash a1 a2 a3 M10) (fun r15 M14 => (if r15 = 0 then some (0, M14) else some (1, M14)))))))))
set_option maxHeartbeats 4000000 in
set_option maxRecDepth 100000 in
theorem k_X5_clash {l : Launch} {D : va_G} {cI : ClassId} {ad : Nat → Nat} {a1 a2 a3 : Int32} {r : Int32} {M M1 : zz_Mem} (hf : f_X5_clash a1 a2 a3 M = some (r, M1)) : zz_K l D zz_SR cI ad 3 yX5_clash cX5_clash 4 (some .int) [.ref (ad 0), .int a1, .int a2, .int a3] M (some (.int r)) M1 := by
  unfold f_X5_clash at hf
  refine zz_entry (own := RX5) (L := [(0, .ref (ad 0)), (1, .int a1), (2, .int a2), (3, .int a3)]) (by decide +kernel) rfl (Nat.le_of_ble_eq_true rfl) rfl (fun p e s m args below meth c C => ?_)
  refine zz_aload_n 1 C dX5_clash_0 rfl 0 rfl ?_
  refine zz_iload_n 2 C dX5_clash_1 rfl 1 rfl ?_
  obtain ⟨r3, M2, hc1, hf⟩ := zz_b2E hf
  refine zz_callV 5 [.int a1] C dX5_clash_2 rfl ml_X5_89 (k_X5_isTake hc1) sr_0 (vC := vwCl[5]) rfl rfl rfl rfl rfl (Nat.le_of_ble_eq_true rfl) (zz_hR (Nat.le_of_ble_eq_true rfl) (Nat.le_of_ble_eq_true rfl)) ?_
  refine zz_if_eq 8 24 C dX5_clash_5 rfl rfl hf (fun h4 hf => ?_) (fun h4 hf => ?_)
  · refine zz_iconst 25 C dX5_clash_24 rfl zz_im1 ?_
    cases hf
    exact zz_iret C dX5_clash_25 rfl rfl
  · refine zz_aload_n 9 C dX5_clash_8 rfl 0 rfl ?_
    refine zz_iload_n 10 C dX5_clash_9 rfl 2 rfl ?_
    obtain ⟨r7, M6, hc5, hf⟩ := zz_b2E hf
    refine zz_callV 13 [.int a2] C dX5_clash_10 rfl ml_X5_89 (k_X5_isTake hc5) sr_0 (vC := vwCl[5]) rfl rfl rfl rfl rfl (Nat.le_of_ble_eq_true rfl) (zz_hR (Nat.le_of_ble_eq_true rfl) (Nat.le_of_ble_eq_true rfl)) ?_
    refine zz_if_eq 16 24 C dX5_clash_13 rfl rfl hf (fun h8 hf => ?_) (fun h8 hf => ?_)
    · refine zz_iconst 25 C dX5_clash_24 rfl zz_im1 ?_
      cases hf
      exact zz_iret C dX5_clash_25 rfl rfl
    · refine zz_aload_n 17 C dX5_clash_16 rfl 0 rfl ?_
      refine zz_iload_n 18 C dX5_clash_17 rfl 3 rfl ?_
      obtain ⟨r11, M10, hc9, hf⟩ := zz_b2E hf
      refine zz_callV 21 [.int a3] C dX5_clash_18 rfl ml_X5_82 (k_X5_isThing hc9) sr_0 (vC := vwCl[5]) rfl rfl rfl rfl rfl (Nat.le_of_ble_eq_true rfl) (zz_hR (Nat.le_of_ble_eq_true rfl) (Nat.le_of_ble_eq_true rfl)) ?_
      refine zz_if_ne 24 26 C dX5_clash_21 rfl rfl hf (fun h12 hf => ?_) (fun h12 hf => ?_)
      · refine zz_aload_n 27 C dX5_clash_26 rfl 0 rfl ?_
        refine zz_iload_n 28 C dX5_clash_27 rfl 1 rfl ?_
        refine zz_iload_n 29 C dX5_clash_28 rfl 2 rfl ?_
        refine zz_iload_n 30 C dX5_clash_29 rfl 3 rfl ?_
        obtain ⟨r15, M14, hc13, hf⟩ := zz_b2E hf
        refine zz_callV 33 [.int a1, .int a2, .int a3] C dX5_clash_30 rfl ml_X5_104 (k_X5_doClash hc13) sr_0 (vC := vwCl[5]) rfl rfl rfl rfl rfl (Nat.le_of_ble_eq_true rfl) (zz_hR (Nat.le_of_ble_eq_true rfl) (Nat.le_of_ble_eq_true rfl)) ?_
        refine zz_if_eq 36 40 C dX5_clash_33 rfl rfl hf (fun h16 hf => ?_) (fun h16 hf => ?_)
        · refine zz_iconst 41 C dX5_clash_40 rfl zz_i0 ?_
          cases hf
          exact zz_iret C dX5_clash_41 rfl rfl
        · refine zz_iconst 37 C dX5_clash_36 rfl zz_i1 ?_
          refine zz_goto 41 C dX5_clash_37 rfl ?_
          cases hf
          exact zz_iret C dX5_clash_41 rfl rfl
      · refine zz_iconst 25 C dX5_clash_24 rfl zz_im1 ?_
        cases hf
        exact zz_iret C dX5_clash_25 rfl rfl
def f_X5_noiseOf_5 (x1 x2 : Int32) : Nat → Int32 → Int32 → zz_Mem → Option (Int32 × Int32 × zz_Mem)
  | 0, _, _, _ => none
  | n + 1, v3, v4, M => (if (M 0 4) ≤ v4 then some (v3, v4, M) else zz_b2 (f_X5_doClash x1 x2 v4 M) (fun r4 M3 => (if r4 = 0 then f_X5_noiseOf_5 x1 x2 n (v3 + 0) (v4 + 1) M3 else (if zz_in v4 6 then f_X5_noiseOf_5 x1 x2 n (v3 + (M3 6 v4.toNatClampNeg)) (v4 + 1) M3 else none))))
set_option maxHeartbeats 4000000 in
set_option maxRecDepth 100000 in
theorem l_X5_noiseOf_5 {p : Program} {l : Launch} {e : Env} {s : State} {m : MethodId} {args : Array Value} {below : List Frame} {meth : Method} {c : Code} {D : va_G} {cI : ClassId} {ad : Nat → Nat} {x1 x2 : Int32} {w : Option Value} {Mf : zz_Mem} (C : zz_C p (zz_rm 3) s m args meth c D cI RX5 cX5_noiseOf 5 (some .int) 0 0) {w3 w4 : Int32} {M1 : zz_Mem} : ∀ {n : Nat} {v3 v4 : Int32} {M : zz_Mem}, f_X5_noiseOf_5 x1 x2 n v3 v4 M = some (w3, w4, M1) → zz_V p l e (zz_rm 3) s m args below meth c D zz_SR cI ad (zz_A zz_SR ad) 5 0 0 (MQ below (zz_Q D zz_SR cI ad w Mf) args s 0 0 (zz_A zz_SR ad)) 45 [(0, .ref (ad 0)), (1, .int x1), (2, .int x2), (3, .int w3), (4, .int w4)] [] M1 → zz_V p l e (zz_rm 3) s m args below meth c D zz_SR cI ad (zz_A zz_SR ad) 5 0 0 (MQ below (zz_Q D zz_SR cI ad w Mf) args s 0 0 (zz_A zz_SR ad)) 5 [(0, .ref (ad 0)), (1, .int x1), (2, .int x2), (3, .int v3), (4, .int v4)] [] M := by
  intro n
  induction n with
  | zero =>
    intro v3 v4 M hf
    simp [f_X5_noiseOf_5] at hf
  | succ n ih0 =>
    intro v3 v4 M hf hex
    have ih := fun v3 v4 M hf => @ih0 v3 v4 M hf
    rw [f_X5_noiseOf_5] at hf
    refine zz_iload 7 C dX5_noiseOf_5 rfl 4 rfl ?_
    refine zz_aload_n 8 C dX5_noiseOf_7 rfl 0 rfl ?_
    refine zz_getI 11 C dX5_noiseOf_8 rfl fl_X5_72 sr_0 rfl ?_
    refine zz_icmp_ge 14 45 C dX5_noiseOf_11 rfl rfl hf (fun h1 hf => ?_) (fun h1 hf => ?_)
    · cases hf
      exact zz_sub [0, 1, 2, 3, 4] rfl hex
    · refine zz_iload_n 15 C dX5_noiseOf_14 rfl 3 rfl ?_
      refine zz_aload_n 16 C dX5_noiseOf_15 rfl 0 rfl ?_
      refine zz_iload_n 17 C dX5_noiseOf_16 rfl 1 rfl ?_
      refine zz_iload_n 18 C dX5_noiseOf_17 rfl 2 rfl ?_
      refine zz_iload 20 C dX5_noiseOf_18 rfl 4 rfl ?_
      obtain ⟨r4, M3, hc2, hf⟩ := zz_b2E hf
      refine zz_callV 23 [.int x1, .int x2, .int v4] C dX5_noiseOf_20 rfl ml_X5_104 (k_X5_doClash hc2) sr_0 (vC := vwCl[5]) rfl rfl rfl rfl rfl (Nat.le_of_ble_eq_true rfl) (zz_hR (Nat.le_of_ble_eq_true rfl) (Nat.le_of_ble_eq_true rfl)) ?_
      refine zz_if_eq 26 36 C dX5_noiseOf_23 rfl rfl hf (fun h5 hf => ?_) (fun h5 hf => ?_)
      · refine zz_iconst 37 C dX5_noiseOf_36 rfl zz_i0 ?_
        refine zz_iadd 38 C dX5_noiseOf_37 rfl ?_
        refine zz_istore_n (L' := [(3, .int (v3 + 0)), (0, .ref (ad 0)), (1, .int x1), (2, .int x2), (4, .int v4)]) 39 C dX5_noiseOf_38 rfl (Nat.le_of_ble_eq_true rfl) rfl ?_
        refine zz_iinc (L' := [(4, .int (v4 + 1)), (3, .int (v3 + 0)), (0, .ref (ad 0)), (1, .int x1), (2, .int x2)]) 42 C dX5_noiseOf_39 rfl zz_i1 4 rfl (Nat.le_of_ble_eq_true rfl) rfl ?_
        refine zz_goto 5 C dX5_noiseOf_42 rfl ?_
        exact zz_sub [2, 3, 4, 1, 0] rfl (ih _ _ _ hf hex)
      · refine zz_aload_n 27 C dX5_noiseOf_26 rfl 0 rfl ?_
        refine zz_getR 30 C dX5_noiseOf_27 rfl fl_X5_25 sr_0 rfl ?_
        refine zz_iload 32 C dX5_noiseOf_30 rfl 4 rfl ?_
        obtain ⟨hi6, hf⟩ := zz_chk hf
        refine zz_iald 33 C sr_6 dX5_noiseOf_32 rfl hi6 ?_
        refine zz_goto 37 C dX5_noiseOf_33 rfl ?_
        refine zz_iadd 38 C dX5_noiseOf_37 rfl ?_
        refine zz_istore_n (L' := [(3, .int (v3 + (M3 6 v4.toNatClampNeg))), (0, .ref (ad 0)), (1, .int x1), (2, .int x2), (4, .int v4)]) 39 C dX5_noiseOf_38 rfl (Nat.le_of_ble_eq_true rfl) rfl ?_
        refine zz_iinc (L' := [(4, .int (v4 + 1)), (3, .int (v3 + (M3 6 v4.toNatClampNeg))), (0, .ref (ad 0)), (1, .int x1), (2, .int x2)]) 42 C dX5_noiseOf_39 rfl zz_i1 4 rfl (Nat.le_of_ble_eq_true rfl) rfl ?_
        refine zz_goto 5 C dX5_noiseOf_42 rfl ?_
        exact zz_sub [2, 3, 4, 1, 0] rfl (ih _ _ _ hf hex)
def f_X5_noiseOf (a1 a2 : Int32) (M : zz_Mem) : Option (Int32 × zz_Mem) := zz_b3 (f_X5_noiseOf_5 a1 a2 5000 0 0 M) (fun w7 w8 M9 => some (w7, M9))
set_option maxHeartbeats 4000000 in
set_option maxRecDepth 100000 in
theorem k_X5_noiseOf {l : Launch} {D : va_G} {cI : ClassId} {ad : Nat → Nat} {a1 a2 : Int32} {r : Int32} {M M1 : zz_Mem} (hf : f_X5_noiseOf a1 a2 M = some (r, M1)) : zz_K l D zz_SR cI ad 3 yX5_noiseOf cX5_noiseOf 5 (some .int) [.ref (ad 0), .int a1, .int a2] M (some (.int r)) M1 := by
  unfold f_X5_noiseOf at hf
  refine zz_entry (own := RX5) (L := [(0, .ref (ad 0)), (1, .int a1), (2, .int a2)]) (by decide +kernel) rfl (Nat.le_of_ble_eq_true rfl) rfl (fun p e s m args below meth c C => ?_)
  refine zz_iconst 1 C dX5_noiseOf_0 rfl zz_i0 ?_
  refine zz_istore_n (L' := [(3, .int 0), (0, .ref (ad 0)), (1, .int a1), (2, .int a2)]) 2 C dX5_noiseOf_1 rfl (Nat.le_of_ble_eq_true rfl) rfl ?_
  refine zz_iconst 3 C dX5_noiseOf_2 rfl zz_i0 ?_
  refine zz_istore (L' := [(4, .int 0), (3, .int 0), (0, .ref (ad 0)), (1, .int a1), (2, .int a2)]) 5 C dX5_noiseOf_3 rfl (Nat.le_of_ble_eq_true rfl) rfl ?_
  obtain ⟨w7, w8, M9, hc10, hf⟩ := zz_b3E hf
  refine zz_sub [2, 3, 4, 1, 0] rfl (l_X5_noiseOf_5 C  hc10 ?_)
  refine zz_iload_n 46 C dX5_noiseOf_45 rfl 3 rfl ?_
  cases hf
  exact zz_iret C dX5_noiseOf_46 rfl rfl
def f_X5_noise (a1 a2 : Int32) (M : zz_Mem) : Option (Int32 × zz_Mem) := zz_b2 (f_X5_isTake a1 M) (fun r3 M2 => (if r3 = 0 then some ((-1), M2) else zz_b2 (f_X5_isTake a2 M2) (fun r7 M6 => (if r7 = 0 then some ((-1), M6) else zz_b2 (f_X5_noiseOf a1 a2 M6) (fun r11 M10 => some (r11, M10))))))
set_option maxHeartbeats 4000000 in
set_option maxRecDepth 100000 in
theorem k_X5_noise {l : Launch} {D : va_G} {cI : ClassId} {ad : Nat → Nat} {a1 a2 : Int32} {r : Int32} {M M1 : zz_Mem} (hf : f_X5_noise a1 a2 M = some (r, M1)) : zz_K l D zz_SR cI ad 4 yX5_noise cX5_noise 3 (some .int) [.ref (ad 0), .int a1, .int a2] M (some (.int r)) M1 := by
  unfold f_X5_noise at hf
  refine zz_entry (own := RX5) (L := [(0, .ref (ad 0)), (1, .int a1), (2, .int a2)]) (by decide +kernel) rfl (Nat.le_of_ble_eq_true rfl) rfl (fun p e s m args below meth c C => ?_)
  refine zz_aload_n 1 C dX5_noise_0 rfl 0 rfl ?_
  refine zz_iload_n 2 C dX5_noise_1 rfl 1 rfl ?_
  obtain ⟨r3, M2, hc1, hf⟩ := zz_b2E hf
  refine zz_callV 5 [.int a1] C dX5_noise_2 rfl ml_X5_89 (k_X5_isTake hc1) sr_0 (vC := vwCl[5]) rfl rfl rfl rfl rfl (Nat.le_of_ble_eq_true rfl) (zz_hR (Nat.le_of_ble_eq_true rfl) (Nat.le_of_ble_eq_true rfl)) ?_
  refine zz_if_eq 8 25 C dX5_noise_5 rfl rfl hf (fun h4 hf => ?_) (fun h4 hf => ?_)
  · refine zz_iconst 26 C dX5_noise_25 rfl zz_im1 ?_
    cases hf
    exact zz_iret C dX5_noise_26 rfl rfl
  · refine zz_aload_n 9 C dX5_noise_8 rfl 0 rfl ?_
    refine zz_iload_n 10 C dX5_noise_9 rfl 2 rfl ?_
    obtain ⟨r7, M6, hc5, hf⟩ := zz_b2E hf
    refine zz_callV 13 [.int a2] C dX5_noise_10 rfl ml_X5_89 (k_X5_isTake hc5) sr_0 (vC := vwCl[5]) rfl rfl rfl rfl rfl (Nat.le_of_ble_eq_true rfl) (zz_hR (Nat.le_of_ble_eq_true rfl) (Nat.le_of_ble_eq_true rfl)) ?_
    refine zz_if_eq 16 25 C dX5_noise_13 rfl rfl hf (fun h8 hf => ?_) (fun h8 hf => ?_)
    · refine zz_iconst 26 C dX5_noise_25 rfl zz_im1 ?_
      cases hf
      exact zz_iret C dX5_noise_26 rfl rfl
    · refine zz_aload_n 17 C dX5_noise_16 rfl 0 rfl ?_
      refine zz_iload_n 18 C dX5_noise_17 rfl 1 rfl ?_
      refine zz_iload_n 19 C dX5_noise_18 rfl 2 rfl ?_
      obtain ⟨r11, M10, hc9, hf⟩ := zz_b2E hf
      refine zz_callV 22 [.int a1, .int a2] C dX5_noise_19 rfl ml_X5_107 (k_X5_noiseOf hc9) sr_0 (vC := vwCl[5]) rfl rfl rfl rfl rfl (Nat.le_of_ble_eq_true rfl) (zz_hR (Nat.le_of_ble_eq_true rfl) (Nat.le_of_ble_eq_true rfl)) ?_
      refine zz_goto 26 C dX5_noise_22 rfl ?_
      cases hf
      exact zz_iret C dX5_noise_26 rfl rfl
