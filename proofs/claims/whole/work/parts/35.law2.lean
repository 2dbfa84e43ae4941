set_option maxHeartbeats 4000000 in
set_option maxRecDepth 100000 in
theorem law_loop {Rel : zz_Mem → zz_Mem → Prop} (hst : zz_Step Rel) {p : Program} {l : Launch} {e : Env} {s : State} {m : MethodId} {below : List Frame} {meth : Method} {c : Code} {D : va_G} {cI : ClassId} {adC adR : Nat → Nat} {b L : Nat} {xs : Nat → Int32} (C : zz_C p room_1 s m #[Value.ref b] meth c D cI RL cL_law 4 ret 0 0) (hX : va_X b L xs s s.heap) (hbl : b < s.heap.size) (hL : L ≤ 2048) (hr : meth.sig.returnType = ret) (hlocks : meth.locks = false) : ∀ (n i : Nat) (MC MR : zz_Mem), L + 8 ≤ i + n → i ≤ L + 4 → Rel MC MR → zz_U p l e room_1 s m #[Value.ref b] below meth c D (fun q : Nat => s.heap.size ≤ q) 4 (lw_Z below #[Value.ref b] s) 50 1302 18 [(0, .ref b), (1, .ref (adC 0)), (2, .ref (adR 0)), (3, .int (nI i))] [] (zz_cells zz_SC cI adC MC ++ zz_cells zz_SR cI adR MR) := by
  obtain ⟨s0, s1, s2, s3, s4, s5, s6, s7, s8, s9, s10, s11, s12, s13, s14, s15, s16, s17, s18, s19, s20, s21, s22, s23, s24, s25⟩ := hst
  intro n
  induction n with
  | zero =>
    intro i MC MR h1 h2
    exact absurd h1 (by omega)
  | succ n ih =>
    intro i MC MR hin hiL hRel
    refine zz_uiload 19 C dL_law_18 rfl 3 rfl ?_
    refine zz_uaload 20 C dL_law_19 rfl 0 rfl ?_
    refine zz_ulen 21 C hX hbl (Nat.not_le.mpr hbl) dL_law_20 rfl ?_
    refine zz_uiconst 22 C dL_law_21 rfl zz_i4 ?_
    refine zz_uisub 23 C dL_law_22 rfl ?_
    refine zz_uicmp_gt 26 926 C dL_law_23 rfl rfl (fun hc => ?_) (fun hc => ?_)
    · refine zz_uiconst 927 C dL_law_926 rfl zz_i1 ?_
      intro H locs ls hP hD hS hl
      refine va_forget (fun q hq => hS.2.2 q hq) ?_
      refine W.widen (k := 600000) (n := 7302250) (Nat.le_of_ble_eq_true rfl) (Nat.le_of_ble_eq_true rfl) ?_
      exact lw_ret C.1 C.2.1 hr hlocks dL_law_927
    · have hlt : i + 4 ≤ L := by
        rcases Nat.lt_or_ge L (i + 4) with q | q
        · exact absurd ((zz_lend hL (by omega)).mpr q) hc
        · exact q
      have h0 : vp_in (nI i) L := vp_in_nI (by omega) (by omega)
      have h1 : vp_in (nI i + 1) L := by rw [nI_1]; exact vp_in_nI (by omega) (by omega)
      have h2 : vp_in (nI i + 2) L := by rw [show (2 : Int32) = nI 2 from rfl, nI_add]; exact vp_in_nI (by omega) (by omega)
      have h3 : vp_in (nI i + 3) L := by rw [show (3 : Int32) = nI 3 from rfl, nI_add]; exact vp_in_nI (by omega) (by omega)
      have foot : ∀ MC1 MR1, Rel MC1 MR1 → zz_U p l e room_1 s m #[Value.ref b] below meth c D (fun q : Nat => s.heap.size ≤ q) 4 (lw_Z below #[Value.ref b] s) 50 1302 920 [(0, .ref b), (1, .ref (adC 0)), (2, .ref (adR 0)), (3, .int (nI i))] [] (zz_cells zz_SC cI adC MC1 ++ zz_cells zz_SR cI adR MR1) := by
        intro MC1 MR1 hR1
        refine zz_uiinc (L' := [(3, .int (nI i + 4)), (0, .ref b), (1, .ref (adC 0)), (2, .ref (adR 0))]) 923 C dL_law_920 rfl zz_i4 3 rfl (Nat.le_of_ble_eq_true rfl) rfl ?_
        refine zz_ugoto 18 C dL_law_923 rfl ?_
        rw [show (4 : Int32) = nI 4 from rfl, nI_add]
        exact zz_usub [1, 2, 3, 0] rfl (ih (i + 4) MC1 MR1 (by omega) (by omega) hR1)
      refine zz_uaload 27 C dL_law_26 rfl 0 rfl ?_
      refine zz_uiload 28 C dL_law_27 rfl 3 rfl ?_
      refine zz_uld 29 C hX hbl (Nat.not_le.mpr hbl) h0 dL_law_28 rfl ?_
      refine zz_ubipush 31 C dL_law_29 rfl zz_bp31 ?_
      refine zz_uiand 32 C dL_law_31 rfl ?_
      generalize xs (nI i).toNatClampNeg &&& 31 = op
      by_cases g0 : op = 0
      · refine zz_utabIn 152 C dL_law_32 g0 (by decide) (by decide) rfl rfl ?_
        obtain ⟨r, MC1, MR1, e1, e2, hR1⟩ := s0 MC MR hRel (xs (nI i + 1).toNatClampNeg) (xs (nI i + 2).toNatClampNeg)
        exact law_scene C hX hbl hL h1 h2 e1 e2 (foot MC1 MR1 hR1)
      by_cases g1 : op = 1
      · refine zz_utabIn 185 C dL_law_32 g1 (by decide) (by decide) rfl rfl ?_
        obtain ⟨r, MC1, MR1, e1, e2, hR1⟩ := s1 MC MR hRel (xs (nI i + 1).toNatClampNeg) (xs (nI i + 2).toNatClampNeg) (xs (nI i + 3).toNatClampNeg)
        exact law_shift C hX hbl hL h1 h2 h3 e1 e2 (foot MC1 MR1 hR1)
      by_cases g2 : op = 2
      · refine zz_utabIn 228 C dL_law_32 g2 (by decide) (by decide) rfl rfl ?_
        obtain ⟨r, MC1, MR1, e1, e2, hR1⟩ := s2 MC MR hRel (xs (nI i + 1).toNatClampNeg) (xs (nI i + 2).toNatClampNeg) (xs (nI i + 3).toNatClampNeg)
        exact law_thing C hX hbl hL h1 h2 h3 e1 e2 (foot MC1 MR1 hR1)
      by_cases g3 : op = 3
      · refine zz_utabIn 271 C dL_law_32 g3 (by decide) (by decide) rfl rfl ?_
        obtain ⟨r, MC1, MR1, e1, e2, hR1⟩ := s3 MC MR hRel (xs (nI i + 1).toNatClampNeg) (xs (nI i + 2).toNatClampNeg)
        exact law_loud C hX hbl hL h1 h2 e1 e2 (foot MC1 MR1 hR1)
      by_cases g4 : op = 4
      · refine zz_utabIn 304 C dL_law_32 g4 (by decide) (by decide) rfl rfl ?_
        obtain ⟨r, MC1, MR1, e1, e2, hR1⟩ := s4 MC MR hRel (xs (nI i + 1).toNatClampNeg) (xs (nI i + 2).toNatClampNeg)
        exact law_take C hX hbl hL h1 h2 e1 e2 (foot MC1 MR1 hR1)
      by_cases g5 : op = 5
      · refine zz_utabIn 337 C dL_law_32 g5 (by decide) (by decide) rfl rfl ?_
        obtain ⟨r, MC1, MR1, e1, e2, hR1⟩ := s5 MC MR hRel (xs (nI i + 1).toNatClampNeg) (xs (nI i + 2).toNatClampNeg) (xs (nI i + 3).toNatClampNeg)
        exact law_show C hX hbl hL h1 h2 h3 e1 e2 (foot MC1 MR1 hR1)
      by_cases g6 : op = 6
      · refine zz_utabIn 380 C dL_law_32 g6 (by decide) (by decide) rfl rfl ?_
        obtain ⟨r, MC1, MR1, e1, e2, hR1⟩ := s6 MC MR hRel (xs (nI i + 1).toNatClampNeg) (xs (nI i + 2).toNatClampNeg)
        exact law_like C hX hbl hL h1 h2 e1 e2 (foot MC1 MR1 hR1)
      by_cases g7 : op = 7
      · refine zz_utabIn 413 C dL_law_32 g7 (by decide) (by decide) rfl rfl ?_
        obtain ⟨r, MC1, MR1, e1, e2, hR1⟩ := s7 MC MR hRel (xs (nI i + 1).toNatClampNeg) (xs (nI i + 2).toNatClampNeg)
        exact law_of C hX hbl hL h1 h2 e1 e2 (foot MC1 MR1 hR1)
      by_cases g8 : op = 8
      · refine zz_utabIn 446 C dL_law_32 g8 (by decide) (by decide) rfl rfl ?_
        obtain ⟨r, MC1, MR1, e1, e2, hR1⟩ := s8 MC MR hRel (xs (nI i + 1).toNatClampNeg) (xs (nI i + 2).toNatClampNeg)
        exact law_told C hX hbl hL h1 h2 e1 e2 (foot MC1 MR1 hR1)
      by_cases g9 : op = 9
      · refine zz_utabIn 479 C dL_law_32 g9 (by decide) (by decide) rfl rfl ?_
        obtain ⟨r, MC1, MR1, e1, e2, hR1⟩ := s9 MC MR hRel (xs (nI i + 1).toNatClampNeg) (xs (nI i + 2).toNatClampNeg)
        exact law_thingOf C hX hbl hL h1 h2 e1 e2 (foot MC1 MR1 hR1)
      by_cases g10 : op = 10
      · refine zz_utabIn 512 C dL_law_32 g10 (by decide) (by decide) rfl rfl ?_
        obtain ⟨r, MC1, MR1, e1, e2, hR1⟩ := s10 MC MR hRel (xs (nI i + 1).toNatClampNeg) (xs (nI i + 2).toNatClampNeg)
        exact law_ahead C hX hbl hL h1 h2 e1 e2 (foot MC1 MR1 hR1)
      by_cases g11 : op = 11
      · refine zz_utabIn 545 C dL_law_32 g11 (by decide) (by decide) rfl rfl ?_
        obtain ⟨r, MC1, MR1, e1, e2, hR1⟩ := s11 MC MR hRel (xs (nI i + 1).toNatClampNeg) (xs (nI i + 2).toNatClampNeg) (xs (nI i + 3).toNatClampNeg)
        exact law_clash C hX hbl hL h1 h2 h3 e1 e2 (foot MC1 MR1 hR1)
      by_cases g12 : op = 12
      · refine zz_utabIn 588 C dL_law_32 g12 (by decide) (by decide) rfl rfl ?_
        obtain ⟨r, MC1, MR1, e1, e2, hR1⟩ := s12 MC MR hRel (xs (nI i + 1).toNatClampNeg) (xs (nI i + 2).toNatClampNeg)
        exact law_noise C hX hbl hL h1 h2 e1 e2 (foot MC1 MR1 hR1)
      by_cases g13 : op = 13
      · refine zz_utabIn 621 C dL_law_32 g13 (by decide) (by decide) rfl rfl ?_
        obtain ⟨r, MC1, MR1, e1, e2, hR1⟩ := s13 MC MR hRel 
        exact law_cost C hX hbl hL  e1 e2 (foot MC1 MR1 hR1)
      by_cases g14 : op = 14
      · refine zz_utabIn 634 C dL_law_32 g14 (by decide) (by decide) rfl rfl ?_
        obtain ⟨r, MC1, MR1, e1, e2, hR1⟩ := s14 MC MR hRel (xs (nI i + 1).toNatClampNeg)
        exact law_cut C hX hbl hL h1 e1 e2 (foot MC1 MR1 hR1)
      by_cases g15 : op = 15
      · refine zz_utabIn 657 C dL_law_32 g15 (by decide) (by decide) rfl rfl ?_
        obtain ⟨r, MC1, MR1, e1, e2, hR1⟩ := s15 MC MR hRel (xs (nI i + 1).toNatClampNeg) (xs (nI i + 2).toNatClampNeg)
        exact law_choose C hX hbl hL h1 h2 e1 e2 (foot MC1 MR1 hR1)
      by_cases g16 : op = 16
      · refine zz_utabIn 690 C dL_law_32 g16 (by decide) (by decide) rfl rfl ?_
        obtain ⟨r, MC1, MR1, e1, e2, hR1⟩ := s16 MC MR hRel 
        exact law_adopt C hX hbl hL  e1 e2 (foot MC1 MR1 hR1)
      by_cases g17 : op = 17
      · refine zz_utabIn 703 C dL_law_32 g17 (by decide) (by decide) rfl rfl ?_
        obtain ⟨r, MC1, MR1, e1, e2, hR1⟩ := s17 MC MR hRel 
        exact law_chosen C hX hbl hL  e1 e2 (foot MC1 MR1 hR1)
      by_cases g18 : op = 18
      · refine zz_utabIn 716 C dL_law_32 g18 (by decide) (by decide) rfl rfl ?_
        obtain ⟨r, MC1, MR1, e1, e2, hR1⟩ := s18 MC MR hRel (xs (nI i + 1).toNatClampNeg) (xs (nI i + 2).toNatClampNeg) (xs (nI i + 3).toNatClampNeg)
        exact law_span C hX hbl hL h1 h2 h3 e1 e2 (foot MC1 MR1 hR1)
      by_cases g19 : op = 19
      · refine zz_utabIn 759 C dL_law_32 g19 (by decide) (by decide) rfl rfl ?_
        obtain ⟨r, MC1, MR1, e1, e2, hR1⟩ := s19 MC MR hRel (xs (nI i + 1).toNatClampNeg) (xs (nI i + 2).toNatClampNeg) (xs (nI i + 3).toNatClampNeg)
        exact law_twin C hX hbl hL h1 h2 h3 e1 e2 (foot MC1 MR1 hR1)
      by_cases g20 : op = 20
      · refine zz_utabIn 802 C dL_law_32 g20 (by decide) (by decide) rfl rfl ?_
        obtain ⟨r, MC1, MR1, e1, e2, hR1⟩ := s20 MC MR hRel (xs (nI i + 1).toNatClampNeg) (xs (nI i + 2).toNatClampNeg)
        exact law_doubles C hX hbl hL h1 h2 e1 e2 (foot MC1 MR1 hR1)
      by_cases g21 : op = 21
      · refine zz_utabIn 835 C dL_law_32 g21 (by decide) (by decide) rfl rfl ?_
        obtain ⟨r, MC1, MR1, e1, e2, hR1⟩ := s21 MC MR hRel 
        exact law_reshoot C hX hbl hL  e1 e2 (foot MC1 MR1 hR1)
      by_cases g22 : op = 22
      · refine zz_utabIn 848 C dL_law_32 g22 (by decide) (by decide) rfl rfl ?_
        obtain ⟨r, MC1, MR1, e1, e2, hR1⟩ := s22 MC MR hRel (xs (nI i + 1).toNatClampNeg)
        exact law_clashes C hX hbl hL h1 e1 e2 (foot MC1 MR1 hR1)
      by_cases g23 : op = 23
      · refine zz_utabIn 871 C dL_law_32 g23 (by decide) (by decide) rfl rfl ?_
        obtain ⟨r, MC1, MR1, e1, e2, hR1⟩ := s23 MC MR hRel (xs (nI i + 1).toNatClampNeg)
        exact law_many C hX hbl hL h1 e1 e2 (foot MC1 MR1 hR1)
      by_cases g24 : op = 24
      · refine zz_utabIn 894 C dL_law_32 g24 (by decide) (by decide) rfl rfl ?_
        obtain ⟨r, MC1, MR1, e1, e2, hR1⟩ := s24 MC MR hRel 
        exact law_keep C hX hbl hL  e1 e2 (foot MC1 MR1 hR1)
      by_cases g25 : op = 25
      · refine zz_utabIn 907 C dL_law_32 g25 (by decide) (by decide) rfl rfl ?_
        obtain ⟨r, MC1, MR1, e1, e2, hR1⟩ := s25 MC MR hRel 
        exact law_back C hX hbl hL  e1 e2 (foot MC1 MR1 hR1)
      have t0 := lv_neT g0 (show (0 : Int32).toInt = 0 from by decide)
      have t1 := lv_neT g1 (show (1 : Int32).toInt = 1 from by decide)
      have t2 := lv_neT g2 (show (2 : Int32).toInt = 2 from by decide)
      have t3 := lv_neT g3 (show (3 : Int32).toInt = 3 from by decide)
      have t4 := lv_neT g4 (show (4 : Int32).toInt = 4 from by decide)
      have t5 := lv_neT g5 (show (5 : Int32).toInt = 5 from by decide)
      have t6 := lv_neT g6 (show (6 : Int32).toInt = 6 from by decide)
      have t7 := lv_neT g7 (show (7 : Int32).toInt = 7 from by decide)
      have t8 := lv_neT g8 (show (8 : Int32).toInt = 8 from by decide)
      have t9 := lv_neT g9 (show (9 : Int32).toInt = 9 from by decide)
      have t10 := lv_neT g10 (show (10 : Int32).toInt = 10 from by decide)
      have t11 := lv_neT g11 (show (11 : Int32).toInt = 11 from by decide)
      have t12 := lv_neT g12 (show (12 : Int32).toInt = 12 from by decide)
      have t13 := lv_neT g13 (show (13 : Int32).toInt = 13 from by decide)
      have t14 := lv_neT g14 (show (14 : Int32).toInt = 14 from by decide)
      have t15 := lv_neT g15 (show (15 : Int32).toInt = 15 from by decide)
      have t16 := lv_neT g16 (show (16 : Int32).toInt = 16 from by decide)
      have t17 := lv_neT g17 (show (17 : Int32).toInt = 17 from by decide)
      have t18 := lv_neT g18 (show (18 : Int32).toInt = 18 from by decide)
      have t19 := lv_neT g19 (show (19 : Int32).toInt = 19 from by decide)
      have t20 := lv_neT g20 (show (20 : Int32).toInt = 20 from by decide)
      have t21 := lv_neT g21 (show (21 : Int32).toInt = 21 from by decide)
      have t22 := lv_neT g22 (show (22 : Int32).toInt = 22 from by decide)
      have t23 := lv_neT g23 (show (23 : Int32).toInt = 23 from by decide)
      have t24 := lv_neT g24 (show (24 : Int32).toInt = 24 from by decide)
      have t25 := lv_neT g25 (show (25 : Int32).toInt = 25 from by decide)
      refine zz_utabOut 920 C dL_law_32 (by omega) rfl ?_
      exact foot MC MR hRel
def zz_MC0 : zz_Mem := fun k => match k with
  | 8 => zz_m1 6
  | 14 => zz_m1 96
  | 17 => zz_m1 6
  | 23 => zz_m1 96
  | _ => fun _ => 0
def zz_MR0 : zz_Mem := fun _ => fun _ => 0
theorem zz_w0C (cI : ClassId) (qC c0 c1 c2 c3 c4 c5 c6 c7 c8 c9 c10 c11 c12 c13 c14 c15 c16 c17 c18 c19 c20 c21 c22 c23 c24 c25 c26 c27 c28 c29 : Nat) : [(qC, .inr (4, [.ref c0, .ref c1, .int 0, .ref c2, .ref c3, .ref c4])), (c0, .inr (3, [.int 0, .ref c5, .ref c6, .ref c7, .int 0, .ref c8, .ref c9, .ref c10, .int 0, .ref c11, .ref c12, .ref c13])), (c1, .inr (3, [.int 0, .ref c14, .ref c15, .ref c16, .int 0, .ref c17, .ref c18, .ref c19, .int 0, .ref c20, .ref c21, .ref c22])), (c2, .inr (0, [.int 0, .ref c23, .ref c24, .ref c25])), (c3, .inr (2, [.ref c26, .ref c27, .ref c28])), (c4, .inr (1, [.ref c29])), (c5, .inl (cI, 6, .inl (fun _ => 0))), (c6, .inl (cI, 6, .inl (fun _ => 0))), (c7, .inl (cI, 6, .inl (zz_m1 6))), (c8, .inl (cI, 6, .inl (fun _ => 0))), (c9, .inl (cI, 6, .inl (fun _ => 0))), (c10, .inl (cI, 6, .inl (fun _ => 0))), (c11, .inl (cI, 16, .inl (fun _ => 0))), (c12, .inl (cI, 16, .inl (fun _ => 0))), (c13, .inl (cI, 96, .inl (zz_m1 96))), (c14, .inl (cI, 6, .inl (fun _ => 0))), (c15, .inl (cI, 6, .inl (fun _ => 0))), (c16, .inl (cI, 6, .inl (zz_m1 6))), (c17, .inl (cI, 6, .inl (fun _ => 0))), (c18, .inl (cI, 6, .inl (fun _ => 0))), (c19, .inl (cI, 6, .inl (fun _ => 0))), (c20, .inl (cI, 16, .inl (fun _ => 0))), (c21, .inl (cI, 16, .inl (fun _ => 0))), (c22, .inl (cI, 96, .inl (zz_m1 96))), (c23, .inl (cI, 6, .inl (fun _ => 0))), (c24, .inl (cI, 6, .inl (fun _ => 0))), (c25, .inl (cI, 256, .inl (fun _ => 0))), (c26, .inl (cI, 6, .inl (fun _ => 0))), (c27, .inl (cI, 6, .inl (fun _ => 0))), (c28, .inl (cI, 6, .inl (fun _ => 0))), (c29, .inl (cI, 6, .inl (fun _ => 0)))] = zz_cells zz_SC cI (fun k => ([qC, c0, c1, c2, c3, c4, c5, c6, c7, c8, c9, c10, c11, c12, c13, c14, c15, c16, c17, c18, c19, c20, c21, c22, c23, c24, c25, c26, c27, c28, c29] : List Nat).getD k 0) zz_MC0 := by
  simp only [zz_cells, zz_SC, List.mapIdx_cons, List.mapIdx_nil, zz_cel, zz_fs, zz_fv]
  rfl
theorem zz_w0R (cI : ClassId) (qR m0 m1 m2 m3 m4 m5 m6 m7 m8 m9 m10 m11 m12 m13 m14 m15 m16 m17 : Nat) : [(qR, .inr (5, [.int 0, .ref m0, .ref m1, .ref m2, .int 0, .ref m3, .ref m4, .ref m5, .int 0, .ref m6, .ref m7, .ref m8, .int 0, .ref m9, .ref m10, .ref m11, .ref m12, .ref m13, .ref m14, .int 0, .int 0, .int 0, .int 0, .ref m15, .ref m16, .int 0, .ref m17])), (m0, .inl (cI, 6, .inl (fun _ => 0))), (m1, .inl (cI, 6, .inl (fun _ => 0))), (m2, .inl (cI, 6, .inl (fun _ => 0))), (m3, .inl (cI, 6, .inl (fun _ => 0))), (m4, .inl (cI, 6, .inl (fun _ => 0))), (m5, .inl (cI, 6, .inl (fun _ => 0))), (m6, .inl (cI, 16, .inl (fun _ => 0))), (m7, .inl (cI, 16, .inl (fun _ => 0))), (m8, .inl (cI, 96, .inl (fun _ => 0))), (m9, .inl (cI, 3, .inl (fun _ => 0))), (m10, .inl (cI, 36, .inl (fun _ => 0))), (m11, .inl (cI, 128, .inl (fun _ => 0))), (m12, .inl (cI, 6, .inl (fun _ => 0))), (m13, .inl (cI, 6, .inl (fun _ => 0))), (m14, .inl (cI, 256, .inl (fun _ => 0))), (m15, .inl (cI, 6, .inl (fun _ => 0))), (m16, .inl (cI, 6, .inl (fun _ => 0))), (m17, .inl (cI, 6, .inl (fun _ => 0)))] = zz_cells zz_SR cI (fun k => ([qR, m0, m1, m2, m3, m4, m5, m6, m7, m8, m9, m10, m11, m12, m13, m14, m15, m16, m17] : List Nat).getD k 0) zz_MR0 := by
  simp only [zz_cells, zz_SR, List.mapIdx_cons, List.mapIdx_nil, zz_cel, zz_fs, zz_fv]
  rfl
