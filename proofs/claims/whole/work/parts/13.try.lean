def f_X0_tryFrom_50 (rc : Int32 → Int32 → zz_Mem → Option zz_Mem) (x2 x3 : Int32) : Nat → Int32 → Int32 → zz_Mem → Option (Int32 × Int32 × zz_Mem)
  | 0, _, _, _ => none
  | n + 1, v4, v5, M => (if (M 1 8) ≤ v5 then some (v4, v5, M) else (if zz_in v5 16 then (if (M 12 v5.toNatClampNeg) = x2 then (if zz_in x2 6 then zz_b2 (f_X0_noiseWithEarlier x2 v5 (zz_up M 25 x2.toNatClampNeg v5)) (fun r10 M9 => zz_b1 (rc (x2 + 1) ((x3 + ((zz_up M 25 x2.toNatClampNeg v5) 13 v5.toNatClampNeg)) + r10) M9) (fun M12 => f_X0_tryFrom_50 rc x2 x3 n 1 (v5 + 1) M12)) else none) else f_X0_tryFrom_50 rc x2 x3 n v4 (v5 + 1) M) else none))
set_option maxHeartbeats 4000000 in
set_option maxRecDepth 100000 in
theorem l_X0_tryFrom_50 {p : Program} {l : Launch} {e : Env} {s : State} {m : MethodId} {args : Array Value} {below : List Frame} {meth : Method} {c : Code} {D : va_G} {cI : ClassId} {ad : Nat → Nat} {dd : Nat} {x2 x3 : Int32} {w : Option Value} {Mf : zz_Mem} (C : zz_C p (zz_rm (dd + 1)) s m args meth c D cI RX0 cX0_tryFrom 6 none 0 0) {rc : Int32 → Int32 → zz_Mem → Option zz_Mem} (hrec : ∀ {a b : Int32} {M M1 : zz_Mem}, rc a b M = some M1 → zz_K l D zz_SC cI ad dd yX0_tryFrom cX0_tryFrom 6 none [.ref (ad 3), .ref (ad 1), .int a, .int b] M none M1) {w4 w5 : Int32} {M1 : zz_Mem} : ∀ {n : Nat} {v4 v5 : Int32} {M : zz_Mem}, f_X0_tryFrom_50 rc x2 x3 n v4 v5 M = some (w4, w5, M1) → zz_V p l e (zz_rm (dd + 1)) s m args below meth c D zz_SC cI ad (zz_A zz_SC ad) 6 0 0 (MQ below (zz_Q D zz_SC cI ad w Mf) args s 0 0 (zz_A zz_SC ad)) 112 [(0, .ref (ad 3)), (1, .ref (ad 1)), (2, .int x2), (3, .int x3), (4, .int w4), (5, .int w5)] [] M1 → zz_V p l e (zz_rm (dd + 1)) s m args below meth c D zz_SC cI ad (zz_A zz_SC ad) 6 0 0 (MQ below (zz_Q D zz_SC cI ad w Mf) args s 0 0 (zz_A zz_SC ad)) 50 [(0, .ref (ad 3)), (1, .ref (ad 1)), (2, .int x2), (3, .int x3), (4, .int v4), (5, .int v5)] [] M := by
  intro n
  induction n with
  | zero =>
    intro v4 v5 M hf
    simp [f_X0_tryFrom_50] at hf
  | succ n ih0 =>
    intro v4 v5 M hf hex
    have ih := fun v4 v5 M hf => @ih0 v4 v5 M hf
    rw [f_X0_tryFrom_50] at hf
    refine zz_iload 52 C dX0_tryFrom_50 rfl 5 rfl ?_
    refine zz_aload_n 53 C dX0_tryFrom_52 rfl 1 rfl ?_
    refine zz_getI 56 C dX0_tryFrom_53 rfl fl_X0_34 sc_1 rfl ?_
    refine zz_icmp_ge 59 112 C dX0_tryFrom_56 rfl rfl hf (fun h4 hf => ?_) (fun h4 hf => ?_)
    · cases hf
      exact zz_sub [0, 1, 2, 3, 4, 5] rfl hex
    · refine zz_aload_n 60 C dX0_tryFrom_59 rfl 1 rfl ?_
      refine zz_getR 63 C dX0_tryFrom_60 rfl fl_X0_52 sc_1 rfl ?_
      refine zz_iload 65 C dX0_tryFrom_63 rfl 5 rfl ?_
      obtain ⟨hi5, hf⟩ := zz_chk hf
      refine zz_iald 66 C sc_12 dX0_tryFrom_65 rfl hi5 ?_
      refine zz_iload_n 67 C dX0_tryFrom_66 rfl 2 rfl ?_
      refine zz_icmp_ne 70 106 C dX0_tryFrom_67 rfl rfl hf (fun h6 hf => ?_) (fun h6 hf => ?_)
      · refine zz_iinc (L' := [(5, .int (v5 + 1)), (0, .ref (ad 3)), (1, .ref (ad 1)), (2, .int x2), (3, .int x3), (4, .int v4)]) 109 C dX0_tryFrom_106 rfl zz_i1 5 rfl (Nat.le_of_ble_eq_true rfl) rfl ?_
        refine zz_goto 50 C dX0_tryFrom_109 rfl ?_
        exact zz_sub [1, 2, 3, 4, 5, 0] rfl (ih _ _ _ hf hex)
      · refine zz_iconst 71 C dX0_tryFrom_70 rfl zz_i1 ?_
        refine zz_istore (L' := [(4, .int 1), (0, .ref (ad 3)), (1, .ref (ad 1)), (2, .int x2), (3, .int x3), (5, .int v5)]) 73 C dX0_tryFrom_71 rfl (Nat.le_of_ble_eq_true rfl) rfl ?_
        refine zz_aload_n 74 C dX0_tryFrom_73 rfl 1 rfl ?_
        refine zz_getR 77 C dX0_tryFrom_74 rfl fl_X0_19 sc_3 rfl ?_
        refine zz_iload_n 78 C dX0_tryFrom_77 rfl 3 rfl ?_
        refine zz_iload 80 C dX0_tryFrom_78 rfl 5 rfl ?_
        obtain ⟨hi7, hf⟩ := zz_chk hf
        refine zz_iast 81 C sc_25 dX0_tryFrom_80 rfl hi7 ?_
        refine zz_aload_n 82 C dX0_tryFrom_81 rfl 1 rfl ?_
        refine zz_aload_n 83 C dX0_tryFrom_82 rfl 2 rfl ?_
        refine zz_iload_n 84 C dX0_tryFrom_83 rfl 3 rfl ?_
        refine zz_iconst 85 C dX0_tryFrom_84 rfl zz_i1 ?_
        refine zz_iadd 86 C dX0_tryFrom_85 rfl ?_
        refine zz_iload_n 87 C dX0_tryFrom_86 rfl 4 rfl ?_
        refine zz_aload_n 88 C dX0_tryFrom_87 rfl 2 rfl ?_
        refine zz_getR 91 C dX0_tryFrom_88 rfl fl_X0_55 sc_1 rfl ?_
        refine zz_iload 93 C dX0_tryFrom_91 rfl 5 rfl ?_
        refine zz_iald 94 C sc_13 dX0_tryFrom_93 rfl hi5 ?_
        refine zz_iadd 95 C dX0_tryFrom_94 rfl ?_
        refine zz_aload_n 96 C dX0_tryFrom_95 rfl 1 rfl ?_
        refine zz_iload_n 97 C dX0_tryFrom_96 rfl 3 rfl ?_
        refine zz_iload 99 C dX0_tryFrom_97 rfl 5 rfl ?_
        obtain ⟨r10, M9, hc8, hf⟩ := zz_b2E hf
        refine zz_callV 102 [.int x2, .int v5] C dX0_tryFrom_99 rfl ml_X0_58 (k_X0_noiseWithEarlier hc8) sc_3 (vC := vwCl[0]) rfl rfl rfl rfl rfl (Nat.le_of_ble_eq_true rfl) (zz_hR (by omega) (Nat.le_of_ble_eq_true rfl)) ?_
        refine zz_iadd 103 C dX0_tryFrom_102 rfl ?_
        obtain ⟨M12, hc11, hf⟩ := zz_b1E hf
        refine zz_callS 106 [.ref (ad 3), .ref (ad 1), .int (x2 + 1), .int ((x3 + ((zz_up M 25 x2.toNatClampNeg v5) 13 v5.toNatClampNeg)) + r10)] C dX0_tryFrom_103 rfl ml_X0_30 (hrec hc11) rfl rfl rfl (Nat.le_of_ble_eq_true rfl) (zz_hR (by omega) (Nat.le_of_ble_eq_true rfl)) ?_
        refine zz_iinc (L' := [(5, .int (v5 + 1)), (4, .int 1), (0, .ref (ad 3)), (1, .ref (ad 1)), (2, .int x2), (3, .int x3)]) 109 C dX0_tryFrom_106 rfl zz_i1 5 rfl (Nat.le_of_ble_eq_true rfl) rfl ?_
        refine zz_goto 50 C dX0_tryFrom_109 rfl ?_
        exact zz_sub [2, 3, 4, 5, 1, 0] rfl (ih _ _ _ hf hex)
def f_X0_tryFrom_b (rc : Int32 → Int32 → zz_Mem → Option zz_Mem) (a2 a3 : Int32) (M : zz_Mem) : Option (zz_Mem) := (if a3 < (M 3 0) then (if (M 1 0) ≤ a2 then some (zz_cp (zz_up M 3 0 a3) 25 24 ((0 : Int32).toNatClampNeg) ((0 : Int32).toNatClampNeg) ((6 : Int32).toNatClampNeg)) else (if a2 < 6 then zz_b3 (f_X0_tryFrom_50 rc a2 a3 5000 0 0 M) (fun w13 w14 M15 => (if w13 = 0 then (if zz_in a2 6 then zz_b1 (rc (a2 + 1) a3 (zz_up M15 25 a2.toNatClampNeg (-1))) (fun M20 => some M20) else none) else some M15)) else some (zz_cp (zz_up M 3 0 a3) 25 24 ((0 : Int32).toNatClampNeg) ((0 : Int32).toNatClampNeg) ((6 : Int32).toNatClampNeg)))) else some M)
set_option maxHeartbeats 4000000 in
set_option maxRecDepth 100000 in
theorem k_X0_tryFrom_b {l : Launch} {D : va_G} {cI : ClassId} {ad : Nat → Nat} {a2 a3 : Int32} {dd : Nat} {rc : Int32 → Int32 → zz_Mem → Option zz_Mem} (hrec : ∀ {a b : Int32} {M M1 : zz_Mem}, rc a b M = some M1 → zz_K l D zz_SC cI ad dd yX0_tryFrom cX0_tryFrom 6 none [.ref (ad 3), .ref (ad 1), .int a, .int b] M none M1) {M M1 : zz_Mem} (hf : f_X0_tryFrom_b rc a2 a3 M = some M1) : zz_K l D zz_SC cI ad (dd + 1) yX0_tryFrom cX0_tryFrom 6 none [.ref (ad 3), .ref (ad 1), .int a2, .int a3] M none M1 := by
  unfold f_X0_tryFrom_b at hf
  refine zz_entry (own := RX0) (L := [(0, .ref (ad 3)), (1, .ref (ad 1)), (2, .int a2), (3, .int a3)]) (by decide +kernel) rfl (Nat.le_of_ble_eq_true rfl) rfl (fun p e s m args below meth c C => ?_)
  refine zz_iload_n 1 C dX0_tryFrom_0 rfl 3 rfl ?_
  refine zz_aload_n 2 C dX0_tryFrom_1 rfl 0 rfl ?_
  refine zz_getI 5 C dX0_tryFrom_2 rfl fl_X0_9 sc_3 rfl ?_
  refine zz_icmp_lt 8 9 C dX0_tryFrom_5 rfl rfl hf (fun h1 hf => ?_) (fun h1 hf => ?_)
  · refine zz_iload_n 10 C dX0_tryFrom_9 rfl 2 rfl ?_
    refine zz_aload_n 11 C dX0_tryFrom_10 rfl 1 rfl ?_
    refine zz_getI 14 C dX0_tryFrom_11 rfl fl_X0_43 sc_1 rfl ?_
    refine zz_icmp_ge 17 23 C dX0_tryFrom_14 rfl rfl hf (fun h2 hf => ?_) (fun h2 hf => ?_)
    · refine zz_aload_n 24 C dX0_tryFrom_23 rfl 0 rfl ?_
      refine zz_iload_n 25 C dX0_tryFrom_24 rfl 3 rfl ?_
      refine zz_putI 28 C dX0_tryFrom_25 rfl fl_X0_9 fs_X0_0 rfl rfl sc_3 rfl ?_
      refine zz_aload_n 29 C dX0_tryFrom_28 rfl 0 rfl ?_
      refine zz_getR 32 C dX0_tryFrom_29 rfl fl_X0_19 sc_3 rfl ?_
      refine zz_iconst 33 C dX0_tryFrom_32 rfl zz_i0 ?_
      refine zz_aload_n 34 C dX0_tryFrom_33 rfl 0 rfl ?_
      refine zz_getR 37 C dX0_tryFrom_34 rfl fl_X0_15 sc_3 rfl ?_
      refine zz_iconst 38 C dX0_tryFrom_37 rfl zz_i0 ?_
      refine zz_bipush 40 C dX0_tryFrom_38 rfl zz_bp6 ?_
      refine zz_copy 43 C dX0_tryFrom_40 rfl cp_X0_46 sc_25 sc_24 (by decide) (zz_hcp (by omega)) ?_
      cases hf
      exact zz_vret C dX0_tryFrom_43 rfl rfl
    · refine zz_iload_n 18 C dX0_tryFrom_17 rfl 2 rfl ?_
      refine zz_bipush 20 C dX0_tryFrom_18 rfl zz_bp6 ?_
      refine zz_icmp_lt 23 44 C dX0_tryFrom_20 rfl rfl hf (fun h3 hf => ?_) (fun h3 hf => ?_)
      · refine zz_iconst 45 C dX0_tryFrom_44 rfl zz_i0 ?_
        refine zz_istore (L' := [(4, .int 0), (0, .ref (ad 3)), (1, .ref (ad 1)), (2, .int a2), (3, .int a3)]) 47 C dX0_tryFrom_45 rfl (Nat.le_of_ble_eq_true rfl) rfl ?_
        refine zz_iconst 48 C dX0_tryFrom_47 rfl zz_i0 ?_
        refine zz_istore (L' := [(5, .int 0), (4, .int 0), (0, .ref (ad 3)), (1, .ref (ad 1)), (2, .int a2), (3, .int a3)]) 50 C dX0_tryFrom_48 rfl (Nat.le_of_ble_eq_true rfl) rfl ?_
        obtain ⟨w13, w14, M15, hc16, hf⟩ := zz_b3E hf
        refine zz_sub [2, 3, 4, 5, 1, 0] rfl (l_X0_tryFrom_50 C hrec hc16 ?_)
        refine zz_iload 114 C dX0_tryFrom_112 rfl 4 rfl ?_
        refine zz_if_ne 117 133 C dX0_tryFrom_114 rfl rfl hf (fun h17 hf => ?_) (fun h17 hf => ?_)
        · cases hf
          exact zz_vret C dX0_tryFrom_133 rfl rfl
        · refine zz_aload_n 118 C dX0_tryFrom_117 rfl 0 rfl ?_
          refine zz_getR 121 C dX0_tryFrom_118 rfl fl_X0_19 sc_3 rfl ?_
          refine zz_iload_n 122 C dX0_tryFrom_121 rfl 2 rfl ?_
          refine zz_iconst 123 C dX0_tryFrom_122 rfl zz_im1 ?_
          obtain ⟨hi18, hf⟩ := zz_chk hf
          refine zz_iast 124 C sc_25 dX0_tryFrom_123 rfl hi18 ?_
          refine zz_aload_n 125 C dX0_tryFrom_124 rfl 0 rfl ?_
          refine zz_aload_n 126 C dX0_tryFrom_125 rfl 1 rfl ?_
          refine zz_iload_n 127 C dX0_tryFrom_126 rfl 2 rfl ?_
          refine zz_iconst 128 C dX0_tryFrom_127 rfl zz_i1 ?_
          refine zz_iadd 129 C dX0_tryFrom_128 rfl ?_
          refine zz_iload_n 130 C dX0_tryFrom_129 rfl 3 rfl ?_
          obtain ⟨M20, hc19, hf⟩ := zz_b1E hf
          refine zz_callS 133 [.ref (ad 3), .ref (ad 1), .int (a2 + 1), .int a3] C dX0_tryFrom_130 rfl ml_X0_30 (hrec hc19) rfl rfl rfl (Nat.le_of_ble_eq_true rfl) (zz_hR (by omega) (Nat.le_of_ble_eq_true rfl)) ?_
          cases hf
          exact zz_vret C dX0_tryFrom_133 rfl rfl
      · refine zz_aload_n 24 C dX0_tryFrom_23 rfl 0 rfl ?_
        refine zz_iload_n 25 C dX0_tryFrom_24 rfl 3 rfl ?_
        refine zz_putI 28 C dX0_tryFrom_25 rfl fl_X0_9 fs_X0_0 rfl rfl sc_3 rfl ?_
        refine zz_aload_n 29 C dX0_tryFrom_28 rfl 0 rfl ?_
        refine zz_getR 32 C dX0_tryFrom_29 rfl fl_X0_19 sc_3 rfl ?_
        refine zz_iconst 33 C dX0_tryFrom_32 rfl zz_i0 ?_
        refine zz_aload_n 34 C dX0_tryFrom_33 rfl 0 rfl ?_
        refine zz_getR 37 C dX0_tryFrom_34 rfl fl_X0_15 sc_3 rfl ?_
        refine zz_iconst 38 C dX0_tryFrom_37 rfl zz_i0 ?_
        refine zz_bipush 40 C dX0_tryFrom_38 rfl zz_bp6 ?_
        refine zz_copy 43 C dX0_tryFrom_40 rfl cp_X0_46 sc_25 sc_24 (by decide) (zz_hcp (by omega)) ?_
        cases hf
        exact zz_vret C dX0_tryFrom_43 rfl rfl
  · cases hf
    exact zz_vret C dX0_tryFrom_8 rfl rfl
def f_X0_tryFrom : Nat → Int32 → Int32 → zz_Mem → Option zz_Mem
  | 0, _, _, _ => none
  | n + 1, a, b, M => f_X0_tryFrom_b (f_X0_tryFrom n) a b M
theorem k_X0_tryFrom {l : Launch} {D : va_G} {cI : ClassId} {ad : Nat → Nat} : ∀ {n : Nat} {a b : Int32} {M M1 : zz_Mem}, f_X0_tryFrom n a b M = some M1 → zz_K l D zz_SC cI ad n yX0_tryFrom cX0_tryFrom 6 none [.ref (ad 3), .ref (ad 1), .int a, .int b] M none M1 := by
  intro n
  induction n with
  | zero =>
    intro a b M M1 hf
    simp [f_X0_tryFrom] at hf
  | succ n ih =>
    intro a b M M1 hf
    rw [f_X0_tryFrom] at hf
    exact k_X0_tryFrom_b (fun h => ih h) hf
def f_X0_find (M : zz_Mem) : Option (zz_Mem) := zz_b1 (f_X0_reckonNoises M) (fun M2 => zz_b1 (f_X0_tryFrom 8 0 0 (zz_up M2 3 0 1000000)) (fun M4 => some M4))
set_option maxHeartbeats 4000000 in
set_option maxRecDepth 100000 in
theorem k_X0_find {l : Launch} {D : va_G} {cI : ClassId} {ad : Nat → Nat} {M M1 : zz_Mem} (hf : f_X0_find M = some M1) : zz_K l D zz_SC cI ad 9 yX0_find cX0_find 2 none [.ref (ad 3), .ref (ad 1)] M none M1 := by
  unfold f_X0_find at hf
  refine zz_entry (own := RX0) (L := [(0, .ref (ad 3)), (1, .ref (ad 1))]) (by decide +kernel) rfl (Nat.le_of_ble_eq_true rfl) rfl (fun p e s m args below meth c C => ?_)
  refine zz_aload_n 1 C dX0_find_0 rfl 0 rfl ?_
  refine zz_aload_n 2 C dX0_find_1 rfl 1 rfl ?_
  obtain ⟨M2, hc1, hf⟩ := zz_b1E hf
  refine zz_callV 5 [.ref (ad 1)] C dX0_find_2 rfl ml_X0_25 (k_X0_reckonNoises hc1) sc_3 (vC := vwCl[0]) rfl rfl rfl rfl rfl (Nat.le_of_ble_eq_true rfl) (zz_hR (Nat.le_of_ble_eq_true rfl) (Nat.le_of_ble_eq_true rfl)) ?_
  refine zz_aload_n 6 C dX0_find_5 rfl 0 rfl ?_
  refine zz_ldc 8 C dX0_find_6 rfl ct_X0_29 ?_
  refine zz_putI 11 C dX0_find_8 rfl fl_X0_9 fs_X0_0 rfl rfl sc_3 rfl ?_
  refine zz_aload_n 12 C dX0_find_11 rfl 0 rfl ?_
  refine zz_aload_n 13 C dX0_find_12 rfl 1 rfl ?_
  refine zz_iconst 14 C dX0_find_13 rfl zz_i0 ?_
  refine zz_iconst 15 C dX0_find_14 rfl zz_i0 ?_
  obtain ⟨M4, hc3, hf⟩ := zz_b1E hf
  refine zz_callS 18 [.ref (ad 3), .ref (ad 1), .int 0, .int 0] C dX0_find_15 rfl ml_X0_30 (k_X0_tryFrom (n := 8) hc3) rfl rfl rfl (Nat.le_of_ble_eq_true rfl) (zz_hR (Nat.le_of_ble_eq_true rfl) (Nat.le_of_ble_eq_true rfl)) ?_
  cases hf
  exact zz_vret C dX0_find_18 rfl rfl
