def f_J7_fill_53178_5 (ka nka : Nat) (x1 x3 : Int32) : Nat → Int32 → zz_Mem → Option (Int32 × zz_Mem)
  | 0, _, _ => none
  | n + 1, v2, M => (if x3 ≤ v2 then some (v2, M) else (if zz_in v2 nka then f_J7_fill_53178_5 ka nka x1 x3 n (v2 + 1) (zz_up M ka v2.toNatClampNeg x1) else none))
set_option maxHeartbeats 4000000 in
set_option maxRecDepth 100000 in
theorem l_J7_fill_53178_5 {p : Program} {l : Launch} {e : Env} {s : State} {m : MethodId} {args : Array Value} {below : List Frame} {meth : Method} {c : Code} {D : va_G} {cI : ClassId} {ad : Nat → Nat} {S : List zz_Sh} {ka nka : Nat} {hka : S[ka]? = some (.inl nka)} {x1 x3 : Int32} {w : Option Value} {Mf : zz_Mem} (C : zz_C p (zz_rm 0) s m args meth c D cI RJ7 cJ7_fill_53178 4 none 0 0) {w2 : Int32} {M1 : zz_Mem} : ∀ {n : Nat} {v2 : Int32} {M : zz_Mem}, f_J7_fill_53178_5 ka nka x1 x3 n v2 M = some (w2, M1) → zz_V p l e (zz_rm 0) s m args below meth c D S cI ad (zz_A S ad) 4 0 0 (MQ below (zz_Q D S cI ad w Mf) args s 0 0 (zz_A S ad)) 20 [(0, .ref (ad ka)), (1, .int x1), (2, .int w2), (3, .int x3)] [] M1 → zz_V p l e (zz_rm 0) s m args below meth c D S cI ad (zz_A S ad) 4 0 0 (MQ below (zz_Q D S cI ad w Mf) args s 0 0 (zz_A S ad)) 5 [(0, .ref (ad ka)), (1, .int x1), (2, .int v2), (3, .int x3)] [] M := by
  intro n
  induction n with
  | zero =>
    intro v2 M hf
    simp [f_J7_fill_53178_5] at hf
  | succ n ih0 =>
    intro v2 M hf hex
    have ih := fun v2 M hf => @ih0 v2 M hf
    rw [f_J7_fill_53178_5] at hf
    refine zz_iload_n 6 C dJ7_fill_53178_5 rfl 2 rfl ?_
    refine zz_iload_n 7 C dJ7_fill_53178_6 rfl 3 rfl ?_
    refine zz_icmp_ge 10 20 C dJ7_fill_53178_7 rfl rfl hf (fun h1 hf => ?_) (fun h1 hf => ?_)
    · cases hf
      exact zz_sub [0, 1, 2, 3] rfl hex
    · refine zz_aload_n 11 C dJ7_fill_53178_10 rfl 0 rfl ?_
      refine zz_iload_n 12 C dJ7_fill_53178_11 rfl 2 rfl ?_
      refine zz_iload_n 13 C dJ7_fill_53178_12 rfl 1 rfl ?_
      obtain ⟨hi2, hf⟩ := zz_chk hf
      refine zz_iast 14 C hka dJ7_fill_53178_13 rfl hi2 ?_
      refine zz_iinc (L' := [(2, .int (v2 + 1)), (0, .ref (ad ka)), (1, .int x1), (3, .int x3)]) 17 C dJ7_fill_53178_14 rfl zz_i1 2 rfl (Nat.le_of_ble_eq_true rfl) rfl ?_
      refine zz_goto 5 C dJ7_fill_53178_17 rfl ?_
      exact zz_sub [1, 2, 0, 3] rfl (ih _ _ hf hex)
def f_J7_fill_53178 (ka nka : Nat) (a1 : Int32) (M : zz_Mem) : Option (zz_Mem) := zz_b2 (f_J7_fill_53178_5 ka nka a1 (Int32.ofNat nka) 5000 0 M) (fun w3 M4 => some M4)
set_option maxHeartbeats 4000000 in
set_option maxRecDepth 100000 in
theorem k_J7_fill_53178 {l : Launch} {D : va_G} {cI : ClassId} {ad : Nat → Nat} {S : List zz_Sh} {ka nka : Nat} {hka : S[ka]? = some (.inl nka)} {a1 : Int32} {M M1 : zz_Mem} (hf : f_J7_fill_53178 ka nka a1 M = some M1) : zz_K l D S cI ad 0 yJ7_fill_53178 cJ7_fill_53178 4 none [.ref (ad ka), .int a1] M none M1 := by
  unfold f_J7_fill_53178 at hf
  refine zz_entry (own := RJ7) (L := [(0, .ref (ad ka)), (1, .int a1)]) (by decide +kernel) rfl (Nat.le_of_ble_eq_true rfl) rfl (fun p e s m args below meth c C => ?_)
  refine zz_iconst 1 C dJ7_fill_53178_0 rfl zz_i0 ?_
  refine zz_istore_n (L' := [(2, .int 0), (0, .ref (ad ka)), (1, .int a1)]) 2 C dJ7_fill_53178_1 rfl (Nat.le_of_ble_eq_true rfl) rfl ?_
  refine zz_aload_n 3 C dJ7_fill_53178_2 rfl 1 rfl ?_
  refine zz_alen 4 C hka dJ7_fill_53178_3 rfl rfl ?_
  refine zz_istore_n (L' := [(3, .int (Int32.ofNat nka)), (2, .int 0), (0, .ref (ad ka)), (1, .int a1)]) 5 C dJ7_fill_53178_4 rfl (Nat.le_of_ble_eq_true rfl) rfl ?_
  obtain ⟨w3, M4, hc5, hf⟩ := zz_b2E hf
  refine zz_sub [2, 3, 1, 0] rfl (l_J7_fill_53178_5 (hka := hka) C  hc5 ?_)
  cases hf
  exact zz_vret C dJ7_fill_53178_20 rfl rfl
