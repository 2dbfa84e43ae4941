section ZR
variable {p : Program} {l : Launch} {e : Env} {R : Room} {s : State} {m : MethodId} {args : Array Value} {below : List Frame} {meth : Method} {c : Code} {D : va_G} {S : List zz_Sh} {cI : ClassId} {ad : Nat → Nat} {A : Nat → Prop} {own : String} {cc : ByteArray} {nL kc ks : Nat} {ret : Option FieldType} {Q : State → Prop} {pc : Nat} {L L' : List (Nat × Value)} {st : List Value} {M : zz_Mem}

theorem zz_iconst (n : Nat) (C : zz_C p R s m args meth c D cI own cc nL ret kc ks) {i : Int} {v : Int32} (hd : decode cc pc = .ok (.iconst i, 1)) (hn : pc + 1 = n) (hv : Int32.ofInt i = v) (kk : zz_V p l e R s m args below meth c D S cI ad A nL kc ks Q n L (.int v :: st) M) : zz_V p l e R s m args below meth c D S cI ad A nL kc ks Q pc L (st) M := by
  subst hn
  exact fun H locs ls hP hD hS hl => lv_iconst C.1 C.2.1 hd hv (kk H locs ls hP hD hS hl)
theorem zz_bipush (n : Nat) (C : zz_C p R s m args meth c D cI own cc nL ret kc ks) {i : Int} {v : Int32} (hd : decode cc pc = .ok (.bipush i, 2)) (hn : pc + 2 = n) (hv : (Int8.ofInt i).toInt32 = v) (kk : zz_V p l e R s m args below meth c D S cI ad A nL kc ks Q n L (.int v :: st) M) : zz_V p l e R s m args below meth c D S cI ad A nL kc ks Q pc L (st) M := by
  subst hn
  exact fun H locs ls hP hD hS hl => lv_bipush C.1 C.2.1 hd hv (kk H locs ls hP hD hS hl)
theorem zz_sipush (n : Nat) (C : zz_C p R s m args meth c D cI own cc nL ret kc ks) {i : Int} {v : Int32} (hd : decode cc pc = .ok (.sipush i, 3)) (hn : pc + 3 = n) (hv : (Int16.ofInt i).toInt32 = v) (kk : zz_V p l e R s m args below meth c D S cI ad A nL kc ks Q n L (.int v :: st) M) : zz_V p l e R s m args below meth c D S cI ad A nL kc ks Q pc L (st) M := by
  subst hn
  exact fun H locs ls hP hD hS hl => lv_sipush C.1 C.2.1 hd hv (kk H locs ls hP hD hS hl)
theorem zz_ldc (n : Nat) (C : zz_C p R s m args meth c D cI own cc nL ret kc ks) {i : Nat} {v : Int32} (hd : decode cc pc = .ok (.ldc i, 2)) (hn : pc + 2 = n) (hv : Cond.constant own i v ∈ zz_gW) (kk : zz_V p l e R s m args below meth c D S cI ad A nL kc ks Q n L (.int v :: st) M) : zz_V p l e R s m args below meth c D S cI ad A nL kc ks Q pc L (st) M := by
  subst hn
  exact fun H locs ls hP hD hS hl => lv_ldc C.1 C.2.1 C.2.2.2.1 (C.2.2.2.2.1 _ hv) hd (kk H locs ls hP hD hS hl)
theorem zz_ldcw (n : Nat) (C : zz_C p R s m args meth c D cI own cc nL ret kc ks) {i : Nat} {v : Int32} (hd : decode cc pc = .ok (.ldc_w i, 3)) (hn : pc + 3 = n) (hv : Cond.constant own i v ∈ zz_gW) (kk : zz_V p l e R s m args below meth c D S cI ad A nL kc ks Q n L (.int v :: st) M) : zz_V p l e R s m args below meth c D S cI ad A nL kc ks Q pc L (st) M := by
  subst hn
  exact fun H locs ls hP hD hS hl => lv_ldcw C.1 C.2.1 C.2.2.2.1 (C.2.2.2.2.1 _ hv) hd (kk H locs ls hP hD hS hl)
theorem zz_iload_n (n : Nat) (C : zz_C p R s m args meth c D cI own cc nL ret kc ks) {k : Fin 4} {v : Int32} (hd : decode cc pc = .ok (.iload_n k, 1)) (hn : pc + 1 = n) (q : Nat) (hq : L[q]? = some ((k : Nat), .int v)) (kk : zz_V p l e R s m args below meth c D S cI ad A nL kc ks Q n L (.int v :: st) M) : zz_V p l e R s m args below meth c D S cI ad A nL kc ks Q pc L (st) M := by
  subst hn
  exact fun H locs ls hP hD hS hl => lv_iload_n C.1 C.2.1 hd rfl (lv_at hl q hq) (kk H locs ls hP hD hS hl)
theorem zz_iload (n : Nat) (C : zz_C p R s m args meth c D cI own cc nL ret kc ks) {i : Nat} {v : Int32} (hd : decode cc pc = .ok (.iload i, 2)) (hn : pc + 2 = n) (q : Nat) (hq : L[q]? = some (i, .int v)) (kk : zz_V p l e R s m args below meth c D S cI ad A nL kc ks Q n L (.int v :: st) M) : zz_V p l e R s m args below meth c D S cI ad A nL kc ks Q pc L (st) M := by
  subst hn
  exact fun H locs ls hP hD hS hl => lv_iload C.1 C.2.1 hd (lv_at hl q hq) (kk H locs ls hP hD hS hl)
theorem zz_aload_n (n : Nat) (C : zz_C p R s m args meth c D cI own cc nL ret kc ks) {k : Fin 4} {v : Nat} (hd : decode cc pc = .ok (.aload_n k, 1)) (hn : pc + 1 = n) (q : Nat) (hq : L[q]? = some ((k : Nat), .ref v)) (kk : zz_V p l e R s m args below meth c D S cI ad A nL kc ks Q n L (.ref v :: st) M) : zz_V p l e R s m args below meth c D S cI ad A nL kc ks Q pc L (st) M := by
  subst hn
  exact fun H locs ls hP hD hS hl => lv_aload_n C.1 C.2.1 hd rfl (lv_at hl q hq) (kk H locs ls hP hD hS hl)
theorem zz_aload (n : Nat) (C : zz_C p R s m args meth c D cI own cc nL ret kc ks) {i : Nat} {v : Nat} (hd : decode cc pc = .ok (.aload i, 2)) (hn : pc + 2 = n) (q : Nat) (hq : L[q]? = some (i, .ref v)) (kk : zz_V p l e R s m args below meth c D S cI ad A nL kc ks Q n L (.ref v :: st) M) : zz_V p l e R s m args below meth c D S cI ad A nL kc ks Q pc L (st) M := by
  subst hn
  exact fun H locs ls hP hD hS hl => lv_aload C.1 C.2.1 hd (lv_at hl q hq) (kk H locs ls hP hD hS hl)
theorem zz_iadd (n : Nat) (C : zz_C p R s m args meth c D cI own cc nL ret kc ks) {x y : Int32} (hd : decode cc pc = .ok (.iadd, 1)) (hn : pc + 1 = n)  (kk : zz_V p l e R s m args below meth c D S cI ad A nL kc ks Q n L (.int (x + y) :: st) M) : zz_V p l e R s m args below meth c D S cI ad A nL kc ks Q pc L (.int y :: .int x :: st) M := by
  subst hn
  exact fun H locs ls hP hD hS hl => lv_iadd C.1 C.2.1 hd (kk H locs ls hP hD hS hl)
theorem zz_isub (n : Nat) (C : zz_C p R s m args meth c D cI own cc nL ret kc ks) {x y : Int32} (hd : decode cc pc = .ok (.isub, 1)) (hn : pc + 1 = n)  (kk : zz_V p l e R s m args below meth c D S cI ad A nL kc ks Q n L (.int (x - y) :: st) M) : zz_V p l e R s m args below meth c D S cI ad A nL kc ks Q pc L (.int y :: .int x :: st) M := by
  subst hn
  exact fun H locs ls hP hD hS hl => lv_isub C.1 C.2.1 hd (kk H locs ls hP hD hS hl)
theorem zz_imul (n : Nat) (C : zz_C p R s m args meth c D cI own cc nL ret kc ks) {x y : Int32} (hd : decode cc pc = .ok (.imul, 1)) (hn : pc + 1 = n)  (kk : zz_V p l e R s m args below meth c D S cI ad A nL kc ks Q n L (.int (x * y) :: st) M) : zz_V p l e R s m args below meth c D S cI ad A nL kc ks Q pc L (.int y :: .int x :: st) M := by
  subst hn
  exact fun H locs ls hP hD hS hl => lv_imul C.1 C.2.1 hd (kk H locs ls hP hD hS hl)
theorem zz_iand (n : Nat) (C : zz_C p R s m args meth c D cI own cc nL ret kc ks) {x y : Int32} (hd : decode cc pc = .ok (.iand, 1)) (hn : pc + 1 = n)  (kk : zz_V p l e R s m args below meth c D S cI ad A nL kc ks Q n L (.int (x &&& y) :: st) M) : zz_V p l e R s m args below meth c D S cI ad A nL kc ks Q pc L (.int y :: .int x :: st) M := by
  subst hn
  exact fun H locs ls hP hD hS hl => lv_iand C.1 C.2.1 hd (kk H locs ls hP hD hS hl)
theorem zz_ior (n : Nat) (C : zz_C p R s m args meth c D cI own cc nL ret kc ks) {x y : Int32} (hd : decode cc pc = .ok (.ior, 1)) (hn : pc + 1 = n)  (kk : zz_V p l e R s m args below meth c D S cI ad A nL kc ks Q n L (.int (x ||| y) :: st) M) : zz_V p l e R s m args below meth c D S cI ad A nL kc ks Q pc L (.int y :: .int x :: st) M := by
  subst hn
  exact fun H locs ls hP hD hS hl => lv_ior C.1 C.2.1 hd (kk H locs ls hP hD hS hl)
theorem zz_ixor (n : Nat) (C : zz_C p R s m args meth c D cI own cc nL ret kc ks) {x y : Int32} (hd : decode cc pc = .ok (.ixor, 1)) (hn : pc + 1 = n)  (kk : zz_V p l e R s m args below meth c D S cI ad A nL kc ks Q n L (.int (x ^^^ y) :: st) M) : zz_V p l e R s m args below meth c D S cI ad A nL kc ks Q pc L (.int y :: .int x :: st) M := by
  subst hn
  exact fun H locs ls hP hD hS hl => lv_ixor C.1 C.2.1 hd (kk H locs ls hP hD hS hl)
theorem zz_ishl (n : Nat) (C : zz_C p R s m args meth c D cI own cc nL ret kc ks) {x y : Int32} (hd : decode cc pc = .ok (.ishl, 1)) (hn : pc + 1 = n)  (kk : zz_V p l e R s m args below meth c D S cI ad A nL kc ks Q n L (.int (x <<< (y &&& 31)) :: st) M) : zz_V p l e R s m args below meth c D S cI ad A nL kc ks Q pc L (.int y :: .int x :: st) M := by
  subst hn
  exact fun H locs ls hP hD hS hl => lv_ishl C.1 C.2.1 hd (kk H locs ls hP hD hS hl)
theorem zz_ishr (n : Nat) (C : zz_C p R s m args meth c D cI own cc nL ret kc ks) {x y : Int32} (hd : decode cc pc = .ok (.ishr, 1)) (hn : pc + 1 = n)  (kk : zz_V p l e R s m args below meth c D S cI ad A nL kc ks Q n L (.int (x >>> (y &&& 31)) :: st) M) : zz_V p l e R s m args below meth c D S cI ad A nL kc ks Q pc L (.int y :: .int x :: st) M := by
  subst hn
  exact fun H locs ls hP hD hS hl => lv_ishr C.1 C.2.1 hd (kk H locs ls hP hD hS hl)
theorem zz_iushr (n : Nat) (C : zz_C p R s m args meth c D cI own cc nL ret kc ks) {x y : Int32} (hd : decode cc pc = .ok (.iushr, 1)) (hn : pc + 1 = n)  (kk : zz_V p l e R s m args below meth c D S cI ad A nL kc ks Q n L (.int ((x.toUInt32 >>> (y.toUInt32 &&& Int32.toUInt32 31)).toInt32) :: st) M) : zz_V p l e R s m args below meth c D S cI ad A nL kc ks Q pc L (.int y :: .int x :: st) M := by
  subst hn
  exact fun H locs ls hP hD hS hl => lv_iushr C.1 C.2.1 hd rfl (kk H locs ls hP hD hS hl)
theorem zz_dup (n : Nat) (C : zz_C p R s m args meth c D cI own cc nL ret kc ks) {v : Value} (hd : decode cc pc = .ok (.dup, 1)) (hn : pc + 1 = n) (hv : v.category = 1) (kk : zz_V p l e R s m args below meth c D S cI ad A nL kc ks Q n L (v :: v :: st) M) : zz_V p l e R s m args below meth c D S cI ad A nL kc ks Q pc L (v :: st) M := by
  subst hn
  exact fun H locs ls hP hD hS hl => lv_dup C.1 C.2.1 hd hv (kk H locs ls hP hD hS hl)
theorem zz_dup2 (n : Nat) (C : zz_C p R s m args meth c D cI own cc nL ret kc ks) {v w : Value} (hd : decode cc pc = .ok (.dup2, 1)) (hn : pc + 1 = n) (hv : v.category = 1) (hw : w.category = 1) (kk : zz_V p l e R s m args below meth c D S cI ad A nL kc ks Q n L (v :: w :: v :: w :: st) M) : zz_V p l e R s m args below meth c D S cI ad A nL kc ks Q pc L (v :: w :: st) M := by
  subst hn
  exact fun H locs ls hP hD hS hl => lv_dup2_11 C.1 C.2.1 hd hv hw (kk H locs ls hP hD hS hl)
theorem zz_pop (n : Nat) (C : zz_C p R s m args meth c D cI own cc nL ret kc ks) {v : Value} (hd : decode cc pc = .ok (.pop, 1)) (hn : pc + 1 = n) (hv : v.category = 1) (kk : zz_V p l e R s m args below meth c D S cI ad A nL kc ks Q n L (st) M) : zz_V p l e R s m args below meth c D S cI ad A nL kc ks Q pc L (v :: st) M := by
  subst hn
  exact fun H locs ls hP hD hS hl => lv_pop C.1 C.2.1 hd hv (kk H locs ls hP hD hS hl)
theorem zz_istore_n (n : Nat) (C : zz_C p R s m args meth c D cI own cc nL ret kc ks) {k : Fin 4} {v : Int32} (hd : decode cc pc = .ok (.istore_n k, 1)) (hn : pc + 1 = n) (hi : (k : Nat) < nL) (hL : ((k : Nat), Value.int v) :: L.filter (fun q : Nat × Value => !(q.1 == (k : Nat)) && !(q.1 + 1 == (k : Nat) && q.2.category == 2)) = L') (kk : zz_V p l e R s m args below meth c D S cI ad A nL kc ks Q n L' st M) : zz_V p l e R s m args below meth c D S cI ad A nL kc ks Q pc L (.int v :: st) M := by
  subst hn
  exact fun H locs ls hP hD hS hl => lv_istore_n C.1 C.2.1 hd rfl hl hi hL (fun ls' hl' => kk H locs ls' hP hD hS hl')
theorem zz_istore (n : Nat) (C : zz_C p R s m args meth c D cI own cc nL ret kc ks) {i : Nat} {v : Int32} (hd : decode cc pc = .ok (.istore i, 2)) (hn : pc + 2 = n) (hi : i < nL) (hL : (i, Value.int v) :: L.filter (fun q : Nat × Value => !(q.1 == i) && !(q.1 + 1 == i && q.2.category == 2)) = L') (kk : zz_V p l e R s m args below meth c D S cI ad A nL kc ks Q n L' st M) : zz_V p l e R s m args below meth c D S cI ad A nL kc ks Q pc L (.int v :: st) M := by
  subst hn
  exact fun H locs ls hP hD hS hl => lv_istore C.1 C.2.1 hd hl hi hL (fun ls' hl' => kk H locs ls' hP hD hS hl')
theorem zz_iinc (n : Nat) (C : zz_C p R s m args meth c D cI own cc nL ret kc ks) {i : Nat} {w : Int} {v z : Int32} (hd : decode cc pc = .ok (.iinc i w, 3)) (hn : pc + 3 = n) (hz : Int32.ofInt w = z) (q : Nat) (hq : L[q]? = some (i, .int v)) (hi : i < nL) (hL : (i, Value.int (v + z)) :: L.filter (fun q : Nat × Value => !(q.1 == i) && !(q.1 + 1 == i && q.2.category == 2)) = L') (kk : zz_V p l e R s m args below meth c D S cI ad A nL kc ks Q n L' st M) : zz_V p l e R s m args below meth c D S cI ad A nL kc ks Q pc L st M := by
  subst hn; subst hz
  exact fun H locs ls hP hD hS hl => lv_iinc C.1 C.2.1 hd hl hq rfl hi hL (fun ls' hl' => kk H locs ls' hP hD hS hl')
theorem zz_goto (n : Nat) (C : zz_C p R s m args meth c D cI own cc nL ret kc ks) {off : Int} (hd : decode cc pc = .ok (.goto off, 3)) (hn : (pc : Int) + off = (n : Int)) (kk : zz_V p l e R s m args below meth c D S cI ad A nL kc ks Q n L st M) : zz_V p l e R s m args below meth c D S cI ad A nL kc ks Q pc L st M :=
  fun H locs ls hP hD hS hl => lv_goto C.1 C.2.1 hd hn (kk H locs ls hP hD hS hl)
theorem zz_if_eq {α : Type} {a b : Option α} {r : α} (n t : Nat) (C : zz_C p R s m args meth c D cI own cc nL ret kc ks) {x : Int32} {off : Int} (hd : decode cc pc = .ok (.ifCond .eq off, 3)) (hn : pc + 3 = n) (ht : (pc : Int) + off = (t : Int)) (hf : (if x = 0 then a else b) = some r) (kt : x = 0 → a = some r → zz_V p l e R s m args below meth c D S cI ad A nL kc ks Q t L st M) (kf : ¬ x = 0 → b = some r → zz_V p l e R s m args below meth c D S cI ad A nL kc ks Q n L st M) : zz_V p l e R s m args below meth c D S cI ad A nL kc ks Q pc L (.int x :: st) M := by
  subst hn
  exact fun H locs ls hP hD hS hl => lv_if_eq C.1 C.2.1 hd ht (fun h => kt h (by rwa [if_pos h] at hf) H locs ls hP hD hS hl) (fun h => kf h (by rwa [if_neg h] at hf) H locs ls hP hD hS hl)
theorem zz_icmp_eq {α : Type} {a b : Option α} {r : α} (n t : Nat) (C : zz_C p R s m args meth c D cI own cc nL ret kc ks) {x y : Int32} {off : Int} (hd : decode cc pc = .ok (.if_icmp .eq off, 3)) (hn : pc + 3 = n) (ht : (pc : Int) + off = (t : Int)) (hf : (if x = y then a else b) = some r) (kt : x = y → a = some r → zz_V p l e R s m args below meth c D S cI ad A nL kc ks Q t L st M) (kf : ¬ x = y → b = some r → zz_V p l e R s m args below meth c D S cI ad A nL kc ks Q n L st M) : zz_V p l e R s m args below meth c D S cI ad A nL kc ks Q pc L (.int y :: .int x :: st) M := by
  subst hn
  exact fun H locs ls hP hD hS hl => lv_icmp_eq C.1 C.2.1 hd ht (fun h => kt h (by rwa [if_pos h] at hf) H locs ls hP hD hS hl) (fun h => kf h (by rwa [if_neg h] at hf) H locs ls hP hD hS hl)
theorem zz_if_ne {α : Type} {a b : Option α} {r : α} (n t : Nat) (C : zz_C p R s m args meth c D cI own cc nL ret kc ks) {x : Int32} {off : Int} (hd : decode cc pc = .ok (.ifCond .ne off, 3)) (hn : pc + 3 = n) (ht : (pc : Int) + off = (t : Int)) (hf : (if x = 0 then a else b) = some r) (kt : ¬ x = 0 → b = some r → zz_V p l e R s m args below meth c D S cI ad A nL kc ks Q t L st M) (kf : x = 0 → a = some r → zz_V p l e R s m args below meth c D S cI ad A nL kc ks Q n L st M) : zz_V p l e R s m args below meth c D S cI ad A nL kc ks Q pc L (.int x :: st) M := by
  subst hn
  exact fun H locs ls hP hD hS hl => lv_if_ne C.1 C.2.1 hd ht (fun h => kt h (by rwa [if_neg h] at hf) H locs ls hP hD hS hl) (fun h => kf h (by rwa [if_pos h] at hf) H locs ls hP hD hS hl)
theorem zz_icmp_ne {α : Type} {a b : Option α} {r : α} (n t : Nat) (C : zz_C p R s m args meth c D cI own cc nL ret kc ks) {x y : Int32} {off : Int} (hd : decode cc pc = .ok (.if_icmp .ne off, 3)) (hn : pc + 3 = n) (ht : (pc : Int) + off = (t : Int)) (hf : (if x = y then a else b) = some r) (kt : ¬ x = y → b = some r → zz_V p l e R s m args below meth c D S cI ad A nL kc ks Q t L st M) (kf : x = y → a = some r → zz_V p l e R s m args below meth c D S cI ad A nL kc ks Q n L st M) : zz_V p l e R s m args below meth c D S cI ad A nL kc ks Q pc L (.int y :: .int x :: st) M := by
  subst hn
  exact fun H locs ls hP hD hS hl => lv_icmp_ne C.1 C.2.1 hd ht (fun h => kt h (by rwa [if_neg h] at hf) H locs ls hP hD hS hl) (fun h => kf h (by rwa [if_pos h] at hf) H locs ls hP hD hS hl)
theorem zz_if_lt {α : Type} {a b : Option α} {r : α} (n t : Nat) (C : zz_C p R s m args meth c D cI own cc nL ret kc ks) {x : Int32} {off : Int} (hd : decode cc pc = .ok (.ifCond .lt off, 3)) (hn : pc + 3 = n) (ht : (pc : Int) + off = (t : Int)) (hf : (if x < 0 then a else b) = some r) (kt : x < 0 → a = some r → zz_V p l e R s m args below meth c D S cI ad A nL kc ks Q t L st M) (kf : ¬ x < 0 → b = some r → zz_V p l e R s m args below meth c D S cI ad A nL kc ks Q n L st M) : zz_V p l e R s m args below meth c D S cI ad A nL kc ks Q pc L (.int x :: st) M := by
  subst hn
  exact fun H locs ls hP hD hS hl => lv_if_lt C.1 C.2.1 hd ht (fun h => kt h (by rwa [if_pos h] at hf) H locs ls hP hD hS hl) (fun h => kf h (by rwa [if_neg h] at hf) H locs ls hP hD hS hl)
theorem zz_icmp_lt {α : Type} {a b : Option α} {r : α} (n t : Nat) (C : zz_C p R s m args meth c D cI own cc nL ret kc ks) {x y : Int32} {off : Int} (hd : decode cc pc = .ok (.if_icmp .lt off, 3)) (hn : pc + 3 = n) (ht : (pc : Int) + off = (t : Int)) (hf : (if x < y then a else b) = some r) (kt : x < y → a = some r → zz_V p l e R s m args below meth c D S cI ad A nL kc ks Q t L st M) (kf : ¬ x < y → b = some r → zz_V p l e R s m args below meth c D S cI ad A nL kc ks Q n L st M) : zz_V p l e R s m args below meth c D S cI ad A nL kc ks Q pc L (.int y :: .int x :: st) M := by
  subst hn
  exact fun H locs ls hP hD hS hl => lv_icmp_lt C.1 C.2.1 hd ht (fun h => kt h (by rwa [if_pos h] at hf) H locs ls hP hD hS hl) (fun h => kf h (by rwa [if_neg h] at hf) H locs ls hP hD hS hl)
theorem zz_if_ge {α : Type} {a b : Option α} {r : α} (n t : Nat) (C : zz_C p R s m args meth c D cI own cc nL ret kc ks) {x : Int32} {off : Int} (hd : decode cc pc = .ok (.ifCond .ge off, 3)) (hn : pc + 3 = n) (ht : (pc : Int) + off = (t : Int)) (hf : (if 0 ≤ x then a else b) = some r) (kt : 0 ≤ x → a = some r → zz_V p l e R s m args below meth c D S cI ad A nL kc ks Q t L st M) (kf : ¬ 0 ≤ x → b = some r → zz_V p l e R s m args below meth c D S cI ad A nL kc ks Q n L st M) : zz_V p l e R s m args below meth c D S cI ad A nL kc ks Q pc L (.int x :: st) M := by
  subst hn
  exact fun H locs ls hP hD hS hl => lv_if_ge C.1 C.2.1 hd ht (fun h => kt h (by rwa [if_pos h] at hf) H locs ls hP hD hS hl) (fun h => kf h (by rwa [if_neg h] at hf) H locs ls hP hD hS hl)
theorem zz_icmp_ge {α : Type} {a b : Option α} {r : α} (n t : Nat) (C : zz_C p R s m args meth c D cI own cc nL ret kc ks) {x y : Int32} {off : Int} (hd : decode cc pc = .ok (.if_icmp .ge off, 3)) (hn : pc + 3 = n) (ht : (pc : Int) + off = (t : Int)) (hf : (if y ≤ x then a else b) = some r) (kt : y ≤ x → a = some r → zz_V p l e R s m args below meth c D S cI ad A nL kc ks Q t L st M) (kf : ¬ y ≤ x → b = some r → zz_V p l e R s m args below meth c D S cI ad A nL kc ks Q n L st M) : zz_V p l e R s m args below meth c D S cI ad A nL kc ks Q pc L (.int y :: .int x :: st) M := by
  subst hn
  exact fun H locs ls hP hD hS hl => lv_icmp_ge C.1 C.2.1 hd ht (fun h => kt h (by rwa [if_pos h] at hf) H locs ls hP hD hS hl) (fun h => kf h (by rwa [if_neg h] at hf) H locs ls hP hD hS hl)
theorem zz_if_gt {α : Type} {a b : Option α} {r : α} (n t : Nat) (C : zz_C p R s m args meth c D cI own cc nL ret kc ks) {x : Int32} {off : Int} (hd : decode cc pc = .ok (.ifCond .gt off, 3)) (hn : pc + 3 = n) (ht : (pc : Int) + off = (t : Int)) (hf : (if 0 < x then a else b) = some r) (kt : 0 < x → a = some r → zz_V p l e R s m args below meth c D S cI ad A nL kc ks Q t L st M) (kf : ¬ 0 < x → b = some r → zz_V p l e R s m args below meth c D S cI ad A nL kc ks Q n L st M) : zz_V p l e R s m args below meth c D S cI ad A nL kc ks Q pc L (.int x :: st) M := by
  subst hn
  exact fun H locs ls hP hD hS hl => lv_if_gt C.1 C.2.1 hd ht (fun h => kt h (by rwa [if_pos h] at hf) H locs ls hP hD hS hl) (fun h => kf h (by rwa [if_neg h] at hf) H locs ls hP hD hS hl)
theorem zz_icmp_gt {α : Type} {a b : Option α} {r : α} (n t : Nat) (C : zz_C p R s m args meth c D cI own cc nL ret kc ks) {x y : Int32} {off : Int} (hd : decode cc pc = .ok (.if_icmp .gt off, 3)) (hn : pc + 3 = n) (ht : (pc : Int) + off = (t : Int)) (hf : (if y < x then a else b) = some r) (kt : y < x → a = some r → zz_V p l e R s m args below meth c D S cI ad A nL kc ks Q t L st M) (kf : ¬ y < x → b = some r → zz_V p l e R s m args below meth c D S cI ad A nL kc ks Q n L st M) : zz_V p l e R s m args below meth c D S cI ad A nL kc ks Q pc L (.int y :: .int x :: st) M := by
  subst hn
  exact fun H locs ls hP hD hS hl => lv_icmp_gt C.1 C.2.1 hd ht (fun h => kt h (by rwa [if_pos h] at hf) H locs ls hP hD hS hl) (fun h => kf h (by rwa [if_neg h] at hf) H locs ls hP hD hS hl)
theorem zz_if_le {α : Type} {a b : Option α} {r : α} (n t : Nat) (C : zz_C p R s m args meth c D cI own cc nL ret kc ks) {x : Int32} {off : Int} (hd : decode cc pc = .ok (.ifCond .le off, 3)) (hn : pc + 3 = n) (ht : (pc : Int) + off = (t : Int)) (hf : (if x ≤ 0 then a else b) = some r) (kt : x ≤ 0 → a = some r → zz_V p l e R s m args below meth c D S cI ad A nL kc ks Q t L st M) (kf : ¬ x ≤ 0 → b = some r → zz_V p l e R s m args below meth c D S cI ad A nL kc ks Q n L st M) : zz_V p l e R s m args below meth c D S cI ad A nL kc ks Q pc L (.int x :: st) M := by
  subst hn
  exact fun H locs ls hP hD hS hl => lv_if_le C.1 C.2.1 hd ht (fun h => kt h (by rwa [if_pos h] at hf) H locs ls hP hD hS hl) (fun h => kf h (by rwa [if_neg h] at hf) H locs ls hP hD hS hl)
theorem zz_icmp_le {α : Type} {a b : Option α} {r : α} (n t : Nat) (C : zz_C p R s m args meth c D cI own cc nL ret kc ks) {x y : Int32} {off : Int} (hd : decode cc pc = .ok (.if_icmp .le off, 3)) (hn : pc + 3 = n) (ht : (pc : Int) + off = (t : Int)) (hf : (if x ≤ y then a else b) = some r) (kt : x ≤ y → a = some r → zz_V p l e R s m args below meth c D S cI ad A nL kc ks Q t L st M) (kf : ¬ x ≤ y → b = some r → zz_V p l e R s m args below meth c D S cI ad A nL kc ks Q n L st M) : zz_V p l e R s m args below meth c D S cI ad A nL kc ks Q pc L (.int y :: .int x :: st) M := by
  subst hn
  exact fun H locs ls hP hD hS hl => lv_icmp_le C.1 C.2.1 hd ht (fun h => kt h (by rwa [if_pos h] at hf) H locs ls hP hD hS hl) (fun h => kf h (by rwa [if_neg h] at hf) H locs ls hP hD hS hl)
theorem zz_if_eqT (t : Nat) (C : zz_C p R s m args meth c D cI own cc nL ret kc ks) {x : Int32} {off : Int} (hd : decode cc pc = .ok (.ifCond .eq off, 3)) (ht : (pc : Int) + off = (t : Int)) (hp : x = 0) (kt : zz_V p l e R s m args below meth c D S cI ad A nL kc ks Q t L st M) : zz_V p l e R s m args below meth c D S cI ad A nL kc ks Q pc L (.int x :: st) M :=
  fun H locs ls hP hD hS hl => lv_if_eq C.1 C.2.1 hd ht (fun _ => kt H locs ls hP hD hS hl) (fun h => absurd hp (by simp [h]))
theorem zz_if_eqF (n t : Nat) (C : zz_C p R s m args meth c D cI own cc nL ret kc ks) {x : Int32} {off : Int} (hd : decode cc pc = .ok (.ifCond .eq off, 3)) (hn : pc + 3 = n) (ht : (pc : Int) + off = (t : Int)) (hp : ¬ (x = 0)) (kf : zz_V p l e R s m args below meth c D S cI ad A nL kc ks Q n L st M) : zz_V p l e R s m args below meth c D S cI ad A nL kc ks Q pc L (.int x :: st) M := by
  subst hn
  exact fun H locs ls hP hD hS hl => lv_if_eq C.1 C.2.1 hd ht (fun h => absurd h hp) (fun _ => kf H locs ls hP hD hS hl)
theorem zz_icmp_eqT (t : Nat) (C : zz_C p R s m args meth c D cI own cc nL ret kc ks) {x y : Int32} {off : Int} (hd : decode cc pc = .ok (.if_icmp .eq off, 3)) (ht : (pc : Int) + off = (t : Int)) (hp : x = y) (kt : zz_V p l e R s m args below meth c D S cI ad A nL kc ks Q t L st M) : zz_V p l e R s m args below meth c D S cI ad A nL kc ks Q pc L (.int y :: .int x :: st) M :=
  fun H locs ls hP hD hS hl => lv_icmp_eq C.1 C.2.1 hd ht (fun _ => kt H locs ls hP hD hS hl) (fun h => absurd hp (by simp [h]))
theorem zz_icmp_eqF (n t : Nat) (C : zz_C p R s m args meth c D cI own cc nL ret kc ks) {x y : Int32} {off : Int} (hd : decode cc pc = .ok (.if_icmp .eq off, 3)) (hn : pc + 3 = n) (ht : (pc : Int) + off = (t : Int)) (hp : ¬ (x = y)) (kf : zz_V p l e R s m args below meth c D S cI ad A nL kc ks Q n L st M) : zz_V p l e R s m args below meth c D S cI ad A nL kc ks Q pc L (.int y :: .int x :: st) M := by
  subst hn
  exact fun H locs ls hP hD hS hl => lv_icmp_eq C.1 C.2.1 hd ht (fun h => absurd h hp) (fun _ => kf H locs ls hP hD hS hl)
theorem zz_if_neT (t : Nat) (C : zz_C p R s m args meth c D cI own cc nL ret kc ks) {x : Int32} {off : Int} (hd : decode cc pc = .ok (.ifCond .ne off, 3)) (ht : (pc : Int) + off = (t : Int)) (hp : ¬ x = 0) (kt : zz_V p l e R s m args below meth c D S cI ad A nL kc ks Q t L st M) : zz_V p l e R s m args below meth c D S cI ad A nL kc ks Q pc L (.int x :: st) M :=
  fun H locs ls hP hD hS hl => lv_if_ne C.1 C.2.1 hd ht (fun _ => kt H locs ls hP hD hS hl) (fun h => absurd hp (by simp [h]))
theorem zz_if_neF (n t : Nat) (C : zz_C p R s m args meth c D cI own cc nL ret kc ks) {x : Int32} {off : Int} (hd : decode cc pc = .ok (.ifCond .ne off, 3)) (hn : pc + 3 = n) (ht : (pc : Int) + off = (t : Int)) (hp : ¬ (¬ x = 0)) (kf : zz_V p l e R s m args below meth c D S cI ad A nL kc ks Q n L st M) : zz_V p l e R s m args below meth c D S cI ad A nL kc ks Q pc L (.int x :: st) M := by
  subst hn
  exact fun H locs ls hP hD hS hl => lv_if_ne C.1 C.2.1 hd ht (fun h => absurd h hp) (fun _ => kf H locs ls hP hD hS hl)
theorem zz_icmp_neT (t : Nat) (C : zz_C p R s m args meth c D cI own cc nL ret kc ks) {x y : Int32} {off : Int} (hd : decode cc pc = .ok (.if_icmp .ne off, 3)) (ht : (pc : Int) + off = (t : Int)) (hp : ¬ x = y) (kt : zz_V p l e R s m args below meth c D S cI ad A nL kc ks Q t L st M) : zz_V p l e R s m args below meth c D S cI ad A nL kc ks Q pc L (.int y :: .int x :: st) M :=
  fun H locs ls hP hD hS hl => lv_icmp_ne C.1 C.2.1 hd ht (fun _ => kt H locs ls hP hD hS hl) (fun h => absurd hp (by simp [h]))
theorem zz_icmp_neF (n t : Nat) (C : zz_C p R s m args meth c D cI own cc nL ret kc ks) {x y : Int32} {off : Int} (hd : decode cc pc = .ok (.if_icmp .ne off, 3)) (hn : pc + 3 = n) (ht : (pc : Int) + off = (t : Int)) (hp : ¬ (¬ x = y)) (kf : zz_V p l e R s m args below meth c D S cI ad A nL kc ks Q n L st M) : zz_V p l e R s m args below meth c D S cI ad A nL kc ks Q pc L (.int y :: .int x :: st) M := by
  subst hn
  exact fun H locs ls hP hD hS hl => lv_icmp_ne C.1 C.2.1 hd ht (fun h => absurd h hp) (fun _ => kf H locs ls hP hD hS hl)
theorem zz_if_ltT (t : Nat) (C : zz_C p R s m args meth c D cI own cc nL ret kc ks) {x : Int32} {off : Int} (hd : decode cc pc = .ok (.ifCond .lt off, 3)) (ht : (pc : Int) + off = (t : Int)) (hp : x < 0) (kt : zz_V p l e R s m args below meth c D S cI ad A nL kc ks Q t L st M) : zz_V p l e R s m args below meth c D S cI ad A nL kc ks Q pc L (.int x :: st) M :=
  fun H locs ls hP hD hS hl => lv_if_lt C.1 C.2.1 hd ht (fun _ => kt H locs ls hP hD hS hl) (fun h => absurd hp (by simp [h]))
theorem zz_if_ltF (n t : Nat) (C : zz_C p R s m args meth c D cI own cc nL ret kc ks) {x : Int32} {off : Int} (hd : decode cc pc = .ok (.ifCond .lt off, 3)) (hn : pc + 3 = n) (ht : (pc : Int) + off = (t : Int)) (hp : ¬ (x < 0)) (kf : zz_V p l e R s m args below meth c D S cI ad A nL kc ks Q n L st M) : zz_V p l e R s m args below meth c D S cI ad A nL kc ks Q pc L (.int x :: st) M := by
  subst hn
  exact fun H locs ls hP hD hS hl => lv_if_lt C.1 C.2.1 hd ht (fun h => absurd h hp) (fun _ => kf H locs ls hP hD hS hl)
theorem zz_icmp_ltT (t : Nat) (C : zz_C p R s m args meth c D cI own cc nL ret kc ks) {x y : Int32} {off : Int} (hd : decode cc pc = .ok (.if_icmp .lt off, 3)) (ht : (pc : Int) + off = (t : Int)) (hp : x < y) (kt : zz_V p l e R s m args below meth c D S cI ad A nL kc ks Q t L st M) : zz_V p l e R s m args below meth c D S cI ad A nL kc ks Q pc L (.int y :: .int x :: st) M :=
  fun H locs ls hP hD hS hl => lv_icmp_lt C.1 C.2.1 hd ht (fun _ => kt H locs ls hP hD hS hl) (fun h => absurd hp (by simp [h]))
theorem zz_icmp_ltF (n t : Nat) (C : zz_C p R s m args meth c D cI own cc nL ret kc ks) {x y : Int32} {off : Int} (hd : decode cc pc = .ok (.if_icmp .lt off, 3)) (hn : pc + 3 = n) (ht : (pc : Int) + off = (t : Int)) (hp : ¬ (x < y)) (kf : zz_V p l e R s m args below meth c D S cI ad A nL kc ks Q n L st M) : zz_V p l e R s m args below meth c D S cI ad A nL kc ks Q pc L (.int y :: .int x :: st) M := by
  subst hn
  exact fun H locs ls hP hD hS hl => lv_icmp_lt C.1 C.2.1 hd ht (fun h => absurd h hp) (fun _ => kf H locs ls hP hD hS hl)
theorem zz_if_geT (t : Nat) (C : zz_C p R s m args meth c D cI own cc nL ret kc ks) {x : Int32} {off : Int} (hd : decode cc pc = .ok (.ifCond .ge off, 3)) (ht : (pc : Int) + off = (t : Int)) (hp : 0 ≤ x) (kt : zz_V p l e R s m args below meth c D S cI ad A nL kc ks Q t L st M) : zz_V p l e R s m args below meth c D S cI ad A nL kc ks Q pc L (.int x :: st) M :=
  fun H locs ls hP hD hS hl => lv_if_ge C.1 C.2.1 hd ht (fun _ => kt H locs ls hP hD hS hl) (fun h => absurd hp (by simp [h]))
theorem zz_if_geF (n t : Nat) (C : zz_C p R s m args meth c D cI own cc nL ret kc ks) {x : Int32} {off : Int} (hd : decode cc pc = .ok (.ifCond .ge off, 3)) (hn : pc + 3 = n) (ht : (pc : Int) + off = (t : Int)) (hp : ¬ (0 ≤ x)) (kf : zz_V p l e R s m args below meth c D S cI ad A nL kc ks Q n L st M) : zz_V p l e R s m args below meth c D S cI ad A nL kc ks Q pc L (.int x :: st) M := by
  subst hn
  exact fun H locs ls hP hD hS hl => lv_if_ge C.1 C.2.1 hd ht (fun h => absurd h hp) (fun _ => kf H locs ls hP hD hS hl)
theorem zz_icmp_geT (t : Nat) (C : zz_C p R s m args meth c D cI own cc nL ret kc ks) {x y : Int32} {off : Int} (hd : decode cc pc = .ok (.if_icmp .ge off, 3)) (ht : (pc : Int) + off = (t : Int)) (hp : y ≤ x) (kt : zz_V p l e R s m args below meth c D S cI ad A nL kc ks Q t L st M) : zz_V p l e R s m args below meth c D S cI ad A nL kc ks Q pc L (.int y :: .int x :: st) M :=
  fun H locs ls hP hD hS hl => lv_icmp_ge C.1 C.2.1 hd ht (fun _ => kt H locs ls hP hD hS hl) (fun h => absurd hp (by simp [h]))
theorem zz_icmp_geF (n t : Nat) (C : zz_C p R s m args meth c D cI own cc nL ret kc ks) {x y : Int32} {off : Int} (hd : decode cc pc = .ok (.if_icmp .ge off, 3)) (hn : pc + 3 = n) (ht : (pc : Int) + off = (t : Int)) (hp : ¬ (y ≤ x)) (kf : zz_V p l e R s m args below meth c D S cI ad A nL kc ks Q n L st M) : zz_V p l e R s m args below meth c D S cI ad A nL kc ks Q pc L (.int y :: .int x :: st) M := by
  subst hn
  exact fun H locs ls hP hD hS hl => lv_icmp_ge C.1 C.2.1 hd ht (fun h => absurd h hp) (fun _ => kf H locs ls hP hD hS hl)
theorem zz_if_gtT (t : Nat) (C : zz_C p R s m args meth c D cI own cc nL ret kc ks) {x : Int32} {off : Int} (hd : decode cc pc = .ok (.ifCond .gt off, 3)) (ht : (pc : Int) + off = (t : Int)) (hp : 0 < x) (kt : zz_V p l e R s m args below meth c D S cI ad A nL kc ks Q t L st M) : zz_V p l e R s m args below meth c D S cI ad A nL kc ks Q pc L (.int x :: st) M :=
  fun H locs ls hP hD hS hl => lv_if_gt C.1 C.2.1 hd ht (fun _ => kt H locs ls hP hD hS hl) (fun h => absurd hp (by simp [h]))
theorem zz_if_gtF (n t : Nat) (C : zz_C p R s m args meth c D cI own cc nL ret kc ks) {x : Int32} {off : Int} (hd : decode cc pc = .ok (.ifCond .gt off, 3)) (hn : pc + 3 = n) (ht : (pc : Int) + off = (t : Int)) (hp : ¬ (0 < x)) (kf : zz_V p l e R s m args below meth c D S cI ad A nL kc ks Q n L st M) : zz_V p l e R s m args below meth c D S cI ad A nL kc ks Q pc L (.int x :: st) M := by
  subst hn
  exact fun H locs ls hP hD hS hl => lv_if_gt C.1 C.2.1 hd ht (fun h => absurd h hp) (fun _ => kf H locs ls hP hD hS hl)
theorem zz_icmp_gtT (t : Nat) (C : zz_C p R s m args meth c D cI own cc nL ret kc ks) {x y : Int32} {off : Int} (hd : decode cc pc = .ok (.if_icmp .gt off, 3)) (ht : (pc : Int) + off = (t : Int)) (hp : y < x) (kt : zz_V p l e R s m args below meth c D S cI ad A nL kc ks Q t L st M) : zz_V p l e R s m args below meth c D S cI ad A nL kc ks Q pc L (.int y :: .int x :: st) M :=
  fun H locs ls hP hD hS hl => lv_icmp_gt C.1 C.2.1 hd ht (fun _ => kt H locs ls hP hD hS hl) (fun h => absurd hp (by simp [h]))
theorem zz_icmp_gtF (n t : Nat) (C : zz_C p R s m args meth c D cI own cc nL ret kc ks) {x y : Int32} {off : Int} (hd : decode cc pc = .ok (.if_icmp .gt off, 3)) (hn : pc + 3 = n) (ht : (pc : Int) + off = (t : Int)) (hp : ¬ (y < x)) (kf : zz_V p l e R s m args below meth c D S cI ad A nL kc ks Q n L st M) : zz_V p l e R s m args below meth c D S cI ad A nL kc ks Q pc L (.int y :: .int x :: st) M := by
  subst hn
  exact fun H locs ls hP hD hS hl => lv_icmp_gt C.1 C.2.1 hd ht (fun h => absurd h hp) (fun _ => kf H locs ls hP hD hS hl)
theorem zz_if_leT (t : Nat) (C : zz_C p R s m args meth c D cI own cc nL ret kc ks) {x : Int32} {off : Int} (hd : decode cc pc = .ok (.ifCond .le off, 3)) (ht : (pc : Int) + off = (t : Int)) (hp : x ≤ 0) (kt : zz_V p l e R s m args below meth c D S cI ad A nL kc ks Q t L st M) : zz_V p l e R s m args below meth c D S cI ad A nL kc ks Q pc L (.int x :: st) M :=
  fun H locs ls hP hD hS hl => lv_if_le C.1 C.2.1 hd ht (fun _ => kt H locs ls hP hD hS hl) (fun h => absurd hp (by simp [h]))
theorem zz_if_leF (n t : Nat) (C : zz_C p R s m args meth c D cI own cc nL ret kc ks) {x : Int32} {off : Int} (hd : decode cc pc = .ok (.ifCond .le off, 3)) (hn : pc + 3 = n) (ht : (pc : Int) + off = (t : Int)) (hp : ¬ (x ≤ 0)) (kf : zz_V p l e R s m args below meth c D S cI ad A nL kc ks Q n L st M) : zz_V p l e R s m args below meth c D S cI ad A nL kc ks Q pc L (.int x :: st) M := by
  subst hn
  exact fun H locs ls hP hD hS hl => lv_if_le C.1 C.2.1 hd ht (fun h => absurd h hp) (fun _ => kf H locs ls hP hD hS hl)
theorem zz_icmp_leT (t : Nat) (C : zz_C p R s m args meth c D cI own cc nL ret kc ks) {x y : Int32} {off : Int} (hd : decode cc pc = .ok (.if_icmp .le off, 3)) (ht : (pc : Int) + off = (t : Int)) (hp : x ≤ y) (kt : zz_V p l e R s m args below meth c D S cI ad A nL kc ks Q t L st M) : zz_V p l e R s m args below meth c D S cI ad A nL kc ks Q pc L (.int y :: .int x :: st) M :=
  fun H locs ls hP hD hS hl => lv_icmp_le C.1 C.2.1 hd ht (fun _ => kt H locs ls hP hD hS hl) (fun h => absurd hp (by simp [h]))
theorem zz_icmp_leF (n t : Nat) (C : zz_C p R s m args meth c D cI own cc nL ret kc ks) {x y : Int32} {off : Int} (hd : decode cc pc = .ok (.if_icmp .le off, 3)) (hn : pc + 3 = n) (ht : (pc : Int) + off = (t : Int)) (hp : ¬ (x ≤ y)) (kf : zz_V p l e R s m args below meth c D S cI ad A nL kc ks Q n L st M) : zz_V p l e R s m args below meth c D S cI ad A nL kc ks Q pc L (.int y :: .int x :: st) M := by
  subst hn
  exact fun H locs ls hP hD hS hl => lv_icmp_le C.1 C.2.1 hd ht (fun h => absurd h hp) (fun _ => kf H locs ls hP hD hS hl)
theorem zz_lookup (t : Nat) (C : zz_C p R s m args meth c D cI own cc nL ret kc ks) {dflt : Int} {ps : Array (Int × Int)} {len : Nat} {x : Int32} {off : Int} (hd : decode cc pc = .ok (.lookupswitch dflt ps, len)) (hp : (ps.toList.zip (ps.toList.drop 1)).all (fun (a, next) => a.1 < next.1) = true) (ho : Op.lookupswitch.offset ps.toList dflt x.toInt = off) (ht : (pc : Int) + off = (t : Int)) (kk : zz_V p l e R s m args below meth c D S cI ad A nL kc ks Q t L st M) : zz_V p l e R s m args below meth c D S cI ad A nL kc ks Q pc L (.int x :: st) M :=
  fun H locs ls hP hD hS hl => lv_lookup C.1 C.2.1 hd hp ho ht (kk H locs ls hP hD hS hl)
theorem zz_tabOut (t : Nat) (C : zz_C p R s m args meth c D cI own cc nL ret kc ks) {dflt lo hi : Int} {offs : Array Int} {len : Nat} {x : Int32} (hd : decode cc pc = .ok (.tableswitch dflt lo hi offs, len)) (h : x.toInt < lo ∨ hi < x.toInt) (ht : (pc : Int) + dflt = (t : Int)) (kk : zz_V p l e R s m args below meth c D S cI ad A nL kc ks Q t L st M) : zz_V p l e R s m args below meth c D S cI ad A nL kc ks Q pc L (.int x :: st) M :=
  fun H locs ls hP hD hS hl => lv_tableOut C.1 C.2.1 hd h ht (kk H locs ls hP hD hS hl)
theorem zz_tabIn (t : Nat) (C : zz_C p R s m args meth c D cI own cc nL ret kc ks) {dflt lo hi : Int} {offs : Array Int} {len : Nat} {x k : Int32} {off : Int} (hd : decode cc pc = .ok (.tableswitch dflt lo hi offs, len)) (hx : x = k) (h1 : ¬ k.toInt < lo) (h2 : ¬ hi < k.toInt) (ho : offs[(k.toInt - lo).toNat]? = some off) (ht : (pc : Int) + off = (t : Int)) (kk : zz_V p l e R s m args below meth c D S cI ad A nL kc ks Q t L st M) : zz_V p l e R s m args below meth c D S cI ad A nL kc ks Q pc L (.int x :: st) M := by
  subst hx
  exact fun H locs ls hP hD hS hl => lv_tableIn C.1 C.2.1 hd h1 h2 ho ht (kk H locs ls hP hD hS hl)
/-- fewer locals, in another order -/
theorem zz_sub (ks' : List Nat) (hL : lv_pick L ks' = L') (kk : zz_V p l e R s m args below meth c D S cI ad A nL kc ks Q pc L' st M) : zz_V p l e R s m args below meth c D S cI ad A nL kc ks Q pc L st M :=
  fun H locs ls hP hD hS hl => kk H locs ls hP hD hS (lv_sub hl ks' hL)
/-- int arrays -/
theorem zz_iald (n : Nat) (C : zz_C p R s m args meth c D cI own cc nL ret kc ks) {k N : Nat} {i : Int32} (hs : S[k]? = some (.inl N)) (hd : decode cc pc = .ok (.iaload, 1)) (hn : pc + 1 = n) (hi : vp_in i N) (kk : zz_V p l e R s m args below meth c D S cI ad A nL kc ks Q n L (.int (M k i.toNatClampNeg) :: st) M) : zz_V p l e R s m args below meth c D S cI ad A nL kc ks Q pc L (.int i :: .ref (ad k) :: st) M := by
  subst hn
  exact fun H locs ls hP hD hS hl => va_iald C.1 C.2.1 C.2.2.2.2.2.1 hP k 0 (zz_cells_at hs) rfl hi hd (kk H locs ls hP hD hS hl)
theorem zz_iast (n : Nat) (C : zz_C p R s m args meth c D cI own cc nL ret kc ks) {k N : Nat} {i x : Int32} (hs : S[k]? = some (.inl N)) (hd : decode cc pc = .ok (.iastore, 1)) (hn : pc + 1 = n) (hi : vp_in i N) (kk : zz_V p l e R s m args below meth c D S cI ad A nL kc ks Q n L st (zz_up M k i.toNatClampNeg x)) : zz_V p l e R s m args below meth c D S cI ad A nL kc ks Q pc L (.int x :: .int i :: .ref (ad k) :: st) M := by
  subst hn
  intro H locs ls hP hD hS hl
  refine va_iast C.1 C.2.1 C.2.2.2.2.2.1 hP hD hS k 0 (zz_cells_at hs) rfl hi hd (fun H1 locs1 hP1 hD1 hS1 => ?_)
  rw [zz_cells_arr _ hs] at hP1 hD1
  exact kk H1 locs1 ls hP1 hD1 hS1 hl
theorem zz_alen (n : Nat) (C : zz_C p R s m args meth c D cI own cc nL ret kc ks) {k N : Nat} {v : Int32} (hs : S[k]? = some (.inl N)) (hd : decode cc pc = .ok (.arraylength, 1)) (hn : pc + 1 = n) (hv : Int32.ofNat N = v) (kk : zz_V p l e R s m args below meth c D S cI ad A nL kc ks Q n L (.int v :: st) M) : zz_V p l e R s m args below meth c D S cI ad A nL kc ks Q pc L (.ref (ad k) :: st) M := by
  subst hn
  exact fun H locs ls hP hD hS hl => va_alen C.1 C.2.1 C.2.2.2.2.2.1 hP k 0 (zz_cells_at hs) rfl hv hd (kk H locs ls hP hD hS hl)
/-- a field's link: of the class itself, or of a nest mate -/
def zz_FL (own : String) (idx ci j : Nat) : Prop := ∃ (Cn : String) (T : u_T) (N : Nat), vwCl[ci]? = some (Cn, T, N) ∧ j < N ∧ (∀ w ∈ u_ws Cn T N, w ∈ zz_gW) ∧ (T j).1 = Cn ∧ (Cond.fieldLink own idx Cn (T j).2.1 (T j).2.2.1 ∈ zz_gW ∨ ∃ host, (own, idx, Cn, (T j).2.1, (T j).2.2.1, host) ∈ zz_nF)
theorem zz_get0 (n : Nat) (C : zz_C p R s m args meth c D cI own cc nL ret kc ks) {idx q ci j : Nat} {fs : List (Option Nat)} {o : Option Nat} (hd : decode cc pc = .ok (.getfield idx, 3)) (hn : pc + 3 = n) (hF : zz_FL own idx ci j) (hs : S[q]? = some (.inr (ci, fs))) (hj : fs[j]? = some o) (kk : zz_V p l e R s m args below meth c D S cI ad A nL kc ks Q n L (zz_fv ad (M q) j o :: st) M) : zz_V p l e R s m args below meth c D S cI ad A nL kc ks Q pc L (.ref (ad q) :: st) M := by
  subst hn
  obtain ⟨Cn, T, N, hc, hjN, hin, hT, hlink⟩ := hF
  intro H locs ls hP hD hS hl
  rcases hlink with hk | ⟨host, hk⟩
  · exact va_get (D := D) (ci := ci) C.1 C.2.1 C.2.2.2.2.1 hin C.2.2.2.1 C.2.2.2.2.2.1 hP q (zz_cells_at hs) hc j hjN (C.2.2.2.2.1 _ hk) (fun x h => by rw [hT] at h; exact h) (zz_fs_at hj) hd (kk H locs ls hP hD hS hl)
  · exact va_getN (D := D) (ci := ci) C.1 C.2.1 C.2.2.2.2.1 hin C.2.2.2.1 C.2.2.2.2.2.1 hP q (zz_cells_at hs) hc j hjN (va_Nw.use rfl (C.2.2.2.2.2.2.1.1 _ hk)) (fun x h => by rw [hT] at h; exact h) (zz_fs_at hj) hd (kk H locs ls hP hD hS hl)
theorem zz_getI (n : Nat) (C : zz_C p R s m args meth c D cI own cc nL ret kc ks) {idx q ci j : Nat} {fs : List (Option Nat)} (hd : decode cc pc = .ok (.getfield idx, 3)) (hn : pc + 3 = n) (hF : zz_FL own idx ci j) (hs : S[q]? = some (.inr (ci, fs))) (hj : fs[j]? = some none) (kk : zz_V p l e R s m args below meth c D S cI ad A nL kc ks Q n L (.int (M q j) :: st) M) : zz_V p l e R s m args below meth c D S cI ad A nL kc ks Q pc L (.ref (ad q) :: st) M := zz_get0 n C hd hn hF hs hj kk
theorem zz_getR (n : Nat) (C : zz_C p R s m args meth c D cI own cc nL ret kc ks) {idx q ci j t : Nat} {fs : List (Option Nat)} (hd : decode cc pc = .ok (.getfield idx, 3)) (hn : pc + 3 = n) (hF : zz_FL own idx ci j) (hs : S[q]? = some (.inr (ci, fs))) (hj : fs[j]? = some (some t)) (kk : zz_V p l e R s m args below meth c D S cI ad A nL kc ks Q n L (.ref (ad t) :: st) M) : zz_V p l e R s m args below meth c D S cI ad A nL kc ks Q pc L (.ref (ad q) :: st) M := zz_get0 n C hd hn hF hs hj kk
/-- what a store into an int field of a class needs of its table -/
def zz_FS (ci j : Nat) (ty : FieldType) : Prop := ∃ (Cn : String) (T : u_T) (N : Nat) (ty0 : Nat → FieldType), vwCl[ci]? = some (Cn, T, N) ∧ (∀ k, k < N → parseFieldDescriptor (T k).2.2.1 = some (ty0 k)) ∧ (∀ a, a < N → ∀ b, b < N → a ≠ b → (T a).2.1 ≠ (T b).2.1) ∧ (T j).2.2.2 = false ∧ parseFieldDescriptor (T j).2.2.1 = some ty
theorem zz_putI (n : Nat) (C : zz_C p R s m args meth c D cI own cc nL ret kc ks) {idx q ci j : Nat} {fs : List (Option Nat)} {ty : FieldType} {x : Int32} (hd : decode cc pc = .ok (.putfield idx, 3)) (hn : pc + 3 = n) (hF : zz_FL own idx ci j) (hFS : zz_FS ci j ty) (hnr : narrow ty (.int x) = .int x) (hft : fits ty (.int x) = true) (hs : S[q]? = some (.inr (ci, fs))) (hj : fs[j]? = some none) (kk : zz_V p l e R s m args below meth c D S cI ad A nL kc ks Q n L st (zz_up M q j x)) : zz_V p l e R s m args below meth c D S cI ad A nL kc ks Q pc L (.int x :: .ref (ad q) :: st) M := by
  subst hn
  obtain ⟨Cn, T, N, hc, hjN, hin, hT, hlink⟩ := hF
  obtain ⟨Cn', T', N', ty0, hc', hty, hnm, hfin, hdsc⟩ := hFS
  cases hc.symm.trans hc'
  intro H locs ls hP hD hS hl
  have hlen : j < (zz_fs ad (M q) fs).length := by simpa [zz_fs] using (List.getElem?_eq_some_iff.mp hj).1
  rcases hlink with hk | ⟨host, hk⟩
  · refine va_put (D := D) (ci := ci) C.1 C.2.1 C.2.2.2.2.1 hin ty0 hty hnm C.2.2.2.1 C.2.2.2.2.2.1 hP hD hS q (zz_cells_at hs) hc j hjN (C.2.2.2.2.1 _ hk) (fun x h => by rw [hT] at h; exact h) hfin hdsc hnr hft hlen hd (fun H1 locs1 hP1 hD1 hS1 => ?_)
    rw [zz_cells_obj x hs hj] at hP1 hD1
    exact kk H1 locs1 ls hP1 hD1 hS1 hl
  · refine va_putN (D := D) (ci := ci) C.1 C.2.1 C.2.2.2.2.1 hin ty0 hty hnm C.2.2.2.1 C.2.2.2.2.2.1 hP hD hS q (zz_cells_at hs) hc j hjN (va_Nw.use rfl (C.2.2.2.2.2.2.1.1 _ hk)) (fun x h => by rw [hT] at h; exact h) hfin hdsc hnr hft hlen hd (fun H1 locs1 hP1 hD1 hS1 => ?_)
    rw [zz_cells_obj x hs hj] at hP1 hD1
    exact kk H1 locs1 ls hP1 hD1 hS1 hl
/-- Math.max, Math.min, System.arraycopy -/
theorem zz_max (n : Nat) (C : zz_C p R s m args meth c D cI own cc nL ret kc ks) {idx : Nat} {x y : Int32} (hd : decode cc pc = .ok (.invokestatic idx, 3)) (hn : pc + 3 = n) (hw : Cond.methodLink own idx Lib.Math.max.name ∈ zz_gW ∧ Cond.static Lib.Math.max.name ∈ zz_gW ∧ Cond.initialized "java/lang/Math" ∈ zz_gW ∧ Cond.code Lib.Math.max.name Lib.Math.max.code 2 (some .int) ∈ zz_gW) (hR : 1 ≤ R.frames ∧ (st.map fun v => v.category).sum + 13 ≤ R.locals) (kk : zz_V p l e R s m args below meth c D S cI ad A nL kc ks Q n L (.int (if x < y then y else x) :: st) M) : zz_V p l e R s m args below meth c D S cI ad A nL kc ks Q pc L (.int y :: .int x :: st) M := by
  subst hn
  exact fun H locs ls hP hD hS hl => va_mmax C.1 C.2.1 (C.2.2.1.trans hl.1.symm) C.2.2.2.1 (C.2.2.2.2.1 _ hw.1) (C.2.2.2.2.1 _ hw.2.1) (C.2.2.2.2.1 _ hw.2.2.1) (C.2.2.2.2.1 _ hw.2.2.2) hR.1 hR.2 C.2.2.2.2.2.2.2.2.2.1 C.2.2.2.2.2.2.2.2.2.2 hd (kk H locs ls hP hD hS hl)
theorem zz_min (n : Nat) (C : zz_C p R s m args meth c D cI own cc nL ret kc ks) {idx : Nat} {x y : Int32} (hd : decode cc pc = .ok (.invokestatic idx, 3)) (hn : pc + 3 = n) (hw : Cond.methodLink own idx Lib.Math.min.name ∈ zz_gW ∧ Cond.static Lib.Math.min.name ∈ zz_gW ∧ Cond.initialized "java/lang/Math" ∈ zz_gW ∧ Cond.code Lib.Math.min.name Lib.Math.min.code 2 (some .int) ∈ zz_gW) (hR : 1 ≤ R.frames ∧ (st.map fun v => v.category).sum + 13 ≤ R.locals) (kk : zz_V p l e R s m args below meth c D S cI ad A nL kc ks Q n L (.int (if y < x then y else x) :: st) M) : zz_V p l e R s m args below meth c D S cI ad A nL kc ks Q pc L (.int y :: .int x :: st) M := by
  subst hn
  exact fun H locs ls hP hD hS hl => va_mmin C.1 C.2.1 (C.2.2.1.trans hl.1.symm) C.2.2.2.1 (C.2.2.2.2.1 _ hw.1) (C.2.2.2.2.1 _ hw.2.1) (C.2.2.2.2.1 _ hw.2.2.1) (C.2.2.2.2.1 _ hw.2.2.2) hR.1 hR.2 C.2.2.2.2.2.2.2.2.2.1 C.2.2.2.2.2.2.2.2.2.2 hd (kk H locs ls hP hD hS hl)
theorem zz_copy (n : Nat) (C : zz_C p R s m args meth c D cI own cc nL ret kc ks) {idx k0 k1 N0 N1 : Nat} {sp dp w : Int32} (hd : decode cc pc = .ok (.invokestatic idx, 3)) (hn : pc + 3 = n) (hw : Cond.methodLink own idx arraycopyName ∈ zz_gW ∧ Cond.native arraycopyName ∈ zz_gW ∧ Cond.static arraycopyName ∈ zz_gW ∧ Cond.initialized "java/lang/System" ∈ zz_gW) (hs0 : S[k0]? = some (.inl N0)) (hs1 : S[k1]? = some (.inl N1)) (hb : (¬ sp < 0 ∧ ¬ dp < 0 ∧ ¬ w < 0) ∧ sp.toNatClampNeg + w.toNatClampNeg ≤ N0 ∧ dp.toNatClampNeg + w.toNatClampNeg ≤ N1) (hR : 1 ≤ R.frames ∧ (st.map fun v => v.category).sum + (nativeFrameWords "java/lang/System" "arraycopy" 5 + 11) ≤ R.locals) (kk : zz_V p l e R s m args below meth c D S cI ad A nL kc ks Q n L st (zz_cp M k0 k1 sp.toNatClampNeg dp.toNatClampNeg w.toNatClampNeg)) : zz_V p l e R s m args below meth c D S cI ad A nL kc ks Q pc L (.int w :: .int dp :: .ref (ad k1) :: .int sp :: .ref (ad k0) :: st) M := by
  subst hn
  intro H locs ls hP hD hS hl
  refine va_copyi C.1 C.2.1 (C.2.2.1.trans hl.1.symm) C.2.2.2.1 (C.2.2.2.2.1 _ hw.1) (C.2.2.2.2.1 _ hw.2.1) (C.2.2.2.2.1 _ hw.2.2.1) (C.2.2.2.2.1 _ hw.2.2.2) C.2.2.2.2.2.1 hP hD hS k0 k1 0 0 (zz_cells_at hs0) (zz_cells_at hs1) rfl rfl rfl hb.1.1 hb.1.2.1 hb.1.2.2 hb.2.1 hb.2.2 (fun _ _ => rfl) hR.1 hR.2 hd (fun H1 locs1 hP1 hD1 hS1 => ?_)
  rw [zz_cells_arr _ hs1] at hP1 hD1
  exact kk H1 locs1 ls hP1 hD1 hS1 hl
end ZR
