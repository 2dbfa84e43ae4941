/-! the smallest set of scenes to shoot again -/
def ph_f (q : Nat → Nat) : Nat → Nat
  | 0 => 0
  | k + 1 => if q k = 0 then ph_f q k else ph_f q k + 2 ^ k
theorem ph_orF : ∀ k : Fin 6, ∀ n : Fin 64, n.val < 2 ^ k.val → nI n.val ||| ((1 : Int32) <<< (nI k.val &&& 31)) = nI (n.val + 2 ^ k.val) := by decide +kernel
theorem ph_orB : ∀ k : Fin 6, ∀ n : Fin 64, n.val < 2 ^ k.val → n.val + 2 ^ k.val < 2 ^ (k.val + 1) ∧ ∀ j : Fin 6, (n.val + 2 ^ k.val).testBit j.val = (n.val.testBit j.val || decide (j.val = k.val)) := by decide +kernel
theorem ph_cmF : ∀ k : Fin 7, ∀ n : Fin 64, n.val < 2 ^ k.val → (nI (2 ^ k.val - 1) &&& (nI n.val ^^^ (-1))) = nI (2 ^ k.val - 1 - n.val) := by decide +kernel
theorem ph_cmB : ∀ k : Fin 7, ∀ n : Fin 64, n.val < 2 ^ k.val → ∀ j : Fin 6, (2 ^ k.val - 1 - n.val).testBit j.val = (decide (j.val < k.val) && !n.val.testBit j.val) := by decide +kernel
theorem ph_alF : ∀ k : Fin 7, ∀ n : Fin 64, n.val < 2 ^ k.val - 1 → pe_pc n.val < pe_pc (2 ^ k.val - 1) := by decide +kernel
theorem ph_alB : ∀ k : Fin 7, ∀ s : Fin 6, s.val < k.val → (2 ^ k.val - 1).testBit s.val = true := by decide +kernel
theorem ph_twoF : ∀ n : Fin 64, ∀ s o : Fin 6, (((nI n.val >>> (nI s.val &&& 31)) ||| (nI n.val >>> (nI o.val &&& 31))) &&& 1) = pv_i (n.val.testBit s.val || n.val.testBit o.val) := by decide +kernel
theorem ph_andF : ∀ n m : Fin 64, (nI n.val &&& nI m.val) = nI (n.val &&& m.val) := by decide +kernel
theorem ph_bcF : ∀ n : Fin 64, (f_J6_bitCount_0f7a4 (nI n.val) (fun _ _ => 0)).map Prod.fst = some (nI (pe_pc n.val)) := by decide +kernel
theorem ph_pcF : ∀ n : Fin 64, pe_pc n.val ≤ 6 := by decide +kernel
theorem ph_pc {n : Nat} (hn : n < 64) : pe_pc n ≤ 6 := ph_pcF ⟨n, hn⟩
theorem c_bc (M : zz_Mem) {n : Nat} (hn : n < 64) : f_J6_bitCount_0f7a4 (nI n) M = some (nI (pe_pc n), M) := by
  obtain ⟨v, hv⟩ : ∃ v, ∀ M, f_J6_bitCount_0f7a4 (nI n) M = some (v, M) := ⟨_, fun M => rfl⟩
  have e := ph_bcF ⟨n, hn⟩
  rw [hv] at e
  have e2 : v = nI (pe_pc n) := Option.some.inj e
  rw [hv, e2]
theorem r_mo (M : zz_Mem) {n : Nat} (hn : n < 64) : f_X5_manyOf (nI n) M = some (nI (pe_pc n), M) := by
  have key := zz_iter (fun k (x : Int32 × Int32 × zz_Mem) => f_X5_manyOf_4 (nI n) k x.1 x.2.1 x.2.2) (fun i => (nI (zz_S (fun s => if n.testBit s = true then 1 else 0) i), nI i, M)) 6 (some (nI (zz_S (fun s => if n.testBit s = true then 1 else 0) 6), nI 6, M)) ?_ ?_ 5000 (by omega)
  · unfold f_X5_manyOf
    dsimp only at key
    rw [show zz_S (fun s => if n.testBit s = true then 1 else 0) 0 = 0 from rfl, nI_0] at key
    rw [key, zb3]
    rfl
  · intro k i hi
    dsimp only
    rw [f_X5_manyOf_4, if_neg (show ¬ (6 : Int32) ≤ nI i from nI_ge (b := 6) hi (by omega)), pe_bit hn hi, pn_1, zz_S]
    by_cases q : n.testBit i = true
    · rw [if_pos q, if_pos q, pn_1]
    · rw [if_neg q, if_neg q, Int32.add_zero]
      rfl
  · intro k
    dsimp only
    rw [f_X5_manyOf_4, if_pos (show (6 : Int32) ≤ nI 6 from Int32.le_refl _)]
theorem ph_f_lt (q : Nat → Nat) : ∀ k, k ≤ 6 → ph_f q k < 2 ^ k
  | 0, _ => by rw [ph_f]; decide
  | k + 1, h => by
    have ih := ph_f_lt q k (by omega)
    have h1 := (ph_orB ⟨k, by omega⟩ ⟨ph_f q k, pe_64 (by omega) ih⟩ ih).1
    rw [ph_f]
    split
    · exact Nat.lt_of_lt_of_le ih (Nat.pow_le_pow_right (by omega) (by omega))
    · exact h1
theorem ph_f_bit (q : Nat → Nat) : ∀ k, k ≤ 6 → ∀ j, j < 6 → (ph_f q k).testBit j = (decide (j < k) && !decide (q j = 0))
  | 0, _, j, _ => by
    rw [ph_f, decide_eq_false (by omega)]
    simp
  | k + 1, h, j, hj => by
    have ih := ph_f_bit q k (by omega) j hj
    have hl := ph_f_lt q k (by omega)
    have h1 := (ph_orB ⟨k, by omega⟩ ⟨ph_f q k, pe_64 (by omega) hl⟩ hl).2 ⟨j, hj⟩
    dsimp only at h1
    rw [ph_f]
    by_cases e : j = k
    · subst e
      by_cases q0 : q j = 0
      · rw [if_pos q0, ih]
        simp [q0]
      · rw [if_neg q0, h1, ih]
        simp [q0]
    · have ed : decide (j < k) = decide (j < k + 1) := decide_eq_decide.mpr (by omega)
      by_cases q0 : q k = 0
      · rw [if_pos q0, ih, ed]
      · rw [if_neg q0, h1, ih, ed]
        simp [e]
theorem ph_uu (g : Nat → Int32) (s : Nat) (x y : Int32) : upd (upd g s x) s y = upd g s y := by
  funext i
  by_cases e : i = s
  · subst e; simp [upd]
  · simp [upd, e]
theorem pa_prow_le {a : pv_A} (hw : pv_W a) (s o : Nat) : pa_prow a (a 3) s o ≤ 54 := by
  have := pa_no_le hw (a 3 s - 1) (a 3 o - 1)
  unfold pa_prow
  split
  · omega
  · split <;> omega
theorem c_S30 {M : zz_Mem} {a : pv_A} (h : pv_St (pv_cn M) a) (g : Nat → Int32) : pv_St (pv_cn (zz_set M 30 g)) a := by
  rw [(pv_sC (M := M) (M' := zz_set M 30 g) (fun k hk => zz_set_ne _ _ (by omega))).1]
  exact h
theorem c_foeIn {M : zz_Mem} {a : pv_A} (h : pv_St (pv_cn M) a) (hw : pv_W a) {s : Nat} (hs : s < a 0 0) (g : Nat → Int32) : f_X1_find_19 (nI s) 5000 0 (zz_set M 30 (upd g s 0)) = some (nI (a 0 0), zz_set M 30 (upd g s (nI (ph_f (pa_prow a (a 3) s) (a 0 0))))) := by
  have hb := hw.1
  have key := zz_iter (fun n (x : Int32 × zz_Mem) => f_X1_find_19 (nI s) n x.1 x.2) (fun i => (nI i, zz_set M 30 (upd g s (nI (ph_f (pa_prow a (a 3) s) i))))) (a 0 0) (some (nI (a 0 0), zz_set M 30 (upd g s (nI (ph_f (pa_prow a (a 3) s) (a 0 0)))))) ?_ ?_ 5000 (by omega)
  · dsimp only at key
    rw [show ph_f (pa_prow a (a 3) s) 0 = 0 from rfl, nI_0] at key
    exact key
  · intro n i hi
    dsimp only
    have hl := ph_f_lt (pa_prow a (a 3) s) i (by omega)
    have hp := pa_prow_le hw s i
    have hor := ph_orF ⟨i, by omega⟩ ⟨ph_f (pa_prow a (a 3) s) i, pe_64 (by omega) hl⟩ hl
    dsimp only at hor
    rw [f_X1_find_19, c_n0 (c_S30 h _), if_neg (nI_ge hi (by omega)), c_chNoise (c_S30 h _) hw hs hi, zb2, pn_1, ph_f]
    by_cases q : pa_prow a (a 3) s i = 0
    · rw [if_pos (by rw [q]; decide), if_pos q]
    · rw [if_neg (nI_nle (by omega) (by omega)), if_neg q, if_pos (show zz_in (nI s) 6 from pn_in (by omega) (by omega)), nI_clamp (by omega), zz_set_self, zz_up_set, ph_uu, pk_us, hor]
  · intro n
    dsimp only
    rw [f_X1_find_19, c_n0 (c_S30 h _), if_pos (Int32.le_refl _)]
theorem c_foes {M : zz_Mem} {a : pv_A} (h : pv_St (pv_cn M) a) (hw : pv_W a) : f_X1_find M = some (zz_set M 30 (fun x => if x < a 0 0 then nI (ph_f (pa_prow a (a 3) x) (a 0 0)) else M 30 x)) := by
  have hb := hw.1
  have key := zz_iter (fun n (x : Int32 × zz_Mem) => f_X1_find_2 n x.1 x.2) (fun i => (nI i, zz_set M 30 (fun x => if x < i then nI (ph_f (pa_prow a (a 3) x) (a 0 0)) else M 30 x))) (a 0 0) (some (nI (a 0 0), zz_set M 30 (fun x => if x < a 0 0 then nI (ph_f (pa_prow a (a 3) x) (a 0 0)) else M 30 x))) ?_ ?_ 5000 (by omega)
  · unfold f_X1_find
    dsimp only at key
    rw [pe_row0 (M 30) (fun x => ph_f (pa_prow a (a 3) x) (a 0 0)), zz_set_id M 30 _ rfl, nI_0] at key
    rw [key, zb2]
  · intro n i hi
    dsimp only
    rw [f_X1_find_2, c_n0 (c_S30 h _), if_neg (nI_ge hi (by omega)), if_pos (show zz_in (nI i) 6 from pn_in (by omega) (by omega)), nI_clamp (by omega), zz_up_set, c_foeIn h hw hi, zb2, pn_1, pe_row (M 30) (fun x => ph_f (pa_prow a (a 3) x) (a 0 0)) i]
  · intro n
    dsimp only
    rw [f_X1_find_2, c_n0 (c_S30 h _), if_pos (Int32.le_refl _)]
/-- whether two scenes keep quiet -/
def ph_p (a : pv_A) (n s o : Nat) : Bool := (n.testBit s || n.testBit o) || decide (pa_prow a (a 3) s o = 0)
def ph_r1 (a : pv_A) (n s : Nat) (b : Bool) : Nat → Bool
  | 0 => b
  | o + 1 => ph_r1 a n s b o && ph_p a n s o
def ph_r2 (a : pv_A) (n : Nat) : Nat → Bool
  | 0 => true
  | s + 1 => ph_r1 a n s (ph_r2 a n s) s
theorem ph_r1_iff (a : pv_A) (n s : Nat) (b : Bool) : ∀ i, ph_r1 a n s b i = true ↔ b = true ∧ ∀ o, o < i → ph_p a n s o = true
  | 0 => ⟨fun h => ⟨h, fun o ho => absurd ho (by omega)⟩, fun h => h.1⟩
  | i + 1 => by
    rw [ph_r1, Bool.and_eq_true, ph_r1_iff a n s b i]
    constructor
    · rintro ⟨⟨h1, h2⟩, h3⟩
      refine ⟨h1, fun o ho => ?_⟩
      by_cases e : o = i
      · rw [e]; exact h3
      · exact h2 o (by omega)
    · rintro ⟨h1, h2⟩
      exact ⟨⟨h1, fun o ho => h2 o (by omega)⟩, h2 i (by omega)⟩
theorem ph_r2_iff (a : pv_A) (n : Nat) : ∀ i, ph_r2 a n i = true ↔ ∀ s, s < i → ∀ o, o < s → ph_p a n s o = true
  | 0 => ⟨fun _ s hs => absurd hs (by omega), fun _ => rfl⟩
  | i + 1 => by
    rw [ph_r2, ph_r1_iff, ph_r2_iff a n i]
    constructor
    · rintro ⟨h1, h2⟩ s hs o ho
      by_cases e : s = i
      · subst e; exact h2 o ho
      · exact h1 s (by omega) o ho
    · intro h
      exact ⟨fun s hs o ho => h s (by omega) o ho, fun o ho => h i (by omega) o ho⟩
theorem ph_p_iff (a : pv_A) (n s o : Nat) : ph_p a n s o = true ↔ (n.testBit s = false → n.testBit o = false → pa_prow a (a 3) s o = 0) := by
  unfold ph_p
  cases n.testBit s <;> cases n.testBit o <;> simp
theorem pa_prow_sym (a : pv_A) (s o : Nat) : pa_prow a (a 3) s o = pa_prow a (a 3) o s := by
  unfold pa_prow
  by_cases q1 : a 3 s = 0
  · rw [if_pos q1, if_pos q1]; split <;> rfl
  · by_cases q2 : a 3 o = 0
    · rw [if_pos q2, if_pos q2, if_neg q1]
    · rw [if_neg q1, if_neg q1, if_neg q2, if_neg q2, pa_no_sym]
theorem pa_prow_self (a : pv_A) (s : Nat) : pa_prow a (a 3) s s = 0 := by
  unfold pa_prow pa_no
  split
  · rfl
  · exact zz_S_0 (fun t _ => by rw [pa_cl_self a _ _ t rfl]; rfl)
theorem ph_Q_iff (a : pv_A) (n : Nat) : ph_r2 a n (a 0 0) = true ↔ ∀ s o, s < a 0 0 → o < a 0 0 → n.testBit s = false → n.testBit o = false → pa_prow a (a 3) s o = 0 := by
  rw [ph_r2_iff]
  constructor
  · intro h s o hs ho b1 b2
    rcases Nat.lt_trichotomy o s with q | q | q
    · exact (ph_p_iff a n s o).mp (h s hs o q) b1 b2
    · rw [q]; exact pa_prow_self a s
    · rw [pa_prow_sym]; exact (ph_p_iff a n o s).mp (h o ho s q) b2 b1
  · intro h s hs o ho
    exact (ph_p_iff a n s o).mpr (h s o hs (by omega))
