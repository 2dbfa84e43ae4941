/-! the rows of noises -/
theorem zz_set_set (M : zz_Mem) (k : Nat) (f g : Nat → Int32) : zz_set (zz_set M k f) k g = zz_set M k g := by
  funext x
  by_cases h : x = k
  · subst h; simp [zz_set]
  · simp [zz_set, h]
theorem zz_set_id (M : zz_Mem) (k : Nat) (f : Nat → Int32) (h : f = M k) : zz_set M k f = M := by
  funext x
  by_cases e : x = k
  · subst e; rw [h]; simp [zz_set]
  · simp [zz_set, e]
theorem zz_up_set (M : zz_Mem) (k : Nat) (f : Nat → Int32) (i : Nat) (x : Int32) : zz_up (zz_set M k f) k i x = zz_set M k (upd f i x) := by
  unfold zz_up
  rw [zz_set_self, zz_set_set]
def pr_row (a : pv_A) (g : Nat → Int32) (i j : Nat) : Nat → Int32 := fun x => if (x / 16 < i ∧ x % 16 < a 0 2) ∨ (x / 16 = i ∧ x % 16 < j) then nI (pa_no a (x / 16) (x % 16)) else g x
theorem pr_row_step (a : pv_A) (g : Nat → Int32) {i j : Nat} (hj : j < 16) (v : Int32) (hv : v = nI (pa_no a i j)) : upd (pr_row a g i j) (16 * i + j) v = pr_row a g i (j + 1) := by
  funext x
  unfold upd pr_row
  by_cases h : x = 16 * i + j
  · subst h
    rw [if_pos rfl, if_pos (by omega), show (16 * i + j) / 16 = i by omega, show (16 * i + j) % 16 = j by omega, hv]
  · rw [if_neg h]
    by_cases h2 : (x / 16 < i ∧ x % 16 < a 0 2) ∨ (x / 16 = i ∧ x % 16 < j)
    · rw [if_pos h2, if_pos (by omega)]
    · rw [if_neg h2, if_neg (by omega)]
theorem pr_row_next (a : pv_A) (g : Nat → Int32) (i : Nat) : pr_row a g i (a 0 2) = pr_row a g (i + 1) 0 := by
  funext x
  unfold pr_row
  by_cases h2 : (x / 16 < i ∧ x % 16 < a 0 2) ∨ (x / 16 = i ∧ x % 16 < a 0 2)
  · rw [if_pos h2, if_pos (by omega)]
  · rw [if_neg h2, if_neg (by omega)]
theorem pr_row_0 (a : pv_A) (g : Nat → Int32) : pr_row a g 0 0 = g := by
  funext x
  unfold pr_row
  rw [if_neg (by omega)]
theorem pv_rn_15 (M : zz_Mem) (g : Nat → Int32) : pv_rn (zz_set M 15 g) = pv_rn M := by
  funext k j
  unfold pv_rn
  by_cases h : k = 0
  · simp [h, zz_set]
  · by_cases h2 : k ≤ 9
    · simp only [h, h2, if_true, if_false]
      rw [zz_set_ne M g (by omega)]
    · simp [h, h2]
theorem r_noises {M : zz_Mem} {a : pv_A} (h : pv_St (pv_rn M) a) (hw : pv_W a) : f_X5_findNoises M = some (zz_set M 15 (pr_row a (M 15) (a 0 2) 0)) := by
  have hb := hw.1
  have hh : ∀ g, pv_St (pv_rn (zz_set M 15 g)) a := fun g => by rw [pv_rn_15]; exact h
  have inner : ∀ i, i < a 0 2 → f_X5_findNoises_12 (nI i) 5000 0 (zz_set M 15 (pr_row a (M 15) i 0)) = some (nI (a 0 2), zz_set M 15 (pr_row a (M 15) (i + 1) 0)) := by
    intro i hi
    have key := zz_iter (fun n (x : Int32 × zz_Mem) => f_X5_findNoises_12 (nI i) n x.1 x.2) (fun j => (nI j, zz_set M 15 (pr_row a (M 15) i j))) (a 0 2) (some (nI (a 0 2), zz_set M 15 (pr_row a (M 15) (i + 1) 0))) ?_ ?_ 5000 (by omega)
    · exact key
    · intro n j hj
      dsimp only
      rw [f_X5_findNoises_12, r_n2 (hh _), if_neg (nI_ge hj (by omega)), r_noise (hh _) hw hi hj, zb2, show (16 : Int32) * nI i + nI j = nI (16 * i + j) by rw [show (16 : Int32) = nI 16 from rfl, pk_mul, nI_add], if_pos (pn_in (by omega) (by omega)), nI_clamp (by omega), zz_up_set, pr_row_step a _ (by omega) _ rfl, pn_1]
    · intro n
      dsimp only
      rw [f_X5_findNoises_12, r_n2 (hh _), if_pos (Int32.le_refl _), pr_row_next]
  have key := zz_iter (fun n (x : Int32 × zz_Mem) => f_X5_findNoises_2 n x.1 x.2) (fun i => (nI i, zz_set M 15 (pr_row a (M 15) i 0))) (a 0 2) (some (nI (a 0 2), zz_set M 15 (pr_row a (M 15) (a 0 2) 0))) ?_ ?_ 5000 (by omega)
  · unfold f_X5_findNoises
    dsimp only at key
    rw [pr_row_0, zz_set_id M 15 (M 15) rfl, nI_0] at key
    rw [key]
    rfl
  · intro n i hi
    dsimp only
    rw [f_X5_findNoises_2, r_n2 (hh _), if_neg (nI_ge hi (by omega)), inner i hi, zb2, pn_1]
  · intro n
    dsimp only
    rw [f_X5_findNoises_2, r_n2 (hh _), if_pos (Int32.le_refl _)]
/-! the class's -/
def pc_row (a : pv_A) (g : Nat → Int32) (i j : Nat) : Nat → Int32 := fun x => if ((x / 16 < i ∧ x % 16 < x / 16) ∨ (x % 16 < i ∧ x / 16 < x % 16)) ∨ (x / 16 = i ∧ x % 16 < j) ∨ (x % 16 = i ∧ x / 16 < j) then nI (pa_no a (x / 16) (x % 16)) else g x
theorem pc_row_step (a : pv_A) (g : Nat → Int32) {i j : Nat} (hi : i < 16) (hj : j < i) : upd (upd (pc_row a g i j) (16 * i + j) (nI (pa_no a i j))) (16 * j + i) (nI (pa_no a i j)) = pc_row a g i (j + 1) := by
  funext x
  unfold upd pc_row
  by_cases h : x = 16 * j + i
  · subst h
    rw [if_pos rfl, if_pos (by omega), show (16 * j + i) / 16 = j by omega, show (16 * j + i) % 16 = i by omega, pa_no_sym]
  · rw [if_neg h]
    by_cases h1 : x = 16 * i + j
    · subst h1
      rw [if_pos rfl, if_pos (by omega), show (16 * i + j) / 16 = i by omega, show (16 * i + j) % 16 = j by omega]
    · rw [if_neg h1]
      by_cases h2 : ((x / 16 < i ∧ x % 16 < x / 16) ∨ (x % 16 < i ∧ x / 16 < x % 16)) ∨ (x / 16 = i ∧ x % 16 < j) ∨ (x % 16 = i ∧ x / 16 < j)
      · rw [if_pos h2, if_pos (by omega)]
      · rw [if_neg h2, if_neg (by omega)]
theorem pc_row_next (a : pv_A) (g : Nat → Int32) (i : Nat) : pc_row a g i i = pc_row a g (i + 1) 0 := by
  funext x
  unfold pc_row
  by_cases h2 : ((x / 16 < i ∧ x % 16 < x / 16) ∨ (x % 16 < i ∧ x / 16 < x % 16)) ∨ (x / 16 = i ∧ x % 16 < i) ∨ (x % 16 = i ∧ x / 16 < i)
  · rw [if_pos h2, if_pos (by omega)]
  · rw [if_neg h2, if_neg (by omega)]
theorem pc_row_0 (a : pv_A) (g : Nat → Int32) : pc_row a g 0 0 = g := by
  funext x
  unfold pc_row
  rw [if_neg (by omega)]
theorem pv_cn_hi (M : zz_Mem) {k : Nat} (hk : 15 ≤ k) (g : Nat → Int32) : pv_cn (zz_set M k g) = pv_cn M := by
  funext q j
  unfold pv_cn
  by_cases h : q = 0
  · simp only [h, if_true]
    rw [zz_set_ne M g (by omega)]
  · by_cases h2 : q ≤ 9
    · simp only [h, h2, if_true, if_false]
      rw [zz_set_ne M g (by omega)]
    · simp [h, h2]
theorem c_noises {M : zz_Mem} {a : pv_A} (h : pv_St (pv_cn M) a) (hw : pv_W a) : f_X0_reckonNoises M = some (zz_set M 26 (pc_row a (M 26) (a 0 2) 0)) := by
  have hb := hw.1
  have hh : ∀ g, pv_St (pv_cn (zz_set M 26 g)) a := fun g => by rw [pv_cn_hi M (by omega)]; exact h
  have inner : ∀ i, i < a 0 2 → f_X0_reckonNoises_12 (nI i) 5000 0 (zz_set M 26 (pc_row a (M 26) i 0)) = some (nI i, zz_set M 26 (pc_row a (M 26) (i + 1) 0)) := by
    intro i hi
    have key := zz_iter (fun n (x : Int32 × zz_Mem) => f_X0_reckonNoises_12 (nI i) n x.1 x.2) (fun j => (nI j, zz_set M 26 (pc_row a (M 26) i j))) i (some (nI i, zz_set M 26 (pc_row a (M 26) (i + 1) 0))) ?_ ?_ 5000 (by omega)
    · exact key
    · intro n j hj
      dsimp only
      rw [f_X0_reckonNoises_12, if_neg (nI_ge hj (by omega)), c_noise (hh _) hw hi (by omega), zb2, show nI i * (16 : Int32) + nI j = nI (16 * i + j) by rw [show (16 : Int32) = nI 16 from rfl, pk_mul, nI_add, Nat.mul_comm], show nI j * (16 : Int32) + nI i = nI (16 * j + i) by rw [show (16 : Int32) = nI 16 from rfl, pk_mul, nI_add, Nat.mul_comm], if_pos (pn_in (by omega) (by omega)), if_pos (pn_in (by omega) (by omega)), nI_clamp (by omega), nI_clamp (by omega), zz_up_set, zz_up_set, pc_row_step a _ (by omega) hj, pn_1]
    · intro n
      dsimp only
      rw [f_X0_reckonNoises_12, if_pos (Int32.le_refl _), pc_row_next]
  have key := zz_iter (fun n (x : Int32 × zz_Mem) => f_X0_reckonNoises_2 n x.1 x.2) (fun i => (nI i, zz_set M 26 (pc_row a (M 26) i 0))) (a 0 2) (some (nI (a 0 2), zz_set M 26 (pc_row a (M 26) (a 0 2) 0))) ?_ ?_ 5000 (by omega)
  · unfold f_X0_reckonNoises
    dsimp only at key
    rw [pc_row_0, zz_set_id M 26 (M 26) rfl, nI_0] at key
    rw [key]
    rfl
  · intro n i hi
    dsimp only
    rw [f_X0_reckonNoises_2, c_n2 (hh _), if_neg (nI_ge hi (by omega)), inner i hi, zb2, pn_1]
  · intro n
    dsimp only
    rw [f_X0_reckonNoises_2, c_n2 (hh _), if_pos (Int32.le_refl _)]
