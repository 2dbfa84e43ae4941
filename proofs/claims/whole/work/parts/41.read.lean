theorem c_n0 {M : zz_Mem} {a : pv_A} (h : pv_St (pv_cn M) a) : M 1 0 = nI (a 0 0) := h 0 0 (Or.inl ⟨rfl, by omega⟩)
theorem c_n1 {M : zz_Mem} {a : pv_A} (h : pv_St (pv_cn M) a) : M 1 4 = nI (a 0 1) := h 0 1 (Or.inl ⟨rfl, by omega⟩)
theorem c_n2 {M : zz_Mem} {a : pv_A} (h : pv_St (pv_cn M) a) : M 1 8 = nI (a 0 2) := h 0 2 (Or.inl ⟨rfl, by omega⟩)
theorem c_day {M : zz_Mem} {a : pv_A} (h : pv_St (pv_cn M) a) {i : Nat} (hi : i < a 0 0) : M 6 i = nI (a 1 i) := h 1 i (Or.inr (Or.inl ⟨by omega, hi⟩))
theorem c_pla {M : zz_Mem} {a : pv_A} (h : pv_St (pv_cn M) a) {i : Nat} (hi : i < a 0 0) : M 7 i = nI (a 2 i) := h 2 i (Or.inr (Or.inl ⟨by omega, hi⟩))
theorem c_cho {M : zz_Mem} {a : pv_A} (h : pv_St (pv_cn M) a) {i : Nat} (hi : i < a 0 0) : M 8 i = nI (a 3 i) - 1 := h 3 i (Or.inr (Or.inl ⟨by omega, hi⟩))
theorem c_law {M : zz_Mem} {a : pv_A} (h : pv_St (pv_cn M) a) {i : Nat} (hi : i < a 0 1) : M 9 i = nI (a 4 i) := h 4 i (Or.inr (Or.inr (Or.inl ⟨by omega, hi⟩)))
theorem c_rat {M : zz_Mem} {a : pv_A} (h : pv_St (pv_cn M) a) {i : Nat} (hi : i < a 0 1) : M 10 i = nI (a 5 i) := h 5 i (Or.inr (Or.inr (Or.inl ⟨by omega, hi⟩)))
theorem c_lou {M : zz_Mem} {a : pv_A} (h : pv_St (pv_cn M) a) {i : Nat} (hi : i < a 0 1) : M 11 i = nI (a 6 i) := h 6 i (Or.inr (Or.inr (Or.inl ⟨by omega, hi⟩)))
theorem c_sce {M : zz_Mem} {a : pv_A} (h : pv_St (pv_cn M) a) {i : Nat} (hi : i < a 0 2) : M 12 i = nI (a 7 i) := h 7 i (Or.inr (Or.inr (Or.inr (Or.inl ⟨by omega, hi⟩))))
theorem c_fla {M : zz_Mem} {a : pv_A} (h : pv_St (pv_cn M) a) {i : Nat} (hi : i < a 0 2) : M 13 i = nI (a 8 i) := h 8 i (Or.inr (Or.inr (Or.inr (Or.inl ⟨by omega, hi⟩))))
theorem c_mea {M : zz_Mem} {a : pv_A} (h : pv_St (pv_cn M) a) {i : Nat} (hi : i < 6 * a 0 2) : M 14 i = nI (a 9 i) - 1 := h 9 i (Or.inr (Or.inr (Or.inr (Or.inr ⟨rfl, hi⟩))))
theorem r_n0 {M : zz_Mem} {a : pv_A} (h : pv_St (pv_rn M) a) : M 0 0 = nI (a 0 0) := h 0 0 (Or.inl ⟨rfl, by omega⟩)
theorem r_n1 {M : zz_Mem} {a : pv_A} (h : pv_St (pv_rn M) a) : M 0 4 = nI (a 0 1) := h 0 1 (Or.inl ⟨rfl, by omega⟩)
theorem r_n2 {M : zz_Mem} {a : pv_A} (h : pv_St (pv_rn M) a) : M 0 8 = nI (a 0 2) := h 0 2 (Or.inl ⟨rfl, by omega⟩)
theorem r_day {M : zz_Mem} {a : pv_A} (h : pv_St (pv_rn M) a) {i : Nat} (hi : i < a 0 0) : M 1 i = nI (a 1 i) := h 1 i (Or.inr (Or.inl ⟨by omega, hi⟩))
theorem r_pla {M : zz_Mem} {a : pv_A} (h : pv_St (pv_rn M) a) {i : Nat} (hi : i < a 0 0) : M 2 i = nI (a 2 i) := h 2 i (Or.inr (Or.inl ⟨by omega, hi⟩))
theorem r_cho {M : zz_Mem} {a : pv_A} (h : pv_St (pv_rn M) a) {i : Nat} (hi : i < a 0 0) : M 3 i = nI (a 3 i) - 1 := h 3 i (Or.inr (Or.inl ⟨by omega, hi⟩))
theorem r_law {M : zz_Mem} {a : pv_A} (h : pv_St (pv_rn M) a) {i : Nat} (hi : i < a 0 1) : M 4 i = nI (a 4 i) := h 4 i (Or.inr (Or.inr (Or.inl ⟨by omega, hi⟩)))
theorem r_rat {M : zz_Mem} {a : pv_A} (h : pv_St (pv_rn M) a) {i : Nat} (hi : i < a 0 1) : M 5 i = nI (a 5 i) := h 5 i (Or.inr (Or.inr (Or.inl ⟨by omega, hi⟩)))
theorem r_lou {M : zz_Mem} {a : pv_A} (h : pv_St (pv_rn M) a) {i : Nat} (hi : i < a 0 1) : M 6 i = nI (a 6 i) := h 6 i (Or.inr (Or.inr (Or.inl ⟨by omega, hi⟩)))
theorem r_sce {M : zz_Mem} {a : pv_A} (h : pv_St (pv_rn M) a) {i : Nat} (hi : i < a 0 2) : M 7 i = nI (a 7 i) := h 7 i (Or.inr (Or.inr (Or.inr (Or.inl ⟨by omega, hi⟩))))
theorem r_fla {M : zz_Mem} {a : pv_A} (h : pv_St (pv_rn M) a) {i : Nat} (hi : i < a 0 2) : M 8 i = nI (a 8 i) := h 8 i (Or.inr (Or.inr (Or.inr (Or.inl ⟨by omega, hi⟩))))
theorem r_mea {M : zz_Mem} {a : pv_A} (h : pv_St (pv_rn M) a) {i : Nat} (hi : i < 6 * a 0 2) : M 9 i = nI (a 9 i) - 1 := h 9 i (Or.inr (Or.inr (Or.inr (Or.inr ⟨rfl, hi⟩))))

def pv_i (b : Bool) : Int32 := if b then 1 else 0
def pv_bt (x lo hi : Int32) : Bool := !decide (x < lo) && !decide (hi < x)
def pv_ok (x : Int32) (n : Nat) : Bool := !decide (x < 0) && !decide (nI n ≤ x)
theorem pv_i1 (b : Bool) : pv_i b &&& 1 = pv_i b := by cases b <;> decide
theorem pv_i0 (b : Bool) : pv_i b = 0 ↔ b = false := by cases b <;> decide
theorem pv_ift {α : Type} (b : Bool) (x y : α) : (if pv_i b = 0 then x else y) = if b = true then y else x := by cases b <;> rfl
theorem pv_ok_of {x : Int32} {n : Nat} (hn : n < 2 ^ 31) (h : pv_ok x n = true) : ∃ j, j < n ∧ x = nI j := by
  simp only [pv_ok, Bool.and_eq_true, Bool.not_eq_true', decide_eq_false_iff_not] at h
  exact pn_val hn h.1 h.2
theorem pv_ok_nI {j n : Nat} (hn : n < 2 ^ 31) (hj : j < n) : pv_ok (nI j) n = true := by
  simp only [pv_ok, Bool.and_eq_true, Bool.not_eq_true', decide_eq_false_iff_not]
  exact ⟨nI_pos (by omega), nI_ge hj hn⟩
theorem pv_bt_of {x : Int32} {lo hi : Nat} (hh : hi < 2 ^ 31) (h : pv_bt x (nI lo) (nI hi) = true) (hl : lo < 2 ^ 31) : ∃ j, lo ≤ j ∧ j ≤ hi ∧ x = nI j := by
  simp only [pv_bt, Bool.and_eq_true, Bool.not_eq_true', decide_eq_false_iff_not] at h
  have h0 : ¬ x < 0 := fun q => h.1 (Int32.lt_of_lt_of_le q (nI_pos' hl))
  obtain ⟨j, hj, rfl⟩ := nI_of h0
  rw [nI_ltI hj hl, nI_ltI hh hj] at h
  exact ⟨j, by omega, by omega, rfl⟩
theorem pv_bt1_of {x : Int32} {hi : Nat} (hh : hi < 2 ^ 29) (h : pv_bt x (-1) (nI hi) = true) : ∃ j, j ≤ hi + 1 ∧ x = nI j - 1 := by
  simp only [pv_bt, Bool.and_eq_true, Bool.not_eq_true', decide_eq_false_iff_not] at h
  by_cases h0 : x < 0
  · refine ⟨0, by omega, ?_⟩
    have h1 := h.1
    rw [Int32.lt_iff_toInt_lt] at h0 h1
    rw [← Int32.toInt_inj, pn_m1 (by omega)]
    rw [show (0 : Int32).toInt = 0 from rfl] at h0
    rw [show (-1 : Int32).toInt = -1 from by decide] at h1
    omega
  · obtain ⟨j, hj, rfl⟩ := nI_of h0
    rw [nI_ltI (by omega) hj] at h
    exact ⟨j + 1, by omega, (nI_pred j).symm⟩
theorem pn_sub {x y : Nat} (hx : x < 2 ^ 30) (hy : y < 2 ^ 30) : (nI x - nI y).toInt = (x : Int) - y := by
  rw [Int32.toInt_sub, nI_toInt (by omega), nI_toInt (by omega)]
  exact Int.bmod_eq_of_le (by omega) (by omega)
theorem pn_sub0 {x y : Nat} (hx : x < 2 ^ 30) (hy : y < 2 ^ 30) : nI x - nI y = 0 ↔ x = y := by
  rw [← Int32.toInt_inj, pn_sub hx hy, show (0 : Int32).toInt = 0 from rfl]
  omega
theorem pn_subn {x y : Nat} (hx : x < 2 ^ 30) (hy : y < 2 ^ 30) : 0 ≤ nI x - nI y ↔ y ≤ x := by
  rw [Int32.le_iff_toInt_le, pn_sub hx hy, show (0 : Int32).toInt = 0 from rfl]
  omega
theorem pn_subN {x y : Nat} (h : y ≤ x) : nI x - nI y = nI (x - y) := pk_sub h
theorem pn_lt1 {n : Nat} {x : Int32} (hn : n < 2 ^ 30) : nI n - 1 < x ↔ nI n ≤ x := by
  rw [Int32.lt_iff_toInt_lt, Int32.le_iff_toInt_le, pn_m1 hn, nI_toInt (by omega)]
  omega
theorem c_between (x lo hi : Int32) (M : zz_Mem) : f_X4_isBetween x lo hi M = some (pv_i (pv_bt x lo hi), M) := by
  unfold f_X4_isBetween pv_bt
  by_cases h1 : x < lo <;> by_cases h2 : hi < x <;> simp only [h1, h2, if_true, if_false, decide_true, decide_false] <;> rfl
theorem r_in (x lo hi : Int32) (M : zz_Mem) : f_X5_in x lo hi M = some (pv_i (pv_bt x lo hi), M) := by
  unfold f_X5_in pv_bt
  by_cases h1 : x < lo <;> by_cases h2 : hi < x <;> simp only [h1, h2, if_true, if_false, decide_true, decide_false] <;> rfl
theorem c_dp (x y : Int32) (M : zz_Mem) : f_X4_isDayAndPlace x y M = some (pv_i (pv_bt x 0 99 && pv_bt y 0 99), M) := by
  unfold f_X4_isDayAndPlace
  simp only [c_between, zb2, pv_ift]
  cases pv_bt x 0 99 <;> cases pv_bt y 0 99 <;> rfl
theorem c_isS {M : zz_Mem} {a : pv_A} (h : pv_St (pv_cn M) a) (x : Int32) : f_X3_isScene x M = some (pv_i (pv_ok x (a 0 0)), M) := by
  unfold f_X3_isScene pv_ok
  rw [c_n0 h]
  by_cases h1 : x < 0 <;> by_cases h2 : nI (a 0 0) ≤ x <;> simp only [h1, h2, if_true, if_false, decide_true, decide_false] <;> rfl
theorem r_isS {M : zz_Mem} {a : pv_A} (h : pv_St (pv_rn M) a) (hw : pv_W a) (x : Int32) : f_X5_isScene x M = some (pv_i (pv_ok x (a 0 0)), M) := by
  unfold f_X5_isScene
  have hb := hw.1
  rw [r_n0 h, r_in, zb2]
  have e : pv_bt x 0 (nI (a 0 0) - 1) = pv_ok x (a 0 0) := by unfold pv_bt pv_ok; simp only [pn_lt1 (show a 0 0 < 2 ^ 30 by omega)]
  rw [e, if_pos (pv_i1 _)]
theorem c_isT {M : zz_Mem} {a : pv_A} (h : pv_St (pv_cn M) a) (x : Int32) : f_X3_isThing x M = some (pv_i (pv_ok x (a 0 1)), M) := by
  unfold f_X3_isThing pv_ok
  rw [c_n1 h]
  by_cases h1 : x < 0 <;> by_cases h2 : nI (a 0 1) ≤ x <;> simp only [h1, h2, if_true, if_false, decide_true, decide_false] <;> rfl
theorem r_isT {M : zz_Mem} {a : pv_A} (h : pv_St (pv_rn M) a) (hw : pv_W a) (x : Int32) : f_X5_isThing x M = some (pv_i (pv_ok x (a 0 1)), M) := by
  unfold f_X5_isThing
  have hb := hw.1
  rw [r_n1 h, r_in, zb2]
  have e : pv_bt x 0 (nI (a 0 1) - 1) = pv_ok x (a 0 1) := by unfold pv_bt pv_ok; simp only [pn_lt1 (show a 0 1 < 2 ^ 30 by omega)]
  rw [e, if_pos (pv_i1 _)]
theorem c_isK {M : zz_Mem} {a : pv_A} (h : pv_St (pv_cn M) a) (x : Int32) : f_X3_isTake x M = some (pv_i (pv_ok x (a 0 2)), M) := by
  unfold f_X3_isTake pv_ok
  rw [c_n2 h]
  by_cases h1 : x < 0 <;> by_cases h2 : nI (a 0 2) ≤ x <;> simp only [h1, h2, if_true, if_false, decide_true, decide_false] <;> rfl
theorem r_isK {M : zz_Mem} {a : pv_A} (h : pv_St (pv_rn M) a) (hw : pv_W a) (x : Int32) : f_X5_isTake x M = some (pv_i (pv_ok x (a 0 2)), M) := by
  unfold f_X5_isTake
  have hb := hw.1
  rw [r_n2 h, r_in, zb2]
  have e : pv_bt x 0 (nI (a 0 2) - 1) = pv_ok x (a 0 2) := by unfold pv_bt pv_ok; simp only [pn_lt1 (show a 0 2 < 2 ^ 30 by omega)]
  rw [e, if_pos (pv_i1 _)]
