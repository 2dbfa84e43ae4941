/-! what a cut costs -/
def pa_prow (a : pv_A) (c : Nat → Nat) (s : Nat) : Nat → Nat := fun o => if c s = 0 then 0 else if c o = 0 then 0 else pa_no a (c s - 1) (c o - 1)
def pa_row (a : pv_A) (c : Nat → Nat) (s : Nat) : Nat := (if c s = 0 then 0 else a 8 (c s - 1)) + zz_S (pa_prow a c s) s
def pa_cost (a : pv_A) (c : Nat → Nat) (n : Nat) : Nat := zz_S (pa_row a c) n
theorem pv_ch {a : pv_A} (hw : pv_W a) {s : Nat} (hs : s < a 0 0) : a 3 s ≤ a 0 2 := by
  have := hw.2.1 s hs
  omega
theorem c_both {M : zz_Mem} {a : pv_A} (h : pv_St (pv_cn M) a) (hw : pv_W a) {s o : Nat} (hs : s < a 0 0) (ho : o < a 0 0) : f_X3_areBothChosen (nI s) (nI o) M = some (pv_i (!decide (a 3 s = 0) && !decide (a 3 o = 0)), M) := by
  have hb := hw.1
  have e1 := pv_chb hw hs
  have e2 := pv_chb hw ho
  unfold f_X3_areBothChosen
  rw [if_pos (pn_in (by omega) (by omega)), if_pos (pn_in (by omega) (by omega)), nI_clamp (by omega), nI_clamp (by omega), c_cho h hs, c_cho h ho]
  simp only [pn_em1 (show a 3 s < 2 ^ 30 by omega), pn_em1 (show a 3 o < 2 ^ 30 by omega)]
  by_cases q1 : a 3 s = 0 <;> by_cases q2 : a 3 o = 0 <;> simp only [q1, q2, if_true, if_false, decide_true, decide_false] <;> rfl
theorem c_chNoise {M : zz_Mem} {a : pv_A} (h : pv_St (pv_cn M) a) (hw : pv_W a) {s o : Nat} (hs : s < a 0 0) (ho : o < a 0 0) : f_X3_chosenNoiseOf (nI s) (nI o) M = some (nI (pa_prow a (a 3) s o), M) := by
  have hb := hw.1
  have e1 := pv_ch hw hs
  have e2 := pv_ch hw ho
  unfold f_X3_chosenNoiseOf pa_prow
  rw [c_both h hw hs ho, zb2, pv_ift, if_pos (show zz_in (nI s) 6 from pn_in (by omega) (by omega)), if_pos (show zz_in (nI o) 6 from pn_in (by omega) (by omega)), nI_clamp (by omega), nI_clamp (by omega), c_cho h hs, c_cho h ho]
  by_cases q1 : a 3 s = 0
  · simp only [q1, decide_true, if_true]; rfl
  · by_cases q2 : a 3 o = 0
    · simp only [q1, q2, decide_true, decide_false, if_true, if_false]; rfl
    · obtain ⟨x, ex⟩ : ∃ x, a 3 s = x + 1 := ⟨a 3 s - 1, by omega⟩
      obtain ⟨y, ey⟩ : ∃ y, a 3 o = y + 1 := ⟨a 3 o - 1, by omega⟩
      simp only [ex, ey, nI_pred, Nat.add_sub_cancel]
      rw [c_noise h hw (by omega) (by omega), zb2]
      simp
theorem c_costIn {M : zz_Mem} {a : pv_A} (h : pv_St (pv_cn M) a) (hw : pv_W a) {s : Nat} (hs : s < a 0 0) (v : Nat) : f_X3_costOfChosen_38 (nI s) 5000 (nI v) 0 M = some (nI (v + zz_S (pa_prow a (a 3) s) s), nI s, M) := by
  have hb := hw.1
  have key := zz_iter (fun n (x : Int32 × Int32 × zz_Mem) => f_X3_costOfChosen_38 (nI s) n x.1 x.2.1 x.2.2) (fun i => (nI (v + zz_S (pa_prow a (a 3) s) i), nI i, M)) s (some (nI (v + zz_S (pa_prow a (a 3) s) s), nI s, M)) ?_ ?_ 5000 (by omega)
  · exact key
  · intro n i hi
    dsimp only
    rw [f_X3_costOfChosen_38, if_neg (nI_ge hi (by omega)), c_chNoise h hw hs (by omega), zb2, nI_add, pn_1, zz_S, Nat.add_assoc]
  · intro n
    dsimp only
    rw [f_X3_costOfChosen_38, if_pos (Int32.le_refl _)]
theorem c_cost {M : zz_Mem} {a : pv_A} (h : pv_St (pv_cn M) a) (hw : pv_W a) : f_X3_costOfChosen M = some (nI (pa_cost a (a 3) (a 0 0)), M) := by
  have hb := hw.1
  have key := zz_iter (fun n (x : Int32 × Int32 × zz_Mem) => f_X3_costOfChosen_4 n x.1 x.2.1 x.2.2) (fun i => (nI (pa_cost a (a 3) i), nI i, M)) (a 0 0) (some (nI (pa_cost a (a 3) (a 0 0)), nI (a 0 0), M)) ?_ ?_ 5000 (by omega)
  · unfold f_X3_costOfChosen
    have e0 : pa_cost a (a 3) 0 = 0 := rfl
    dsimp only at key
    rw [e0, nI_0] at key
    rw [key, zb3]
  · intro n i hi
    dsimp only
    have e1 := pv_ch hw hi
    rw [f_X3_costOfChosen_4, c_n0 h, if_neg (nI_ge hi (by omega)), if_pos (pn_in (by omega) (by omega)), nI_clamp (by omega), c_cho h hi]
    simp only [pn_em1 (show a 3 i < 2 ^ 30 by omega)]
    have e : pa_cost a (a 3) (i + 1) = pa_cost a (a 3) i + pa_row a (a 3) i := rfl
    rw [e]
    unfold pa_row
    by_cases q : a 3 i = 0
    · rw [if_pos q, if_pos q, c_costIn h hw hi, zb3, pn_1, Nat.zero_add]
    · obtain ⟨x, ex⟩ : ∃ x, a 3 i = x + 1 := ⟨a 3 i - 1, by omega⟩
      have ef := c_fla h (i := x) (by omega)
      rw [if_neg q, if_neg q, ex, nI_pred, if_pos (pn_in (by omega) (by omega)), nI_clamp (by omega), ef, nI_add, c_costIn h hw hi, zb3, pn_1, Nat.add_sub_cancel, Nat.add_assoc]
  · intro n
    dsimp only
    rw [f_X3_costOfChosen_4, c_n0 h, if_pos (Int32.le_refl _)]
/-! the reference's, over the row ka -/
theorem r_costIn {M : zz_Mem} {a : pv_A} (hw : pv_W a) {ka : Nat} {c : Nat → Nat} (hc : ∀ s, s < a 0 0 → M ka s = nI (c s) - 1 ∧ c s ≤ a 0 2) (hn : ∀ i j, i < a 0 2 → j < a 0 2 → M 15 (16 * i + j) = nI (pa_no a i j)) {s : Nat} (hs : s < a 0 0) (v : Nat) : ∃ z, f_X5_costOf_15 ka 6 (nI s) 5000 (nI v) 0 M = some (nI (v + zz_S (pa_prow a c s) s), z, M) := by
  have hb := hw.1
  have cs := hc s hs
  by_cases q : c s = 0
  · have e0 : zz_S (pa_prow a c s) s = 0 := zz_S_0 (fun i _ => by unfold pa_prow; rw [if_pos q])
    rw [e0]
    by_cases hs0 : s = 0
    · subst hs0
      exact ⟨0, by rw [f_X5_costOf_15, if_pos (by decide)]; rfl⟩
    · refine ⟨0, ?_⟩
      rw [f_X5_costOf_15, if_neg (by rw [← nI_0]; exact nI_ge (by omega) (by omega)), if_pos (pn_in (by omega) (by omega)), nI_clamp (by omega), cs.1]
      rw [if_pos ((pn_neg (by omega)).mpr q)]
      rfl
  · refine ⟨nI s, ?_⟩
    have key := zz_iter (fun n (x : Int32 × Int32 × zz_Mem) => f_X5_costOf_15 ka 6 (nI s) n x.1 x.2.1 x.2.2) (fun i => (nI (v + zz_S (pa_prow a c s) i), nI i, M)) s (some (nI (v + zz_S (pa_prow a c s) s), nI s, M)) ?_ ?_ 5000 (by omega)
    · exact key
    · intro n i hi
      dsimp only
      have ci := hc i (by omega)
      rw [f_X5_costOf_15, if_neg (nI_ge hi (by omega)), if_pos (pn_in (by omega) (by omega)), if_pos (show zz_in (nI i) 6 from pn_in (by omega) (by omega)), nI_clamp (by omega), nI_clamp (by omega), cs.1, ci.1, if_neg (by rw [pn_neg (by omega)]; exact q), zz_S]
      obtain ⟨x, ex⟩ : ∃ x, c s = x + 1 := ⟨c s - 1, by omega⟩
      have ep : pa_prow a c s i = if c i = 0 then 0 else pa_no a x (c i - 1) := by unfold pa_prow; rw [if_neg q, ex, Nat.add_sub_cancel]
      rw [ep]
      by_cases q2 : c i = 0
      · rw [if_neg (by rw [pn_nn (by omega)]; simp [q2]), if_pos q2, Int32.add_zero, pn_1]
        rfl
      · obtain ⟨y, ey⟩ : ∃ y, c i = y + 1 := ⟨c i - 1, by omega⟩
        rw [if_pos (by rw [pn_nn (by omega)]; exact q2), if_neg q2, ex, ey, nI_pred, nI_pred, show (16 : Int32) * nI x + nI y = nI (16 * x + y) by rw [show (16 : Int32) = nI 16 from rfl, pk_mul, nI_add], if_pos (pn_in (by omega) (by omega)), nI_clamp (by omega), hn x y (by omega) (by omega), nI_add, pn_1, Nat.add_sub_cancel, Nat.add_assoc]
    · intro n
      dsimp only
      rw [f_X5_costOf_15, if_pos (Int32.le_refl _)]
theorem r_cost {M : zz_Mem} {a : pv_A} (h : pv_St (pv_rn M) a) (hw : pv_W a) {ka : Nat} {c : Nat → Nat} (hc : ∀ s, s < a 0 0 → M ka s = nI (c s) - 1 ∧ c s ≤ a 0 2) (hn : ∀ i j, i < a 0 2 → j < a 0 2 → M 15 (16 * i + j) = nI (pa_no a i j)) : f_X5_costOf ka 6 M = some (nI (pa_cost a c (a 0 0)), M) := by
  have hb := hw.1
  have key := zz_iter (fun n (x : Int32 × Int32 × zz_Mem) => f_X5_costOf_4 ka 6 n x.1 x.2.1 x.2.2) (fun i => (nI (pa_cost a c i), nI i, M)) (a 0 0) (some (nI (pa_cost a c (a 0 0)), nI (a 0 0), M)) ?_ ?_ 5000 (by omega)
  · unfold f_X5_costOf
    have e0 : pa_cost a c 0 = 0 := rfl
    dsimp only at key
    rw [e0, nI_0] at key
    rw [key, zb3]
  · intro n i hi
    dsimp only
    have ci := hc i hi
    obtain ⟨z, ez⟩ := r_costIn hw hc hn hi (pa_cost a c i)
    rw [f_X5_costOf_4, r_n0 h, if_neg (nI_ge hi (by omega)), ez, zb3, if_pos (pn_in (by omega) (by omega)), nI_clamp (by omega), ci.1]
    have e : pa_cost a c (i + 1) = pa_cost a c i + pa_row a c i := rfl
    rw [e]
    unfold pa_row
    by_cases q : c i = 0
    · rw [if_neg (by rw [pn_nn (by omega)]; simp [q]), if_pos q, Int32.add_zero, pn_1, Nat.zero_add]
    · obtain ⟨x, ex⟩ : ∃ x, c i = x + 1 := ⟨c i - 1, by omega⟩
      have ef := r_fla h (i := x) (by omega)
      rw [if_pos (by rw [pn_nn (by omega)]; exact q), if_neg q, ex, nI_pred, if_pos (pn_in (by omega) (by omega)), nI_clamp (by omega), ef, nI_add, pn_1, Nat.add_sub_cancel]
      congr 2
      omega
  · intro n
    dsimp only
    rw [f_X5_costOf_4, r_n0 h, if_pos (Int32.le_refl _)]
