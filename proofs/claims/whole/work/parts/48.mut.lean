/-! what leaves the state alone; the changes -/
theorem pv_sC {M M' : zz_Mem} (h : ∀ k, k ≤ 2 ∨ (6 ≤ k ∧ k ≤ 23) → M' k = M k) : pv_cn M' = pv_cn M ∧ pv_ck M' = pv_ck M ∧ M' 0 2 = M 0 2 := by
  refine ⟨?_, ?_, by rw [h 0 (by omega)]⟩
  · funext k j
    unfold pv_cn
    by_cases e : k = 0
    · simp only [e, if_true]; rw [h 1 (by omega)]
    · by_cases e2 : k ≤ 9
      · simp only [e, e2, if_true, if_false]; rw [h (k + 5) (by omega)]
      · simp only [e, e2, if_false]
  · funext k j
    unfold pv_ck
    by_cases e : k = 0
    · simp only [e, if_true]; rw [h 2 (by omega)]
    · by_cases e2 : k ≤ 9
      · simp only [e, e2, if_true, if_false]; rw [h (k + 14) (by omega)]
      · simp only [e, e2, if_false]
theorem pv_sR {M M' : zz_Mem} (h : ∀ k, 1 ≤ k → k ≤ 12 → M' k = M k) (h0 : ∀ j, j ≤ 12 → M' 0 j = M 0 j) : pv_rn M' = pv_rn M ∧ pv_rk M' = pv_rk M ∧ M' 0 12 = M 0 12 := by
  refine ⟨?_, ?_, h0 12 (by omega)⟩
  · funext k j
    unfold pv_rn
    by_cases e : k = 0
    · simp only [e, if_true]
      by_cases e3 : j < 3
      · simp only [e3, if_true]; rw [h0 (4 * j) (by omega)]
      · simp only [e3, if_false]
    · by_cases e2 : k ≤ 9
      · simp only [e, e2, if_true, if_false]; rw [h k (by omega) (by omega)]
      · simp only [e, e2, if_false]
  · funext k j
    unfold pv_rk
    rw [h 10 (by omega) (by omega), h 11 (by omega) (by omega), h 12 (by omega) (by omega)]
theorem pv_Rel.same {MC MR MC' MR' : zz_Mem} (hR : pv_Rel MC MR) (h1 : ∀ k, k ≤ 2 ∨ (6 ≤ k ∧ k ≤ 23) → MC' k = MC k) (h2 : ∀ k, 1 ≤ k → k ≤ 12 → MR' k = MR k) (h3 : ∀ j, j ≤ 12 → MR' 0 j = MR 0 j) : pv_Rel MC' MR' := by
  obtain ⟨a1, a2, a3⟩ := pv_sC h1
  obtain ⟨b1, b2, b3⟩ := pv_sR h2 h3
  unfold pv_Rel
  rw [a1, a2, a3, b1, b2, b3]
  exact hR
theorem pr_row_at (a : pv_A) (g : Nat → Int32) {i j : Nat} (hi : i < a 0 2) (hj : j < a 0 2) (hw : pv_W a) : pr_row a g (a 0 2) 0 (16 * i + j) = nI (pa_no a i j) := by
  have hb := hw.1
  unfold pr_row
  rw [show (16 * i + j) / 16 = i by omega, show (16 * i + j) % 16 = j by omega, if_pos (by omega)]
theorem st_chosen : zz_Step_chosen pv_Rel := by
  intro MC MR hR
  obtain ⟨⟨a, hw, hc, hx, hr⟩, hk⟩ := id hR
  unfold f_X4_chosen f_X5_chosen
  have hr' : pv_St (pv_rn (zz_set MR 15 (pr_row a (MR 15) (a 0 2) 0))) a := by rw [pv_rn_15]; exact hr
  have e := r_cost hr' hw (ka := 3) (c := a 3) (fun s hs => ⟨r_cho hr' hs, pv_ch hw hs⟩) (fun i j hi hj => by rw [zz_set_self]; exact pr_row_at a _ hi hj hw)
  rw [c_cost hc hw, zb2, r_noises hr hw, zb1, e, zb2]
  exact ⟨_, MC, _, rfl, rfl, hR.same (fun _ _ => rfl) (fun k _ _ => zz_set_ne _ _ (by omega)) (fun j _ => by rw [zz_set_ne _ _ (by omega)])⟩
/-- one place of a row of the state (view k) changes on both sides -/
theorem pv_cn_up (M : zz_Mem) {c : Nat} (h1 : 6 ≤ c) (h2 : c ≤ 14) (i : Nat) (x : Int32) : pv_cn (zz_up M c i x) = pv_up (pv_cn M) (c - 5) i x := by
  funext k j
  unfold pv_cn pv_up zz_up upd
  by_cases e : k = 0
  · simp only [e, if_true]
    rw [zz_set_ne _ _ (by omega), if_neg (by omega)]
  · by_cases e2 : k ≤ 9
    · simp only [e, e2, if_true, if_false]
      by_cases e3 : k + 5 = c
      · subst e3
        rw [zz_set_self]
        by_cases e4 : j = i
        · rw [if_pos e4, if_pos (by omega)]
        · rw [if_neg e4, if_neg (by omega)]
      · rw [zz_set_ne _ _ e3, if_neg (by omega)]
    · simp only [e, e2, if_false]
      rw [if_neg (by omega)]
theorem pv_cn_up0 (M : zz_Mem) {j : Nat} (hj : j < 3) (x : Int32) : pv_cn (zz_up M 1 (4 * j) x) = pv_up (pv_cn M) 0 j x := by
  funext k i
  simp only [pv_cn, pv_up, zz_up]
  by_cases e : k = 0
  · subst e
    simp only [if_true, zz_set_self, upd, true_and]
    by_cases e4 : i = j
    · subst e4; simp
    · have : ¬ 4 * i = 4 * j := by omega
      simp [e4, this]
  · simp only [e, if_false, false_and]
    by_cases e2 : k ≤ 9
    · simp only [e2, if_true]
      rw [zz_set_ne _ _ (show k + 5 ≠ 1 by omega)]
    · simp only [e2, if_false]
theorem pv_rn_up (M : zz_Mem) {c : Nat} (h1 : 1 ≤ c) (h2 : c ≤ 9) (i : Nat) (x : Int32) : pv_rn (zz_up M c i x) = pv_up (pv_rn M) c i x := by
  funext k j
  simp only [pv_rn, pv_up, zz_up]
  by_cases e : k = 0
  · subst e
    have h0 : ¬ (0 = c ∧ j = i) := by omega
    simp only [if_true, h0, if_false]
    rw [zz_set_ne _ _ (show 0 ≠ c by omega)]
  · by_cases e2 : k ≤ 9
    · simp only [e, e2, if_true, if_false]
      by_cases e3 : k = c
      · subst e3
        simp only [zz_set_self, upd, true_and]
      · rw [zz_set_ne _ _ e3]
        simp only [e3, false_and, if_false]
    · have h0 : ¬ (k = c ∧ j = i) := by omega
      simp only [e, e2, h0, if_false]
theorem pv_rn_up0 (M : zz_Mem) {j : Nat} (hj : j < 3) (x : Int32) : pv_rn (zz_up M 0 (4 * j) x) = pv_up (pv_rn M) 0 j x := by
  funext k i
  simp only [pv_rn, pv_up, zz_up]
  by_cases e : k = 0
  · subst e
    simp only [if_true, zz_set_self, upd, true_and]
    by_cases e4 : i = j
    · subst e4; simp [hj]
    · have : ¬ 4 * i = 4 * j := by omega
      simp only [e4, this, if_false]
  · simp only [e, if_false, false_and]
    by_cases e2 : k ≤ 9
    · simp only [e2, if_true]
      rw [zz_set_ne _ _ e]
    · simp only [e2, if_false]
theorem pv_ck_up (M : zz_Mem) {c : Nat} (h : c ≤ 14) (h2 : c ≠ 2) (i : Nat) (x : Int32) : pv_ck (zz_up M c i x) = pv_ck M := by
  funext k j
  unfold pv_ck zz_up
  by_cases e : k = 0
  · simp only [e, if_true]; rw [zz_set_ne _ _ (by omega)]
  · by_cases e2 : k ≤ 9
    · simp only [e, e2, if_true, if_false]; rw [zz_set_ne _ _ (by omega)]
    · simp only [e, e2, if_false]
theorem pv_rk_up (M : zz_Mem) {c : Nat} (h : c ≤ 9) (i : Nat) (x : Int32) : pv_rk (zz_up M c i x) = pv_rk M := by
  unfold pv_rk zz_up
  rw [zz_set_ne _ _ (show 10 ≠ c by omega), zz_set_ne _ _ (show 11 ≠ c by omega), zz_set_ne _ _ (show 12 ≠ c by omega)]
theorem zz_up_ne (M : zz_Mem) {c k : Nat} (i : Nat) (x : Int32) (h : k ≠ c) : zz_up M c i x k = M k := zz_set_ne _ _ h
/-- a new relation after a change of the present state alone -/
theorem pv_Rel.now {MC MR MC' MR' : zz_Mem} (hR : pv_Rel MC MR) (h : pv_R (pv_cn MC') (pv_rn MR')) (h1 : pv_ck MC' = pv_ck MC) (h2 : pv_rk MR' = pv_rk MR) (h3 : MC' 0 2 = MC 0 2) (h4 : MR' 0 12 = MR 0 12) : pv_Rel MC' MR' := by
  unfold pv_Rel
  rw [h1, h2, h3, h4]
  exact ⟨h, hR.2⟩
