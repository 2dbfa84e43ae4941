set_option maxHeartbeats 4000000 in
theorem r_keep (M : zz_Mem) : ∃ M', f_X5_keep M = some (1, M') ∧ (∀ k, 1 ≤ k → k ≤ 9 → M' k = M k) ∧ (∀ j, j ≠ 12 → M' 0 j = M 0 j) ∧ M' 0 12 = 1 ∧ ∀ k i, pv_b k i → pv_rk M' k i = pv_rn M k i := by
  have c0 : ∀ M, f_X5_copy 1 6 11 36 0 0 6 M = some (zz_cp M 1 11 0 0 6) := fun M => r_copy M (p := 0) (q := 0) (n := 6) (by omega) (by omega) (by omega) (by omega) (by omega) (by omega)
  have c1 : ∀ M, f_X5_copy 2 6 11 36 0 6 6 M = some (zz_cp M 2 11 0 6 6) := fun M => r_copy M (p := 0) (q := 6) (n := 6) (by omega) (by omega) (by omega) (by omega) (by omega) (by omega)
  have c2 : ∀ M, f_X5_copy 3 6 11 36 0 12 6 M = some (zz_cp M 3 11 0 12 6) := fun M => r_copy M (p := 0) (q := 12) (n := 6) (by omega) (by omega) (by omega) (by omega) (by omega) (by omega)
  have c3 : ∀ M, f_X5_copy 4 6 11 36 0 18 6 M = some (zz_cp M 4 11 0 18 6) := fun M => r_copy M (p := 0) (q := 18) (n := 6) (by omega) (by omega) (by omega) (by omega) (by omega) (by omega)
  have c4 : ∀ M, f_X5_copy 5 6 11 36 0 24 6 M = some (zz_cp M 5 11 0 24 6) := fun M => r_copy M (p := 0) (q := 24) (n := 6) (by omega) (by omega) (by omega) (by omega) (by omega) (by omega)
  have c5 : ∀ M, f_X5_copy 6 6 11 36 0 30 6 M = some (zz_cp M 6 11 0 30 6) := fun M => r_copy M (p := 0) (q := 30) (n := 6) (by omega) (by omega) (by omega) (by omega) (by omega) (by omega)
  have c6 : ∀ M, f_X5_copy 7 16 12 128 0 0 16 M = some (zz_cp M 7 12 0 0 16) := fun M => r_copy M (p := 0) (q := 0) (n := 16) (by omega) (by omega) (by omega) (by omega) (by omega) (by omega)
  have c7 : ∀ M, f_X5_copy 8 16 12 128 0 16 16 M = some (zz_cp M 8 12 0 16 16) := fun M => r_copy M (p := 0) (q := 16) (n := 16) (by omega) (by omega) (by omega) (by omega) (by omega) (by omega)
  have c8 : ∀ M, f_X5_copy 9 96 12 128 0 32 96 M = some (zz_cp M 9 12 0 32 96) := fun M => r_copy M (p := 0) (q := 32) (n := 96) (by omega) (by omega) (by omega) (by omega) (by omega) (by omega)
  have u0 : ∀ j, j ≠ 12 → (zz_up M 0 12 1) 0 j = M 0 j := fun j hj => zz_up_ni _ _ _ hj
  unfold f_X5_keep
  rw [zc0, zc1, zc2]
  rw [zz_up_ne (zz_up (zz_up M 0 12 1) 10 0 ((zz_up M 0 12 1) 0 0)) (k := 0) (c := 10) 1 _ (by omega), zz_up_ne (zz_up M 0 12 1) (k := 0) (c := 10) 0 _ (by omega), u0 0 (by omega), u0 4 (by omega), u0 8 (by omega)]
  rw [c0, zb1, c1, zb1, c2, zb1, c3, zb1, c4, zb1, c5, zb1, c6, zb1, c7, zb1, c8, zb1]
  refine ⟨_, rfl, fun k h1 h2 => ?_, fun j hj => ?_, ?_, fun k i hb => ?_⟩
  · rw [zz_cp_ne _ _ _ _ (by omega), zz_cp_ne _ _ _ _ (by omega), zz_cp_ne _ _ _ _ (by omega), zz_cp_ne _ _ _ _ (by omega), zz_cp_ne _ _ _ _ (by omega), zz_cp_ne _ _ _ _ (by omega), zz_cp_ne _ _ _ _ (by omega), zz_cp_ne _ _ _ _ (by omega), zz_cp_ne _ _ _ _ (by omega), zz_up_ne _ _ _ (by omega), zz_up_ne _ _ _ (by omega), zz_up_ne _ _ _ (by omega), zz_up_ne _ _ _ (by omega)]
  · rw [zz_cp_ne _ _ _ _ (by omega), zz_cp_ne _ _ _ _ (by omega), zz_cp_ne _ _ _ _ (by omega), zz_cp_ne _ _ _ _ (by omega), zz_cp_ne _ _ _ _ (by omega), zz_cp_ne _ _ _ _ (by omega), zz_cp_ne _ _ _ _ (by omega), zz_cp_ne _ _ _ _ (by omega), zz_cp_ne _ _ _ _ (by omega), zz_up_ne _ _ _ (by omega), zz_up_ne _ _ _ (by omega), zz_up_ne _ _ _ (by omega), u0 j hj]
  · rw [zz_cp_ne _ _ _ _ (by omega), zz_cp_ne _ _ _ _ (by omega), zz_cp_ne _ _ _ _ (by omega), zz_cp_ne _ _ _ _ (by omega), zz_cp_ne _ _ _ _ (by omega), zz_cp_ne _ _ _ _ (by omega), zz_cp_ne _ _ _ _ (by omega), zz_cp_ne _ _ _ _ (by omega), zz_cp_ne _ _ _ _ (by omega), zz_up_ne _ _ _ (by omega), zz_up_ne _ _ _ (by omega), zz_up_ne _ _ _ (by omega), zz_up_at]
  · unfold pv_b at hb
    rcases hb with ⟨rfl, hi⟩ | ⟨rfl | rfl | rfl | rfl | rfl | rfl, hi⟩ | ⟨rfl | rfl, hi⟩ | ⟨rfl, hi⟩
    · show ((zz_cp (zz_cp (zz_cp (zz_cp (zz_cp (zz_cp (zz_cp (zz_cp (zz_cp (zz_up (zz_up (zz_up (zz_up M 0 12 1) 10 0 (M 0 0)) 10 1 (M 0 4)) 10 2 (M 0 8)) 1 11 0 0 6) 2 11 0 6 6) 3 11 0 12 6) 4 11 0 18 6) 5 11 0 24 6) 6 11 0 30 6) 7 12 0 0 16) 8 12 0 16 16) 9 12 0 32 96)) 10 i = pv_rn M 0 i
      rw [zz_cp_ne _ _ _ _ (by omega), zz_cp_ne _ _ _ _ (by omega), zz_cp_ne _ _ _ _ (by omega), zz_cp_ne _ _ _ _ (by omega), zz_cp_ne _ _ _ _ (by omega), zz_cp_ne _ _ _ _ (by omega), zz_cp_ne _ _ _ _ (by omega), zz_cp_ne _ _ _ _ (by omega), zz_cp_ne _ _ _ _ (by omega)]
      rcases (show i = 0 ∨ i = 1 ∨ i = 2 by omega) with rfl | rfl | rfl
      · rw [zz_up_ni _ _ _ (by omega), zz_up_ni _ _ _ (by omega), zz_up_at]; rfl
      · rw [zz_up_ni _ _ _ (by omega), zz_up_at]; rfl
      · rw [zz_up_at]; rfl
    · show ((zz_cp (zz_cp (zz_cp (zz_cp (zz_cp (zz_cp (zz_cp (zz_cp (zz_cp (zz_up (zz_up (zz_up (zz_up M 0 12 1) 10 0 (M 0 0)) 10 1 (M 0 4)) 10 2 (M 0 8)) 1 11 0 0 6) 2 11 0 6 6) 3 11 0 12 6) 4 11 0 18 6) 5 11 0 24 6) 6 11 0 30 6) 7 12 0 0 16) 8 12 0 16 16) 9 12 0 32 96)) 11 (0 + i) = M 1 i
      rw [zz_cp_ne _ _ _ _ (by omega), zz_cp_ne _ _ _ _ (by omega), zz_cp_ne _ _ _ _ (by omega), zz_cp_out _ (by omega), zz_cp_out _ (by omega), zz_cp_out _ (by omega), zz_cp_out _ (by omega), zz_cp_out _ (by omega), zz_cp_in _ (by omega) (by omega), zz_up_ne _ _ _ (by omega), zz_up_ne _ _ _ (by omega), zz_up_ne _ _ _ (by omega), zz_up_ne _ _ _ (by omega)]
      congr 1
      all_goals omega
    · show ((zz_cp (zz_cp (zz_cp (zz_cp (zz_cp (zz_cp (zz_cp (zz_cp (zz_cp (zz_up (zz_up (zz_up (zz_up M 0 12 1) 10 0 (M 0 0)) 10 1 (M 0 4)) 10 2 (M 0 8)) 1 11 0 0 6) 2 11 0 6 6) 3 11 0 12 6) 4 11 0 18 6) 5 11 0 24 6) 6 11 0 30 6) 7 12 0 0 16) 8 12 0 16 16) 9 12 0 32 96)) 11 (6 + i) = M 2 i
      rw [zz_cp_ne _ _ _ _ (by omega), zz_cp_ne _ _ _ _ (by omega), zz_cp_ne _ _ _ _ (by omega), zz_cp_out _ (by omega), zz_cp_out _ (by omega), zz_cp_out _ (by omega), zz_cp_out _ (by omega), zz_cp_in _ (by omega) (by omega), zz_cp_ne _ _ _ _ (by omega), zz_up_ne _ _ _ (by omega), zz_up_ne _ _ _ (by omega), zz_up_ne _ _ _ (by omega), zz_up_ne _ _ _ (by omega)]
      congr 1
      all_goals omega
    · show ((zz_cp (zz_cp (zz_cp (zz_cp (zz_cp (zz_cp (zz_cp (zz_cp (zz_cp (zz_up (zz_up (zz_up (zz_up M 0 12 1) 10 0 (M 0 0)) 10 1 (M 0 4)) 10 2 (M 0 8)) 1 11 0 0 6) 2 11 0 6 6) 3 11 0 12 6) 4 11 0 18 6) 5 11 0 24 6) 6 11 0 30 6) 7 12 0 0 16) 8 12 0 16 16) 9 12 0 32 96)) 11 (12 + i) = M 3 i
      rw [zz_cp_ne _ _ _ _ (by omega), zz_cp_ne _ _ _ _ (by omega), zz_cp_ne _ _ _ _ (by omega), zz_cp_out _ (by omega), zz_cp_out _ (by omega), zz_cp_out _ (by omega), zz_cp_in _ (by omega) (by omega), zz_cp_ne _ _ _ _ (by omega), zz_cp_ne _ _ _ _ (by omega), zz_up_ne _ _ _ (by omega), zz_up_ne _ _ _ (by omega), zz_up_ne _ _ _ (by omega), zz_up_ne _ _ _ (by omega)]
      congr 1
      all_goals omega
    · show ((zz_cp (zz_cp (zz_cp (zz_cp (zz_cp (zz_cp (zz_cp (zz_cp (zz_cp (zz_up (zz_up (zz_up (zz_up M 0 12 1) 10 0 (M 0 0)) 10 1 (M 0 4)) 10 2 (M 0 8)) 1 11 0 0 6) 2 11 0 6 6) 3 11 0 12 6) 4 11 0 18 6) 5 11 0 24 6) 6 11 0 30 6) 7 12 0 0 16) 8 12 0 16 16) 9 12 0 32 96)) 11 (18 + i) = M 4 i
      rw [zz_cp_ne _ _ _ _ (by omega), zz_cp_ne _ _ _ _ (by omega), zz_cp_ne _ _ _ _ (by omega), zz_cp_out _ (by omega), zz_cp_out _ (by omega), zz_cp_in _ (by omega) (by omega), zz_cp_ne _ _ _ _ (by omega), zz_cp_ne _ _ _ _ (by omega), zz_cp_ne _ _ _ _ (by omega), zz_up_ne _ _ _ (by omega), zz_up_ne _ _ _ (by omega), zz_up_ne _ _ _ (by omega), zz_up_ne _ _ _ (by omega)]
      congr 1
      all_goals omega
    · show ((zz_cp (zz_cp (zz_cp (zz_cp (zz_cp (zz_cp (zz_cp (zz_cp (zz_cp (zz_up (zz_up (zz_up (zz_up M 0 12 1) 10 0 (M 0 0)) 10 1 (M 0 4)) 10 2 (M 0 8)) 1 11 0 0 6) 2 11 0 6 6) 3 11 0 12 6) 4 11 0 18 6) 5 11 0 24 6) 6 11 0 30 6) 7 12 0 0 16) 8 12 0 16 16) 9 12 0 32 96)) 11 (24 + i) = M 5 i
      rw [zz_cp_ne _ _ _ _ (by omega), zz_cp_ne _ _ _ _ (by omega), zz_cp_ne _ _ _ _ (by omega), zz_cp_out _ (by omega), zz_cp_in _ (by omega) (by omega), zz_cp_ne _ _ _ _ (by omega), zz_cp_ne _ _ _ _ (by omega), zz_cp_ne _ _ _ _ (by omega), zz_cp_ne _ _ _ _ (by omega), zz_up_ne _ _ _ (by omega), zz_up_ne _ _ _ (by omega), zz_up_ne _ _ _ (by omega), zz_up_ne _ _ _ (by omega)]
      congr 1
      all_goals omega
    · show ((zz_cp (zz_cp (zz_cp (zz_cp (zz_cp (zz_cp (zz_cp (zz_cp (zz_cp (zz_up (zz_up (zz_up (zz_up M 0 12 1) 10 0 (M 0 0)) 10 1 (M 0 4)) 10 2 (M 0 8)) 1 11 0 0 6) 2 11 0 6 6) 3 11 0 12 6) 4 11 0 18 6) 5 11 0 24 6) 6 11 0 30 6) 7 12 0 0 16) 8 12 0 16 16) 9 12 0 32 96)) 11 (30 + i) = M 6 i
      rw [zz_cp_ne _ _ _ _ (by omega), zz_cp_ne _ _ _ _ (by omega), zz_cp_ne _ _ _ _ (by omega), zz_cp_in _ (by omega) (by omega), zz_cp_ne _ _ _ _ (by omega), zz_cp_ne _ _ _ _ (by omega), zz_cp_ne _ _ _ _ (by omega), zz_cp_ne _ _ _ _ (by omega), zz_cp_ne _ _ _ _ (by omega), zz_up_ne _ _ _ (by omega), zz_up_ne _ _ _ (by omega), zz_up_ne _ _ _ (by omega), zz_up_ne _ _ _ (by omega)]
      congr 1
      all_goals omega
    · show ((zz_cp (zz_cp (zz_cp (zz_cp (zz_cp (zz_cp (zz_cp (zz_cp (zz_cp (zz_up (zz_up (zz_up (zz_up M 0 12 1) 10 0 (M 0 0)) 10 1 (M 0 4)) 10 2 (M 0 8)) 1 11 0 0 6) 2 11 0 6 6) 3 11 0 12 6) 4 11 0 18 6) 5 11 0 24 6) 6 11 0 30 6) 7 12 0 0 16) 8 12 0 16 16) 9 12 0 32 96)) 12 (i) = M 7 i
      rw [zz_cp_out _ (by omega), zz_cp_out _ (by omega), zz_cp_in _ (by omega) (by omega), zz_cp_ne _ _ _ _ (by omega), zz_cp_ne _ _ _ _ (by omega), zz_cp_ne _ _ _ _ (by omega), zz_cp_ne _ _ _ _ (by omega), zz_cp_ne _ _ _ _ (by omega), zz_cp_ne _ _ _ _ (by omega), zz_up_ne _ _ _ (by omega), zz_up_ne _ _ _ (by omega), zz_up_ne _ _ _ (by omega), zz_up_ne _ _ _ (by omega)]
      congr 1
      all_goals omega
    · show ((zz_cp (zz_cp (zz_cp (zz_cp (zz_cp (zz_cp (zz_cp (zz_cp (zz_cp (zz_up (zz_up (zz_up (zz_up M 0 12 1) 10 0 (M 0 0)) 10 1 (M 0 4)) 10 2 (M 0 8)) 1 11 0 0 6) 2 11 0 6 6) 3 11 0 12 6) 4 11 0 18 6) 5 11 0 24 6) 6 11 0 30 6) 7 12 0 0 16) 8 12 0 16 16) 9 12 0 32 96)) 12 (16 + i) = M 8 i
      rw [zz_cp_out _ (by omega), zz_cp_in _ (by omega) (by omega), zz_cp_ne _ _ _ _ (by omega), zz_cp_ne _ _ _ _ (by omega), zz_cp_ne _ _ _ _ (by omega), zz_cp_ne _ _ _ _ (by omega), zz_cp_ne _ _ _ _ (by omega), zz_cp_ne _ _ _ _ (by omega), zz_cp_ne _ _ _ _ (by omega), zz_up_ne _ _ _ (by omega), zz_up_ne _ _ _ (by omega), zz_up_ne _ _ _ (by omega), zz_up_ne _ _ _ (by omega)]
      congr 1
      all_goals omega
    · show ((zz_cp (zz_cp (zz_cp (zz_cp (zz_cp (zz_cp (zz_cp (zz_cp (zz_cp (zz_up (zz_up (zz_up (zz_up M 0 12 1) 10 0 (M 0 0)) 10 1 (M 0 4)) 10 2 (M 0 8)) 1 11 0 0 6) 2 11 0 6 6) 3 11 0 12 6) 4 11 0 18 6) 5 11 0 24 6) 6 11 0 30 6) 7 12 0 0 16) 8 12 0 16 16) 9 12 0 32 96)) 12 (32 + i) = M 9 i
      rw [zz_cp_in _ (by omega) (by omega), zz_cp_ne _ _ _ _ (by omega), zz_cp_ne _ _ _ _ (by omega), zz_cp_ne _ _ _ _ (by omega), zz_cp_ne _ _ _ _ (by omega), zz_cp_ne _ _ _ _ (by omega), zz_cp_ne _ _ _ _ (by omega), zz_cp_ne _ _ _ _ (by omega), zz_cp_ne _ _ _ _ (by omega), zz_up_ne _ _ _ (by omega), zz_up_ne _ _ _ (by omega), zz_up_ne _ _ _ (by omega), zz_up_ne _ _ _ (by omega)]
      congr 1
      all_goals omega
set_option maxHeartbeats 4000000 in
theorem r_back (M : zz_Mem) (h : ¬ M 0 12 = 0) : ∃ M', f_X5_back M = some (1, M') ∧ (∀ k, 10 ≤ k → k ≤ 12 → M' k = M k) ∧ M' 0 12 = M 0 12 ∧ ∀ k i, pv_b k i → pv_rn M' k i = pv_rk M k i := by
  have c0 : ∀ M, f_X5_copy 11 36 1 6 0 0 6 M = some (zz_cp M 11 1 0 0 6) := fun M => r_copy M (p := 0) (q := 0) (n := 6) (by omega) (by omega) (by omega) (by omega) (by omega) (by omega)
  have c1 : ∀ M, f_X5_copy 11 36 2 6 6 0 6 M = some (zz_cp M 11 2 6 0 6) := fun M => r_copy M (p := 6) (q := 0) (n := 6) (by omega) (by omega) (by omega) (by omega) (by omega) (by omega)
  have c2 : ∀ M, f_X5_copy 11 36 3 6 12 0 6 M = some (zz_cp M 11 3 12 0 6) := fun M => r_copy M (p := 12) (q := 0) (n := 6) (by omega) (by omega) (by omega) (by omega) (by omega) (by omega)
  have c3 : ∀ M, f_X5_copy 11 36 4 6 18 0 6 M = some (zz_cp M 11 4 18 0 6) := fun M => r_copy M (p := 18) (q := 0) (n := 6) (by omega) (by omega) (by omega) (by omega) (by omega) (by omega)
  have c4 : ∀ M, f_X5_copy 11 36 5 6 24 0 6 M = some (zz_cp M 11 5 24 0 6) := fun M => r_copy M (p := 24) (q := 0) (n := 6) (by omega) (by omega) (by omega) (by omega) (by omega) (by omega)
  have c5 : ∀ M, f_X5_copy 11 36 6 6 30 0 6 M = some (zz_cp M 11 6 30 0 6) := fun M => r_copy M (p := 30) (q := 0) (n := 6) (by omega) (by omega) (by omega) (by omega) (by omega) (by omega)
  have c6 : ∀ M, f_X5_copy 12 128 7 16 0 0 16 M = some (zz_cp M 12 7 0 0 16) := fun M => r_copy M (p := 0) (q := 0) (n := 16) (by omega) (by omega) (by omega) (by omega) (by omega) (by omega)
  have c7 : ∀ M, f_X5_copy 12 128 8 16 16 0 16 M = some (zz_cp M 12 8 16 0 16) := fun M => r_copy M (p := 16) (q := 0) (n := 16) (by omega) (by omega) (by omega) (by omega) (by omega) (by omega)
  have c8 : ∀ M, f_X5_copy 12 128 9 96 32 0 96 M = some (zz_cp M 12 9 32 0 96) := fun M => r_copy M (p := 32) (q := 0) (n := 96) (by omega) (by omega) (by omega) (by omega) (by omega) (by omega)
  unfold f_X5_back
  rw [if_neg h, zc0, zc1, zc2]
  have u1 : ∀ (M : zz_Mem) (i : Nat) (x : Int32), (zz_up M 0 i x) 10 = M 10 := fun M i x => zz_up_ne _ _ _ (by omega)
  simp only [u1]
  rw [c0, zb1, c1, zb1, c2, zb1, c3, zb1, c4, zb1, c5, zb1, c6, zb1, c7, zb1, c8, zb1]
  refine ⟨_, rfl, fun k h1 h2 => ?_, ?_, fun k i hb => ?_⟩
  · rw [zz_cp_ne _ _ _ _ (by omega), zz_cp_ne _ _ _ _ (by omega), zz_cp_ne _ _ _ _ (by omega), zz_cp_ne _ _ _ _ (by omega), zz_cp_ne _ _ _ _ (by omega), zz_cp_ne _ _ _ _ (by omega), zz_cp_ne _ _ _ _ (by omega), zz_cp_ne _ _ _ _ (by omega), zz_cp_ne _ _ _ _ (by omega), zz_up_ne _ _ _ (by omega), zz_up_ne _ _ _ (by omega), zz_up_ne _ _ _ (by omega)]
  · rw [zz_cp_ne _ _ _ _ (by omega), zz_cp_ne _ _ _ _ (by omega), zz_cp_ne _ _ _ _ (by omega), zz_cp_ne _ _ _ _ (by omega), zz_cp_ne _ _ _ _ (by omega), zz_cp_ne _ _ _ _ (by omega), zz_cp_ne _ _ _ _ (by omega), zz_cp_ne _ _ _ _ (by omega), zz_cp_ne _ _ _ _ (by omega), zz_up_ni _ _ _ (by omega), zz_up_ni _ _ _ (by omega), zz_up_ni _ _ _ (by omega)]
  · unfold pv_b at hb
    rcases hb with ⟨rfl, hi⟩ | ⟨rfl | rfl | rfl | rfl | rfl | rfl, hi⟩ | ⟨rfl | rfl, hi⟩ | ⟨rfl, hi⟩
    · rcases (show i = 0 ∨ i = 1 ∨ i = 2 by omega) with rfl | rfl | rfl
      · show ((zz_cp (zz_cp (zz_cp (zz_cp (zz_cp (zz_cp (zz_cp (zz_cp (zz_cp (zz_up (zz_up (zz_up M 0 0 (M 10 0)) 0 4 (M 10 1)) 0 8 (M 10 2)) 11 1 0 0 6) 11 2 6 0 6) 11 3 12 0 6) 11 4 18 0 6) 11 5 24 0 6) 11 6 30 0 6) 12 7 0 0 16) 12 8 16 0 16) 12 9 32 0 96)) 0 0 = M 10 0
        rw [zz_cp_ne _ _ _ _ (by omega), zz_cp_ne _ _ _ _ (by omega), zz_cp_ne _ _ _ _ (by omega), zz_cp_ne _ _ _ _ (by omega), zz_cp_ne _ _ _ _ (by omega), zz_cp_ne _ _ _ _ (by omega), zz_cp_ne _ _ _ _ (by omega), zz_cp_ne _ _ _ _ (by omega), zz_cp_ne _ _ _ _ (by omega), zz_up_ni _ _ _ (by omega), zz_up_ni _ _ _ (by omega), zz_up_at]
      · show ((zz_cp (zz_cp (zz_cp (zz_cp (zz_cp (zz_cp (zz_cp (zz_cp (zz_cp (zz_up (zz_up (zz_up M 0 0 (M 10 0)) 0 4 (M 10 1)) 0 8 (M 10 2)) 11 1 0 0 6) 11 2 6 0 6) 11 3 12 0 6) 11 4 18 0 6) 11 5 24 0 6) 11 6 30 0 6) 12 7 0 0 16) 12 8 16 0 16) 12 9 32 0 96)) 0 4 = M 10 1
        rw [zz_cp_ne _ _ _ _ (by omega), zz_cp_ne _ _ _ _ (by omega), zz_cp_ne _ _ _ _ (by omega), zz_cp_ne _ _ _ _ (by omega), zz_cp_ne _ _ _ _ (by omega), zz_cp_ne _ _ _ _ (by omega), zz_cp_ne _ _ _ _ (by omega), zz_cp_ne _ _ _ _ (by omega), zz_cp_ne _ _ _ _ (by omega), zz_up_ni _ _ _ (by omega), zz_up_at]
      · show ((zz_cp (zz_cp (zz_cp (zz_cp (zz_cp (zz_cp (zz_cp (zz_cp (zz_cp (zz_up (zz_up (zz_up M 0 0 (M 10 0)) 0 4 (M 10 1)) 0 8 (M 10 2)) 11 1 0 0 6) 11 2 6 0 6) 11 3 12 0 6) 11 4 18 0 6) 11 5 24 0 6) 11 6 30 0 6) 12 7 0 0 16) 12 8 16 0 16) 12 9 32 0 96)) 0 8 = M 10 2
        rw [zz_cp_ne _ _ _ _ (by omega), zz_cp_ne _ _ _ _ (by omega), zz_cp_ne _ _ _ _ (by omega), zz_cp_ne _ _ _ _ (by omega), zz_cp_ne _ _ _ _ (by omega), zz_cp_ne _ _ _ _ (by omega), zz_cp_ne _ _ _ _ (by omega), zz_cp_ne _ _ _ _ (by omega), zz_cp_ne _ _ _ _ (by omega), zz_up_at]
    · show ((zz_cp (zz_cp (zz_cp (zz_cp (zz_cp (zz_cp (zz_cp (zz_cp (zz_cp (zz_up (zz_up (zz_up M 0 0 (M 10 0)) 0 4 (M 10 1)) 0 8 (M 10 2)) 11 1 0 0 6) 11 2 6 0 6) 11 3 12 0 6) 11 4 18 0 6) 11 5 24 0 6) 11 6 30 0 6) 12 7 0 0 16) 12 8 16 0 16) 12 9 32 0 96)) 1 i = M 11 (0 + i)
      rw [zz_cp_ne _ _ _ _ (by omega), zz_cp_ne _ _ _ _ (by omega), zz_cp_ne _ _ _ _ (by omega), zz_cp_ne _ _ _ _ (by omega), zz_cp_ne _ _ _ _ (by omega), zz_cp_ne _ _ _ _ (by omega), zz_cp_ne _ _ _ _ (by omega), zz_cp_ne _ _ _ _ (by omega), zz_cp_in _ (by omega) (by omega), zz_up_ne _ _ _ (by omega), zz_up_ne _ _ _ (by omega), zz_up_ne _ _ _ (by omega)]
      congr 1
      all_goals omega
    · show ((zz_cp (zz_cp (zz_cp (zz_cp (zz_cp (zz_cp (zz_cp (zz_cp (zz_cp (zz_up (zz_up (zz_up M 0 0 (M 10 0)) 0 4 (M 10 1)) 0 8 (M 10 2)) 11 1 0 0 6) 11 2 6 0 6) 11 3 12 0 6) 11 4 18 0 6) 11 5 24 0 6) 11 6 30 0 6) 12 7 0 0 16) 12 8 16 0 16) 12 9 32 0 96)) 2 i = M 11 (6 + i)
      rw [zz_cp_ne _ _ _ _ (by omega), zz_cp_ne _ _ _ _ (by omega), zz_cp_ne _ _ _ _ (by omega), zz_cp_ne _ _ _ _ (by omega), zz_cp_ne _ _ _ _ (by omega), zz_cp_ne _ _ _ _ (by omega), zz_cp_ne _ _ _ _ (by omega), zz_cp_in _ (by omega) (by omega), zz_cp_ne _ _ _ _ (by omega), zz_up_ne _ _ _ (by omega), zz_up_ne _ _ _ (by omega), zz_up_ne _ _ _ (by omega)]
      congr 1
      all_goals omega
    · show ((zz_cp (zz_cp (zz_cp (zz_cp (zz_cp (zz_cp (zz_cp (zz_cp (zz_cp (zz_up (zz_up (zz_up M 0 0 (M 10 0)) 0 4 (M 10 1)) 0 8 (M 10 2)) 11 1 0 0 6) 11 2 6 0 6) 11 3 12 0 6) 11 4 18 0 6) 11 5 24 0 6) 11 6 30 0 6) 12 7 0 0 16) 12 8 16 0 16) 12 9 32 0 96)) 3 i = M 11 (12 + i)
      rw [zz_cp_ne _ _ _ _ (by omega), zz_cp_ne _ _ _ _ (by omega), zz_cp_ne _ _ _ _ (by omega), zz_cp_ne _ _ _ _ (by omega), zz_cp_ne _ _ _ _ (by omega), zz_cp_ne _ _ _ _ (by omega), zz_cp_in _ (by omega) (by omega), zz_cp_ne _ _ _ _ (by omega), zz_cp_ne _ _ _ _ (by omega), zz_up_ne _ _ _ (by omega), zz_up_ne _ _ _ (by omega), zz_up_ne _ _ _ (by omega)]
      congr 1
      all_goals omega
    · show ((zz_cp (zz_cp (zz_cp (zz_cp (zz_cp (zz_cp (zz_cp (zz_cp (zz_cp (zz_up (zz_up (zz_up M 0 0 (M 10 0)) 0 4 (M 10 1)) 0 8 (M 10 2)) 11 1 0 0 6) 11 2 6 0 6) 11 3 12 0 6) 11 4 18 0 6) 11 5 24 0 6) 11 6 30 0 6) 12 7 0 0 16) 12 8 16 0 16) 12 9 32 0 96)) 4 i = M 11 (18 + i)
      rw [zz_cp_ne _ _ _ _ (by omega), zz_cp_ne _ _ _ _ (by omega), zz_cp_ne _ _ _ _ (by omega), zz_cp_ne _ _ _ _ (by omega), zz_cp_ne _ _ _ _ (by omega), zz_cp_in _ (by omega) (by omega), zz_cp_ne _ _ _ _ (by omega), zz_cp_ne _ _ _ _ (by omega), zz_cp_ne _ _ _ _ (by omega), zz_up_ne _ _ _ (by omega), zz_up_ne _ _ _ (by omega), zz_up_ne _ _ _ (by omega)]
      congr 1
      all_goals omega
    · show ((zz_cp (zz_cp (zz_cp (zz_cp (zz_cp (zz_cp (zz_cp (zz_cp (zz_cp (zz_up (zz_up (zz_up M 0 0 (M 10 0)) 0 4 (M 10 1)) 0 8 (M 10 2)) 11 1 0 0 6) 11 2 6 0 6) 11 3 12 0 6) 11 4 18 0 6) 11 5 24 0 6) 11 6 30 0 6) 12 7 0 0 16) 12 8 16 0 16) 12 9 32 0 96)) 5 i = M 11 (24 + i)
      rw [zz_cp_ne _ _ _ _ (by omega), zz_cp_ne _ _ _ _ (by omega), zz_cp_ne _ _ _ _ (by omega), zz_cp_ne _ _ _ _ (by omega), zz_cp_in _ (by omega) (by omega), zz_cp_ne _ _ _ _ (by omega), zz_cp_ne _ _ _ _ (by omega), zz_cp_ne _ _ _ _ (by omega), zz_cp_ne _ _ _ _ (by omega), zz_up_ne _ _ _ (by omega), zz_up_ne _ _ _ (by omega), zz_up_ne _ _ _ (by omega)]
      congr 1
      all_goals omega
    · show ((zz_cp (zz_cp (zz_cp (zz_cp (zz_cp (zz_cp (zz_cp (zz_cp (zz_cp (zz_up (zz_up (zz_up M 0 0 (M 10 0)) 0 4 (M 10 1)) 0 8 (M 10 2)) 11 1 0 0 6) 11 2 6 0 6) 11 3 12 0 6) 11 4 18 0 6) 11 5 24 0 6) 11 6 30 0 6) 12 7 0 0 16) 12 8 16 0 16) 12 9 32 0 96)) 6 i = M 11 (30 + i)
      rw [zz_cp_ne _ _ _ _ (by omega), zz_cp_ne _ _ _ _ (by omega), zz_cp_ne _ _ _ _ (by omega), zz_cp_in _ (by omega) (by omega), zz_cp_ne _ _ _ _ (by omega), zz_cp_ne _ _ _ _ (by omega), zz_cp_ne _ _ _ _ (by omega), zz_cp_ne _ _ _ _ (by omega), zz_cp_ne _ _ _ _ (by omega), zz_up_ne _ _ _ (by omega), zz_up_ne _ _ _ (by omega), zz_up_ne _ _ _ (by omega)]
      congr 1
      all_goals omega
    · show ((zz_cp (zz_cp (zz_cp (zz_cp (zz_cp (zz_cp (zz_cp (zz_cp (zz_cp (zz_up (zz_up (zz_up M 0 0 (M 10 0)) 0 4 (M 10 1)) 0 8 (M 10 2)) 11 1 0 0 6) 11 2 6 0 6) 11 3 12 0 6) 11 4 18 0 6) 11 5 24 0 6) 11 6 30 0 6) 12 7 0 0 16) 12 8 16 0 16) 12 9 32 0 96)) 7 i = M 12 (i)
      rw [zz_cp_ne _ _ _ _ (by omega), zz_cp_ne _ _ _ _ (by omega), zz_cp_in _ (by omega) (by omega), zz_cp_ne _ _ _ _ (by omega), zz_cp_ne _ _ _ _ (by omega), zz_cp_ne _ _ _ _ (by omega), zz_cp_ne _ _ _ _ (by omega), zz_cp_ne _ _ _ _ (by omega), zz_cp_ne _ _ _ _ (by omega), zz_up_ne _ _ _ (by omega), zz_up_ne _ _ _ (by omega), zz_up_ne _ _ _ (by omega)]
      congr 1
      all_goals omega
    · show ((zz_cp (zz_cp (zz_cp (zz_cp (zz_cp (zz_cp (zz_cp (zz_cp (zz_cp (zz_up (zz_up (zz_up M 0 0 (M 10 0)) 0 4 (M 10 1)) 0 8 (M 10 2)) 11 1 0 0 6) 11 2 6 0 6) 11 3 12 0 6) 11 4 18 0 6) 11 5 24 0 6) 11 6 30 0 6) 12 7 0 0 16) 12 8 16 0 16) 12 9 32 0 96)) 8 i = M 12 (16 + i)
      rw [zz_cp_ne _ _ _ _ (by omega), zz_cp_in _ (by omega) (by omega), zz_cp_ne _ _ _ _ (by omega), zz_cp_ne _ _ _ _ (by omega), zz_cp_ne _ _ _ _ (by omega), zz_cp_ne _ _ _ _ (by omega), zz_cp_ne _ _ _ _ (by omega), zz_cp_ne _ _ _ _ (by omega), zz_cp_ne _ _ _ _ (by omega), zz_up_ne _ _ _ (by omega), zz_up_ne _ _ _ (by omega), zz_up_ne _ _ _ (by omega)]
      congr 1
      all_goals omega
    · show ((zz_cp (zz_cp (zz_cp (zz_cp (zz_cp (zz_cp (zz_cp (zz_cp (zz_cp (zz_up (zz_up (zz_up M 0 0 (M 10 0)) 0 4 (M 10 1)) 0 8 (M 10 2)) 11 1 0 0 6) 11 2 6 0 6) 11 3 12 0 6) 11 4 18 0 6) 11 5 24 0 6) 11 6 30 0 6) 12 7 0 0 16) 12 8 16 0 16) 12 9 32 0 96)) 9 i = M 12 (32 + i)
      rw [zz_cp_in _ (by omega) (by omega), zz_cp_ne _ _ _ _ (by omega), zz_cp_ne _ _ _ _ (by omega), zz_cp_ne _ _ _ _ (by omega), zz_cp_ne _ _ _ _ (by omega), zz_cp_ne _ _ _ _ (by omega), zz_cp_ne _ _ _ _ (by omega), zz_cp_ne _ _ _ _ (by omega), zz_cp_ne _ _ _ _ (by omega), zz_up_ne _ _ _ (by omega), zz_up_ne _ _ _ (by omega), zz_up_ne _ _ _ (by omega)]
      congr 1
      all_goals omega
theorem st_keep : zz_Step_keep pv_Rel := by
  intro MC MR hR
  obtain ⟨⟨a, hw, hc, hx, hr⟩, hk⟩ := id hR
  obtain ⟨MC1, e1, f1, g1⟩ := kb_k MC
  obtain ⟨MR1, e2, f2, f3, f4, g2⟩ := r_keep MR
  unfold f_X4_keep
  rw [e1, zb1]
  refine ⟨1, _, _, rfl, e2, ?_, Or.inr ⟨zz_up_at _ _ _ _, f4, ?_⟩⟩
  · have ec : pv_cn (zz_up MC1 0 2 1) = pv_cn MC := by
      funext k j
      unfold pv_cn
      by_cases e : k = 0
      · simp only [e, if_true]; rw [zz_up_ne _ _ _ (by omega), f1 1 (by omega) (by omega)]
      · by_cases q : k ≤ 9
        · simp only [e, q, if_true, if_false]; rw [zz_up_ne _ _ _ (by omega), f1 (k + 5) (by omega) (by omega)]
        · simp only [e, q, if_false]
    have er : pv_rn MR1 = pv_rn MR := by
      funext k j
      unfold pv_rn
      by_cases e : k = 0
      · simp only [e, if_true]
        by_cases e3 : j < 3
        · simp only [e3, if_true]; rw [f3 (4 * j) (by omega)]
        · simp only [e3, if_false]
      · by_cases q : k ≤ 9
        · simp only [e, q, if_true, if_false]; rw [f2 k (by omega) q]
        · simp only [e, q, if_false]
    rw [ec, er]
    exact hR.1
  · have ek : pv_ck (zz_up MC1 0 2 1) = pv_ck MC1 := pv_ck_up _ (by omega) (by omega) _ _
    rw [ek]
    exact ⟨a, hw, hc.to hw g1, hx.to g1, hr.to hw g2⟩
theorem st_back : zz_Step_back pv_Rel := by
  intro MC MR hR
  obtain ⟨hN, hk⟩ := id hR
  unfold f_X4_back
  rcases hk with ⟨h1, h2⟩ | ⟨h1, h2, a, hw, hc, hx, hr⟩
  · have e : f_X5_back MR = some (-4, MR) := by unfold f_X5_back; rw [if_pos h2]
    rw [if_pos h1]
    exact ⟨-4, MC, MR, rfl, e, hR⟩
  · obtain ⟨MC1, e1, f1, g1⟩ := kb_n MC
    obtain ⟨MR1, e2, f2, f3, g2⟩ := r_back MR (by rw [h2]; decide)
    rw [if_neg (by rw [h1]; decide), e1, zb1]
    refine ⟨1, _, _, rfl, e2, ⟨a, hw, hc.to hw g1, hx.to g1, hr.to hw g2⟩, Or.inr ⟨by rw [f1 0 (by omega) (by omega)]; exact h1, by rw [f3]; exact h2, ?_⟩⟩
    have ek : pv_ck MC1 = pv_ck MC := by
      funext k j
      unfold pv_ck
      by_cases e : k = 0
      · simp only [e, if_true]; rw [f1 2 (by omega) (by omega)]
      · by_cases q : k ≤ 9
        · simp only [e, q, if_true, if_false]; rw [f1 (k + 14) (by omega) (by omega)]
        · simp only [e, q, if_false]
    have er : pv_rk MR1 = pv_rk MR := by
      unfold pv_rk
      rw [f2 10 (by omega) (by omega), f2 11 (by omega) (by omega), f2 12 (by omega) (by omega)]
    rw [ek, er]
    exact ⟨a, hw, hc, hx, hr⟩
