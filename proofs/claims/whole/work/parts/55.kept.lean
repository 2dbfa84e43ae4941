/-! keep and back -/
def pv_b (k i : Nat) : Prop := (k = 0 ∧ i < 3) ∨ ((k = 1 ∨ k = 2 ∨ k = 3 ∨ k = 4 ∨ k = 5 ∨ k = 6) ∧ i < 6) ∨ ((k = 7 ∨ k = 8) ∧ i < 16) ∨ (k = 9 ∧ i < 96)
theorem pv_St.to {X X' : pv_V} {a : pv_A} (h : pv_St X a) (hw : pv_W a) (hX : ∀ k i, pv_b k i → X' k i = X k i) : pv_St X' a := by
  intro k i hr
  have hb := hw.1
  rw [hX k i (by unfold pv_r at hr; unfold pv_b; omega)]
  exact h k i hr
theorem pv_X.to {X X' : pv_V} {a : pv_A} (h : pv_X X a) (hX : ∀ k i, pv_b k i → X' k i = X k i) : pv_X X' a :=
  ⟨fun s h1 h2 => by rw [hX 3 s (by unfold pv_b; omega)]; exact h.1 s h1 h2, fun i h1 h2 => by rw [hX 9 i (by unfold pv_b; omega)]; exact h.2 i h1 h2⟩
theorem zc0 : (0 : Int32).toNatClampNeg = 0 := by decide
theorem zc1 : (1 : Int32).toNatClampNeg = 1 := by decide
theorem zc2 : (2 : Int32).toNatClampNeg = 2 := by decide
theorem zc6 : (6 : Int32).toNatClampNeg = 6 := by decide
theorem zc16 : (16 : Int32).toNatClampNeg = 16 := by decide
theorem zc96 : (96 : Int32).toNatClampNeg = 96 := by decide
theorem zz_cp_ne (M : zz_Mem) {k0 k1 k : Nat} (sp dp n : Nat) (h : k ≠ k1) : zz_cp M k0 k1 sp dp n k = M k := zz_set_ne _ _ h
theorem zz_cp_at (M : zz_Mem) (k0 k1 n : Nat) {i : Nat} (h : i < n) : zz_cp M k0 k1 0 0 n k1 i = M k0 i := by
  unfold zz_cp va_cpy
  rw [zz_set_self, if_pos (by omega)]
  congr 1
  omega
theorem zz_up_at (M : zz_Mem) (k i : Nat) (x : Int32) : zz_up M k i x k i = x := by simp [zz_up, zz_set, upd]
theorem zz_up_ni (M : zz_Mem) (k : Nat) {i j : Nat} (x : Int32) (h : j ≠ i) : zz_up M k i x k j = M k j := by simp [zz_up, zz_set, upd, h]
set_option maxHeartbeats 4000000 in
theorem kb_k (M : zz_Mem) : ∃ M', f_X3_becomeLike_k M = some M' ∧ (∀ k, k ≠ 2 → ¬ (15 ≤ k ∧ k ≤ 23) → M' k = M k) ∧ ∀ k i, pv_b k i → pv_ck M' k i = pv_cn M k i := by
  unfold f_X3_becomeLike_k
  simp only [zc0, zc6, zc16, zc96]
  refine ⟨_, rfl, fun k h1 h2 => ?_, fun k i hb => ?_⟩
  · rw [zz_cp_ne _ _ _ _ (by omega), zz_cp_ne _ _ _ _ (by omega), zz_cp_ne _ _ _ _ (by omega), zz_up_ne _ _ _ (by omega), zz_cp_ne _ _ _ _ (by omega), zz_cp_ne _ _ _ _ (by omega), zz_cp_ne _ _ _ _ (by omega), zz_up_ne _ _ _ (by omega), zz_cp_ne _ _ _ _ (by omega), zz_cp_ne _ _ _ _ (by omega), zz_cp_ne _ _ _ _ (by omega), zz_up_ne _ _ _ (by omega)]
  · unfold pv_b at hb
    rcases hb with ⟨rfl, hi⟩ | ⟨rfl | rfl | rfl | rfl | rfl | rfl, hi⟩ | ⟨rfl | rfl, hi⟩ | ⟨rfl, hi⟩
    · rcases (show i = 0 ∨ i = 1 ∨ i = 2 by omega) with rfl | rfl | rfl <;> simp [pv_ck, pv_cn, zz_cp_ne, zz_up_ne, zz_up_at, zz_up_ni]
    all_goals simp [pv_ck, pv_cn, zz_cp_ne, zz_up_ne, zz_cp_at, hi]
set_option maxHeartbeats 4000000 in
theorem kb_n (M : zz_Mem) : ∃ M', f_X3_becomeLike_n M = some M' ∧ (∀ k, k ≠ 1 → ¬ (6 ≤ k ∧ k ≤ 14) → M' k = M k) ∧ ∀ k i, pv_b k i → pv_cn M' k i = pv_ck M k i := by
  unfold f_X3_becomeLike_n
  simp only [zc0, zc6, zc16, zc96]
  refine ⟨_, rfl, fun k h1 h2 => ?_, fun k i hb => ?_⟩
  · rw [zz_cp_ne _ _ _ _ (by omega), zz_cp_ne _ _ _ _ (by omega), zz_cp_ne _ _ _ _ (by omega), zz_up_ne _ _ _ (by omega), zz_cp_ne _ _ _ _ (by omega), zz_cp_ne _ _ _ _ (by omega), zz_cp_ne _ _ _ _ (by omega), zz_up_ne _ _ _ (by omega), zz_cp_ne _ _ _ _ (by omega), zz_cp_ne _ _ _ _ (by omega), zz_cp_ne _ _ _ _ (by omega), zz_up_ne _ _ _ (by omega)]
  · unfold pv_b at hb
    rcases hb with ⟨rfl, hi⟩ | ⟨rfl | rfl | rfl | rfl | rfl | rfl, hi⟩ | ⟨rfl | rfl, hi⟩ | ⟨rfl, hi⟩
    · rcases (show i = 0 ∨ i = 1 ∨ i = 2 by omega) with rfl | rfl | rfl <;> simp [pv_ck, pv_cn, zz_cp_ne, zz_up_ne, zz_up_at, zz_up_ni]
    all_goals simp [pv_ck, pv_cn, zz_cp_ne, zz_up_ne, zz_cp_at, hi]
theorem r_copy (M : zz_Mem) {ka na kb nb p q n : Nat} (hk : ka ≠ kb) (h1 : p + n ≤ na) (h2 : q + n ≤ nb) (h3 : n < 1000) (h4 : na < 1000) (h5 : nb < 1000) : f_X5_copy ka na kb nb (nI p) (nI q) (nI n) M = some (zz_cp M ka kb p q n) := by
  have key := zz_iter (fun k (x : Int32 × zz_Mem) => f_X5_copy_3 ka na kb nb (nI p) (nI q) (nI n) k x.1 x.2) (fun i => (nI i, zz_cp M ka kb p q i)) n (some (nI n, zz_cp M ka kb p q n)) ?_ ?_ 5000 (by omega)
  · unfold f_X5_copy
    have e : zz_cp M ka kb p q 0 = M := zz_set_id _ _ _ (by funext x; unfold va_cpy; rw [if_neg (by omega)])
    dsimp only at key
    rw [e, nI_0] at key
    rw [key, zb2]
  · intro k i hi
    dsimp only
    rw [f_X5_copy_3, if_neg (nI_ge hi (by omega)), nI_add, nI_add, if_pos (pn_in (by omega) (by omega)), if_pos (pn_in (by omega) (by omega)), nI_clamp (by omega), nI_clamp (by omega), zz_cp_ne _ _ _ _ hk, pn_1]
    congr 1
    unfold zz_cp
    rw [zz_up_set]
    congr 1
    funext x
    unfold upd va_cpy
    by_cases e : x = q + i
    · subst e
      rw [if_pos rfl, if_pos (by omega)]
      congr 1
      omega
    · rw [if_neg e]
      by_cases e2 : q ≤ x ∧ x < q + i
      · rw [if_pos e2, if_pos (by omega)]
      · rw [if_neg e2, if_neg (by omega)]
  · intro k
    dsimp only
    rw [f_X5_copy_3, if_pos (Int32.le_refl _)]
theorem zz_cp_in (M : zz_Mem) {k0 k1 p q n i : Nat} (h1 : q ≤ i) (h2 : i < q + n) : zz_cp M k0 k1 p q n k1 i = M k0 (p + (i - q)) := by
  unfold zz_cp va_cpy
  rw [zz_set_self, if_pos ⟨h1, h2⟩]
theorem zz_cp_out (M : zz_Mem) {k0 k1 p q n i : Nat} (h : ¬ (q ≤ i ∧ i < q + n)) : zz_cp M k0 k1 p q n k1 i = M k1 i := by
  unfold zz_cp va_cpy
  rw [zz_set_self, if_neg h]
