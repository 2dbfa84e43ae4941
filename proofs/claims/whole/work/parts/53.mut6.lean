def pt_r (x y z : Int32) (M : zz_Mem) : Option (Int32 × zz_Mem) := (if (M 0 4) = 6 then some ((-2), M) else (if zz_in (M 0 4) 6 then (if zz_in ((zz_up M 4 ((M 0 4).toNatClampNeg) x) 0 4) 6 then (if zz_in ((zz_up (zz_up M 4 ((M 0 4).toNatClampNeg) x) 5 (((zz_up M 4 ((M 0 4).toNatClampNeg) x) 0 4).toNatClampNeg) y) 0 4) 6 then some (((zz_up (zz_up (zz_up (zz_up M 4 ((M 0 4).toNatClampNeg) x) 5 (((zz_up M 4 ((M 0 4).toNatClampNeg) x) 0 4).toNatClampNeg) y) 6 (((zz_up (zz_up M 4 ((M 0 4).toNatClampNeg) x) 5 (((zz_up M 4 ((M 0 4).toNatClampNeg) x) 0 4).toNatClampNeg) y) 0 4).toNatClampNeg) z) 0 4 (((zz_up (zz_up (zz_up M 4 ((M 0 4).toNatClampNeg) x) 5 (((zz_up M 4 ((M 0 4).toNatClampNeg) x) 0 4).toNatClampNeg) y) 6 (((zz_up (zz_up M 4 ((M 0 4).toNatClampNeg) x) 5 (((zz_up M 4 ((M 0 4).toNatClampNeg) x) 0 4).toNatClampNeg) y) 0 4).toNatClampNeg) z) 0 4) + 1)) 0 4) - 1, zz_up (zz_up (zz_up (zz_up M 4 ((M 0 4).toNatClampNeg) x) 5 (((zz_up M 4 ((M 0 4).toNatClampNeg) x) 0 4).toNatClampNeg) y) 6 (((zz_up (zz_up M 4 ((M 0 4).toNatClampNeg) x) 5 (((zz_up M 4 ((M 0 4).toNatClampNeg) x) 0 4).toNatClampNeg) y) 0 4).toNatClampNeg) z) 0 4 (((zz_up (zz_up (zz_up M 4 ((M 0 4).toNatClampNeg) x) 5 (((zz_up M 4 ((M 0 4).toNatClampNeg) x) 0 4).toNatClampNeg) y) 6 (((zz_up (zz_up M 4 ((M 0 4).toNatClampNeg) x) 5 (((zz_up M 4 ((M 0 4).toNatClampNeg) x) 0 4).toNatClampNeg) y) 0 4).toNatClampNeg) z) 0 4) + 1)) else none) else none) else none))
theorem r_thing (x y z : Int32) (M : zz_Mem) : f_X5_thing x y z M = if ((if x = 3 then pv_bt y 1 9 else (pv_bt x 0 2 && decide (y = 0))) && pv_bt z 1 9) = true then pt_r x y z M else some (-1, M) := by
  unfold f_X5_thing
  rw [r_in, zb2, pv_ift]
  by_cases e : x = 3
  · rw [if_pos e, if_pos e, if_pos e, r_in, zb2, pv_ift, r_in, zb2, pv_ift, show pv_bt x 0 3 = true by rw [e]; decide]
    cases pv_bt y 1 9 <;> cases pv_bt z 1 9 <;> rfl
  · rw [if_neg e, if_neg e, if_neg e, r_in, zb2, pv_ift, r_in, zb2, pv_ift, pv_bt_x3 e, pv_bt_00]
    by_cases e2 : y = 0
    · rw [decide_eq_true e2]
      cases pv_bt x 0 2 <;> cases pv_bt z 1 9 <;> rfl
    · rw [decide_eq_false e2]
      cases pv_bt x 0 2 <;> cases pv_bt z 1 9 <;> rfl
theorem pt_ce {M : zz_Mem} {a : pv_A} (h : pv_St (pv_cn M) a) (hw : pv_W a) (hn : a 0 1 < 6) (x y z : Int32) : pt_c x y z M = some (nI (a 0 1), zz_up (zz_up (zz_up (zz_up M 9 (a 0 1) x) 10 (a 0 1) y) 11 (a 0 1) z) 1 (4 * 1) (nI (a 0 1 + 1))) := by
  unfold pt_c f_X3_addThing
  have z1 : ∀ (M : zz_Mem) (c i : Nat) (v : Int32), c ≠ 1 → (zz_up M c i v) 1 4 = M 1 4 := fun M c i v h => by rw [zz_up_ne _ _ _ (Ne.symm h)]
  rw [c_n1 h, if_pos (show nI (a 0 1) < 6 from nI_lt (b := 6) hn (by omega)), if_pos (pn_in (by omega) (by omega)), zb2, nI_clamp (by omega), z1 _ 11 _ _ (by omega), z1 _ 10 _ _ (by omega), z1 _ 9 _ _ (by omega), c_n1 h, pn_1]
theorem pt_re {M : zz_Mem} {a : pv_A} (h : pv_St (pv_rn M) a) (hw : pv_W a) (hn : a 0 1 < 6) (x y z : Int32) : pt_r x y z M = some (nI (a 0 1), zz_up (zz_up (zz_up (zz_up M 4 (a 0 1) x) 5 (a 0 1) y) 6 (a 0 1) z) 0 (4 * 1) (nI (a 0 1 + 1))) := by
  unfold pt_r
  have z1 : ∀ (M : zz_Mem) (c i : Nat) (v : Int32), c ≠ 0 → (zz_up M c i v) 0 4 = M 0 4 := fun M c i v h => by rw [zz_up_ne _ _ _ (Ne.symm h)]
  have zz : ∀ (M : zz_Mem) (v : Int32), (zz_up M 0 4 v) 0 4 = v := fun M v => by simp [zz_up, zz_set, upd]
  have i6 : zz_in (nI (a 0 1)) 6 := pn_in (by omega) (by omega)
  rw [zz]
  rw [z1 _ 6 _ _ (by omega), z1 _ 5 _ _ (by omega), z1 _ 4 _ _ (by omega), r_n1 h, if_neg (show ¬ nI (a 0 1) = 6 from fun q => by rw [show (6 : Int32) = nI 6 from rfl, nI_eq (by omega) (by omega)] at q; omega), if_pos i6, if_pos i6, if_pos i6, nI_clamp (by omega), pn_1, nI_pred]
theorem pt_cf {M : zz_Mem} {a : pv_A} (h : pv_St (pv_cn M) a) (hn : a 0 1 = 6) (x y z : Int32) : pt_c x y z M = some (-2, M) := by
  unfold pt_c
  rw [c_n1 h, hn, if_neg (by decide)]
theorem pt_rf {M : zz_Mem} {a : pv_A} (h : pv_St (pv_rn M) a) (hn : a 0 1 = 6) (x y z : Int32) : pt_r x y z M = some (-2, M) := by
  unfold pt_r
  rw [r_n1 h, hn, if_pos (by decide)]
theorem st_thing : zz_Step_thing pv_Rel := by
  intro MC MR hR x y z
  obtain ⟨⟨a, hw, hc, hx, hr⟩, hk⟩ := id hR
  have hb := hw.1
  rw [c_thing, r_thing]
  cases h0 : ((if x = 3 then pv_bt y 1 9 else (pv_bt x 0 2 && decide (y = 0))) && pv_bt z 1 9) with
  | false => exact ⟨-1, MC, MR, rfl, rfl, hR⟩
  | true =>
    simp only [if_true]
    have hz : pv_bt z 1 9 = true := by
      rw [Bool.and_eq_true] at h0
      exact h0.2
    obtain ⟨v, hv1, hv2, rfl⟩ := pv_bt_of (x := z) (lo := 1) (hi := 9) (by omega) hz (by omega)
    obtain ⟨w, r, hw1, hr1, rfl, rfl⟩ : ∃ w r, w ≤ 3 ∧ r ≤ 9 ∧ x = nI w ∧ y = nI r := by
      rw [Bool.and_eq_true] at h0
      by_cases e : x = 3
      · rw [if_pos e] at h0
        obtain ⟨r, -, h2, h3⟩ := pv_bt_of (x := y) (lo := 1) (hi := 9) (by omega) h0.1 (by omega)
        exact ⟨3, r, by omega, h2, e, h3⟩
      · rw [if_neg e, Bool.and_eq_true, decide_eq_true_eq] at h0
        obtain ⟨j, hj, h3⟩ := pv_bt_lit (x := x) 2 (by omega) h0.1.1
        exact ⟨j, 0, by omega, by omega, h3, h0.1.2⟩
    by_cases hn : a 0 1 < 6
    · rw [pt_ce hc hw hn, pt_re hr hw hn]
      refine ⟨_, _, _, rfl, rfl, hR.now ?_ ?_ ?_ ?_ ?_⟩
      · refine ⟨pt_a a w r v, pt_W hw hn hw1 hr1 hv1 hv2, ?_, ?_, ?_⟩
        · rw [pv_cn_up0 _ (by omega), pv_cn_up _ (by omega) (by omega), pv_cn_up _ (by omega) (by omega), pv_cn_up _ (by omega) (by omega)]
          exact pt_St hc w r v
        · rw [pv_cn_up0 _ (by omega), pv_cn_up _ (by omega) (by omega), pv_cn_up _ (by omega) (by omega), pv_cn_up _ (by omega) (by omega)]
          exact pt_X hx w r v _ _ _
        · rw [pv_rn_up0 _ (by omega), pv_rn_up _ (by omega) (by omega), pv_rn_up _ (by omega) (by omega), pv_rn_up _ (by omega) (by omega)]
          exact pt_St hr w r v
      · rw [pv_ck_up _ (by omega) (by omega), pv_ck_up _ (by omega) (by omega), pv_ck_up _ (by omega) (by omega), pv_ck_up _ (by omega) (by omega)]
      · rw [pv_rk_up _ (by omega), pv_rk_up _ (by omega), pv_rk_up _ (by omega), pv_rk_up _ (by omega)]
      · rw [zz_up_ne _ _ _ (by omega), zz_up_ne _ _ _ (by omega), zz_up_ne _ _ _ (by omega), zz_up_ne _ _ _ (by omega)]
      · have : ∀ (M : zz_Mem) (v : Int32), (zz_up M 0 (4 * 1) v) 0 12 = M 0 12 := fun M v => by simp [zz_up, zz_set, upd]
        rw [this, zz_up_ne _ _ _ (by omega), zz_up_ne _ _ _ (by omega), zz_up_ne _ _ _ (by omega)]
    · rw [pt_cf hc (by omega), pt_rf hr (by omega)]
      exact ⟨-2, MC, MR, rfl, rfl, hR⟩
