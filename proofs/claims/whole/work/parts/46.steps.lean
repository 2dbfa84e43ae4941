/-! questions -/
theorem st_ahead : zz_Step_ahead pv_Rel := by
  intro MC MR hR x y
  obtain ⟨⟨a, hw, hc, hx, hr⟩, hk⟩ := id hR
  have hb := hw.1
  unfold f_X4_ahead f_X5_ahead
  simp only [c_isS hc, r_isS hr hw, zb2, pv_ift]
  cases h1 : pv_ok x (a 0 0) with
  | false => exact ⟨-1, MC, MR, rfl, rfl, hR⟩
  | true =>
    cases h2 : pv_ok y (a 0 0) with
    | false => exact ⟨-1, MC, MR, rfl, rfl, hR⟩
    | true =>
      obtain ⟨s, hs, rfl⟩ := pv_ok_of (by omega) h1
      obtain ⟨o, ho, rfl⟩ := pv_ok_of (by omega) h2
      simp only [if_true, c_order hc hw hs ho, r_ahead hr hw hs ho, r_ahead hr hw ho hs, zb2, pv_ift]
      cases pa_ah a s o with
      | true => exact ⟨1, MC, MR, rfl, rfl, hR⟩
      | false =>
        cases pa_ah a o s with
        | true => exact ⟨2, MC, MR, rfl, rfl, hR⟩
        | false => exact ⟨0, MC, MR, rfl, rfl, hR⟩
theorem st_clash : zz_Step_clash pv_Rel := by
  intro MC MR hR x y z
  obtain ⟨⟨a, hw, hc, hx, hr⟩, hk⟩ := id hR
  have hb := hw.1
  unfold f_X4_clash f_X5_clash
  simp only [c_isK hc, r_isK hr hw, c_isT hc, r_isT hr hw, zb2, pv_ift]
  cases h1 : pv_ok x (a 0 2) with
  | false => exact ⟨-1, MC, MR, rfl, rfl, hR⟩
  | true =>
    cases h2 : pv_ok y (a 0 2) with
    | false => exact ⟨-1, MC, MR, rfl, rfl, hR⟩
    | true =>
      cases h3 : pv_ok z (a 0 1) with
      | false => exact ⟨-1, MC, MR, rfl, rfl, hR⟩
      | true =>
        obtain ⟨k, hk', rfl⟩ := pv_ok_of (by omega) h1
        obtain ⟨j, hj, rfl⟩ := pv_ok_of (by omega) h2
        obtain ⟨t, ht, rfl⟩ := pv_ok_of (by omega) h3
        simp only [if_true, c_clash hc hw hk' hj ht, r_clash hr hw hk' hj ht, zb2, pv_ift]
        cases pa_cl a k j t with
        | true => exact ⟨1, MC, MR, rfl, rfl, hR⟩
        | false => exact ⟨0, MC, MR, rfl, rfl, hR⟩
theorem st_noise : zz_Step_noise pv_Rel := by
  intro MC MR hR x y
  obtain ⟨⟨a, hw, hc, hx, hr⟩, hk⟩ := id hR
  have hb := hw.1
  unfold f_X4_noise f_X5_noise
  simp only [c_isK hc, r_isK hr hw, zb2, pv_ift]
  cases h1 : pv_ok x (a 0 2) with
  | false => exact ⟨-1, MC, MR, rfl, rfl, hR⟩
  | true =>
    cases h2 : pv_ok y (a 0 2) with
    | false => exact ⟨-1, MC, MR, rfl, rfl, hR⟩
    | true =>
      obtain ⟨k, hk', rfl⟩ := pv_ok_of (by omega) h1
      obtain ⟨j, hj, rfl⟩ := pv_ok_of (by omega) h2
      simp only [if_true, c_noise hc hw hk' hj, r_noise hr hw hk' hj, zb2]
      exact ⟨_, MC, MR, rfl, rfl, hR⟩
/-- what lies in 0 .. n -/
theorem pv_bt_lit {x : Int32} (n : Nat) (hn : n < 2 ^ 31) : pv_bt x 0 (nI n) = true → ∃ j, j ≤ n ∧ x = nI j := fun h => by
  obtain ⟨j, -, h2, h3⟩ := pv_bt_of (lo := 0) hn (by rw [nI_0]; exact h) (by omega)
  exact ⟨j, h2, h3⟩
theorem pv_bt_no {x : Int32} (n k : Nat) (hn : n < 2 ^ 31) (hk : k ≤ n) (h : pv_bt x 0 (nI n) = false) : ¬ x = nI k := by
  intro e
  subst e
  have : pv_bt (nI k) 0 (nI n) = true := by
    simp only [pv_bt, Bool.and_eq_true, Bool.not_eq_true', decide_eq_false_iff_not]
    exact ⟨nI_pos (by omega), nI_nlt hk hn⟩
  rw [this] at h
  cases h
theorem c_orNone {M : zz_Mem} {x : Nat} (h : x < 2 ^ 30) : f_X4_orNone (nI x - 1) M = some (if x = 0 then -4 else nI x - 1, M) := by
  unfold f_X4_orNone
  simp only [pn_em1 h]
  by_cases q : x = 0
  · rw [if_pos q, if_pos q]
  · rw [if_neg q, if_neg q]
theorem st_of : zz_Step_of pv_Rel := by
  intro MC MR hR x y
  obtain ⟨⟨a, hw, hc, hx, hr⟩, hk⟩ := id hR
  have hb := hw.1
  unfold f_X4_of f_X5_of
  simp only [c_isS hc, r_isS hr hw, r_in, zb2, pv_ift]
  cases h1 : pv_ok x (a 0 0) with
  | false => exact ⟨-1, MC, MR, rfl, rfl, hR⟩
  | true =>
    obtain ⟨s, hs, rfl⟩ := pv_ok_of (by omega) h1
    have e3 := pv_chb hw hs
    simp only [if_true, if_pos (show zz_in (nI s) 6 from pn_in (by omega) (by omega)), nI_clamp (show s < 2 ^ 31 by omega), c_day hc hs, r_day hr hs, c_pla hc hs, r_pla hr hs, c_cho hc hs, r_cho hr hs, c_takesOf hc hw hs, r_takesOf hr hw hs, c_orNone (show a 3 s < 2 ^ 30 by omega), zb2, pn_nn (show a 3 s < 2 ^ 30 by omega)]
    cases h2 : pv_bt y 0 3 with
    | false =>
      have n0 : ¬ y = 0 := pv_bt_no (x := y) 3 0 (by omega) (by omega) h2
      have n1 : ¬ y = 1 := pv_bt_no (x := y) 3 1 (by omega) (by omega) h2
      have n2 : ¬ y = 2 := pv_bt_no (x := y) 3 2 (by omega) (by omega) h2
      have n3 : ¬ y = 3 := pv_bt_no (x := y) 3 3 (by omega) (by omega) h2
      rw [if_neg n0, if_neg n1, if_neg n2, if_neg n3]
      exact ⟨-1, MC, MR, rfl, rfl, hR⟩
    | true =>
      obtain ⟨j, hj, rfl⟩ := pv_bt_lit (x := y) 3 (by omega) h2
      rcases (show j = 0 ∨ j = 1 ∨ j = 2 ∨ j = 3 by omega) with rfl | rfl | rfl | rfl
      · exact ⟨_, MC, MR, rfl, rfl, hR⟩
      · exact ⟨_, MC, MR, rfl, rfl, hR⟩
      · exact ⟨_, MC, MR, rfl, rfl, hR⟩
      · by_cases q : a 3 s = 0
        · refine ⟨-4, MC, MR, ?_, ?_, hR⟩
          · simp only [q]; rfl
          · simp only [q]; rfl
        · refine ⟨nI (a 3 s) - 1, MC, MR, ?_, ?_, hR⟩
          · simp only [q, if_false]; rfl
          · simp only [q]; rfl
theorem st_told : zz_Step_told pv_Rel := by
  intro MC MR hR x y
  obtain ⟨⟨a, hw, hc, hx, hr⟩, hk⟩ := id hR
  have hb := hw.1
  unfold f_X4_told f_X5_told f_X4_measureAsked
  simp only [c_isK hc, r_isK hr hw, c_isT hc, r_in, r_n1 hr, zb2, pv_ift]
  cases h1 : pv_ok x (a 0 2) with
  | false => exact ⟨-1, MC, MR, rfl, rfl, hR⟩
  | true =>
    obtain ⟨k, hk', rfl⟩ := pv_ok_of (by omega) h1
    simp only [if_true, if_pos (show zz_in (nI k) 16 from pn_in (by omega) (by omega)), nI_clamp (show k < 2 ^ 31 by omega), c_sce hc hk', r_sce hr hk', c_fla hc hk', r_fla hr hk', c_shown hc hw hk', r_shown hr hw hk', zb2, zb3]
    by_cases y0 : y = 0
    · simp only [if_pos y0]; exact ⟨_, MC, MR, rfl, rfl, hR⟩
    · simp only [if_neg y0]
      by_cases y1 : y = 1
      · simp only [if_pos y1]; exact ⟨_, MC, MR, rfl, rfl, hR⟩
      · simp only [if_neg y1]
        by_cases y2 : y = 2
        · simp only [if_pos y2]; exact ⟨_, MC, MR, rfl, rfl, hR⟩
        · simp only [if_neg y2]
          have en : (9 : Int32) + nI (a 0 1) = nI (9 + a 0 1) := by rw [show (9 : Int32) = nI 9 from rfl, nI_add]
          rw [en]
          cases h2 : pv_bt y 10 (nI (9 + a 0 1)) with
          | false =>
            refine ⟨-1, MC, MR, ?_, rfl, hR⟩
            by_cases q : (10 : Int32) ≤ y
            · simp only [if_pos q]
              cases h3 : pv_ok (y - 10) (a 0 1) with
              | false => rfl
              | true =>
                obtain ⟨t, ht, e⟩ := pv_ok_of (by omega) h3
                exfalso
                have ey : y = nI (t + 10) := by
                  have : y = (y - 10) + 10 := by simp
                  rw [this, e, show (10 : Int32) = nI 10 from rfl, nI_add]
                subst ey
                have : pv_bt (nI (t + 10)) (nI 10) (nI (9 + a 0 1)) = true := by
                  simp only [pv_bt, Bool.and_eq_true, Bool.not_eq_true', decide_eq_false_iff_not]
                  exact ⟨nI_nlt (by omega) (by omega), nI_nlt (by omega) (by omega)⟩
                rw [show (10 : Int32) = nI 10 from rfl, this] at h2
                cases h2
            · simp only [if_neg q]
              rfl
          | true =>
            obtain ⟨j, h3, h4, rfl⟩ := pv_bt_of (lo := 10) (by omega) h2 (by omega)
            obtain ⟨t, rfl⟩ : ∃ t, j = t + 10 := ⟨j - 10, by omega⟩
            have ht : t < a 0 1 := by omega
            have em := hw.2.2.2.2.1 (6 * k + t) (by omega)
            have e1 : nI (t + 10) - 10 = nI t := by rw [show (10 : Int32) = nI 10 from rfl, pn_subN (by omega), Nat.add_sub_cancel]
            have e2 : 6 * nI k + nI (t + 10) - 10 = nI (6 * k + t) := by rw [pn_ix', show (10 : Int32) = nI 10 from rfl, pn_subN (by omega), show 6 * k + (t + 10) - 10 = 6 * k + t by omega]
            rw [if_pos (show (10 : Int32) ≤ nI (t + 10) by rw [show (10 : Int32) = nI 10 from rfl]; exact nI_le (by omega) (by omega)), e1, e2, pv_ok_nI (by omega) ht]
            simp only [if_true, c_meas hc hw hk' (show t < 6 by omega), zb2, c_orNone (show a 9 (6 * k + t) < 2 ^ 30 by omega), if_pos (show zz_in (nI (6 * k + t)) 96 from pn_in (by omega) (by omega)), nI_clamp (show 6 * k + t < 2 ^ 31 by omega), r_mea hr (show 6 * k + t < 6 * a 0 2 by omega), pn_nn (show a 9 (6 * k + t) < 2 ^ 30 by omega)]
            by_cases q : a 9 (6 * k + t) = 0
            · exact ⟨-4, MC, MR, by simp [q], by simp [q], hR⟩
            · exact ⟨nI (a 9 (6 * k + t)) - 1, MC, MR, by simp [q], by simp [q], hR⟩
theorem st_thingOf : zz_Step_thingOf pv_Rel := by
  intro MC MR hR x y
  obtain ⟨⟨a, hw, hc, hx, hr⟩, hk⟩ := id hR
  have hb := hw.1
  unfold f_X4_thingOf f_X5_thingOf
  simp only [c_isT hc, r_isT hr hw, r_in, zb2, pv_ift]
  cases h1 : pv_ok x (a 0 1) with
  | false => exact ⟨-1, MC, MR, rfl, rfl, hR⟩
  | true =>
    obtain ⟨t, ht, rfl⟩ := pv_ok_of (by omega) h1
    simp only [if_true, if_pos (show zz_in (nI t) 6 from pn_in (by omega) (by omega)), nI_clamp (show t < 2 ^ 31 by omega), c_law hc ht, r_law hr ht, c_rat hc ht, r_rat hr ht, c_lou hc ht, r_lou hr ht, c_shows hc hw ht, r_shows hr hw ht, zb2, zb3]
    cases h2 : pv_bt y 0 3 with
    | false =>
      have n0 : ¬ y = 0 := pv_bt_no (x := y) 3 0 (by omega) (by omega) h2
      have n1 : ¬ y = 1 := pv_bt_no (x := y) 3 1 (by omega) (by omega) h2
      have n2 : ¬ y = 2 := pv_bt_no (x := y) 3 2 (by omega) (by omega) h2
      have n3 : ¬ y = 3 := pv_bt_no (x := y) 3 3 (by omega) (by omega) h2
      rw [if_neg n0, if_neg n1, if_neg n2, if_neg n3]
      exact ⟨-1, MC, MR, rfl, rfl, hR⟩
    | true =>
      obtain ⟨j, hj, rfl⟩ := pv_bt_lit (x := y) 3 (by omega) h2
      rcases (show j = 0 ∨ j = 1 ∨ j = 2 ∨ j = 3 by omega) with rfl | rfl | rfl | rfl
      · exact ⟨_, MC, MR, rfl, rfl, hR⟩
      · exact ⟨_, MC, MR, rfl, rfl, hR⟩
      · exact ⟨_, MC, MR, rfl, rfl, hR⟩
      · exact ⟨_, MC, MR, rfl, rfl, hR⟩
