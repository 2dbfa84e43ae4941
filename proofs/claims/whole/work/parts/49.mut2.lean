def pv_RA (X Y : pv_V) (a : pv_A) : Prop := pv_W a ∧ pv_St X a ∧ pv_X X a ∧ pv_St Y a
theorem pv_au_k (a : pv_A) {k k' : Nat} (i y : Nat) (h : k' ≠ k) : pv_au a k i y k' = a k' := by
  funext j
  exact pv_au_ne a y (by omega)
theorem pv_W.au1 {a : pv_A} (h : pv_W a) (i : Nat) {y : Nat} (hy : y ≤ 99) : pv_W (pv_au a 1 i y) := by
  unfold pv_W pv_cnt at h ⊢
  simp only [pv_au_k a i y (show 0 ≠ 1 by omega), pv_au_k a i y (show 2 ≠ 1 by omega), pv_au_k a i y (show 3 ≠ 1 by omega), pv_au_k a i y (show 4 ≠ 1 by omega), pv_au_k a i y (show 5 ≠ 1 by omega), pv_au_k a i y (show 6 ≠ 1 by omega), pv_au_k a i y (show 7 ≠ 1 by omega), pv_au_k a i y (show 8 ≠ 1 by omega), pv_au_k a i y (show 9 ≠ 1 by omega)]
  refine ⟨h.1, fun s hs => ?_, h.2.2⟩
  have := h.2.1 s hs
  refine ⟨?_, this.2⟩
  unfold pv_au
  split
  · exact hy
  · exact this.1
theorem pv_W.au2 {a : pv_A} (h : pv_W a) (i : Nat) {y : Nat} (hy : y ≤ 99) : pv_W (pv_au a 2 i y) := by
  unfold pv_W pv_cnt at h ⊢
  simp only [pv_au_k a i y (show 0 ≠ 2 by omega), pv_au_k a i y (show 1 ≠ 2 by omega), pv_au_k a i y (show 3 ≠ 2 by omega), pv_au_k a i y (show 4 ≠ 2 by omega), pv_au_k a i y (show 5 ≠ 2 by omega), pv_au_k a i y (show 6 ≠ 2 by omega), pv_au_k a i y (show 7 ≠ 2 by omega), pv_au_k a i y (show 8 ≠ 2 by omega), pv_au_k a i y (show 9 ≠ 2 by omega)]
  refine ⟨h.1, fun s hs => ?_, h.2.2⟩
  have := h.2.1 s hs
  refine ⟨this.1, ?_, this.2.2⟩
  unfold pv_au
  split
  · exact hy
  · exact this.2.1
theorem pv_W.au3 {a : pv_A} (h : pv_W a) (i : Nat) {y : Nat} (hy : y = 0 ∨ (y ≤ a 0 2 ∧ a 7 (y - 1) = i)) : pv_W (pv_au a 3 i y) := by
  unfold pv_W pv_cnt at h ⊢
  simp only [pv_au_k a i y (show 0 ≠ 3 by omega), pv_au_k a i y (show 1 ≠ 3 by omega), pv_au_k a i y (show 2 ≠ 3 by omega), pv_au_k a i y (show 4 ≠ 3 by omega), pv_au_k a i y (show 5 ≠ 3 by omega), pv_au_k a i y (show 6 ≠ 3 by omega), pv_au_k a i y (show 7 ≠ 3 by omega), pv_au_k a i y (show 8 ≠ 3 by omega), pv_au_k a i y (show 9 ≠ 3 by omega)]
  refine ⟨h.1, fun s hs => ?_, h.2.2⟩
  have := h.2.1 s hs
  refine ⟨this.1, this.2.1, ?_⟩
  by_cases e : s = i
  · subst e
    rw [pv_au_at]
    exact hy
  · rw [pv_au_ne a y (by omega)]
    exact this.2.2
theorem pv_W.au6 {a : pv_A} (h : pv_W a) (i : Nat) {y : Nat} (h1 : 1 ≤ y) (h2 : y ≤ 9) : pv_W (pv_au a 6 i y) := by
  unfold pv_W pv_cnt at h ⊢
  simp only [pv_au_k a i y (show 0 ≠ 6 by omega), pv_au_k a i y (show 1 ≠ 6 by omega), pv_au_k a i y (show 2 ≠ 6 by omega), pv_au_k a i y (show 4 ≠ 6 by omega), pv_au_k a i y (show 5 ≠ 6 by omega), pv_au_k a i y (show 3 ≠ 6 by omega), pv_au_k a i y (show 7 ≠ 6 by omega), pv_au_k a i y (show 8 ≠ 6 by omega), pv_au_k a i y (show 9 ≠ 6 by omega)]
  refine ⟨h.1, h.2.1, fun t ht => ?_, h.2.2.2⟩
  have := h.2.2.1 t ht
  refine ⟨this.1, this.2.1, ?_⟩
  unfold pv_au
  split
  · omega
  · exact this.2.2
theorem pv_W.au9 {a : pv_A} (h : pv_W a) {k t : Nat} (ht : t < a 0 1) {y : Nat} (hy : y ≤ 100) : pv_W (pv_au a 9 (6 * k + t) y) := by
  have hb := h.1
  unfold pv_W pv_cnt at h ⊢
  simp only [pv_au_k a (6 * k + t) y (show 0 ≠ 9 by omega), pv_au_k a (6 * k + t) y (show 1 ≠ 9 by omega), pv_au_k a (6 * k + t) y (show 2 ≠ 9 by omega), pv_au_k a (6 * k + t) y (show 4 ≠ 9 by omega), pv_au_k a (6 * k + t) y (show 5 ≠ 9 by omega), pv_au_k a (6 * k + t) y (show 3 ≠ 9 by omega), pv_au_k a (6 * k + t) y (show 7 ≠ 9 by omega), pv_au_k a (6 * k + t) y (show 8 ≠ 9 by omega), pv_au_k a (6 * k + t) y (show 6 ≠ 9 by omega)]
  refine ⟨h.1, h.2.1, h.2.2.1, h.2.2.2.1, fun i hi => ?_, fun k' t' hk ht' hn => ?_, h.2.2.2.2.2.2⟩
  · unfold pv_au
    split
    · exact hy
    · exact h.2.2.2.2.1 i hi
  · rw [pv_au_ne a y (by omega)]
    exact h.2.2.2.2.2.1 k' t' hk ht' hn
theorem pv_X.up {X : pv_V} {a : pv_A} (h : pv_X X a) {k i y : Nat} (hk : k ≠ 0) (x : Int32) (h3 : k = 3 → i < a 0 0) (h9 : k = 9 → i < 6 * a 0 2 ∧ i % 6 < a 0 1) : pv_X (pv_up X k i x) (pv_au a k i y) := by
  unfold pv_X
  rw [pv_au_k a i y (Ne.symm hk)]
  refine ⟨fun s h1 h2 => ?_, fun j h1 h2 => ?_⟩
  · rw [pv_up_ne X x (by omega)]
    exact h.1 s h1 h2
  · rw [pv_up_ne X x (by omega)]
    exact h.2 j h1 h2
theorem pv_RA.up {X Y : pv_V} {a : pv_A} (h : pv_RA X Y a) {k i y : Nat} (hk : k ≠ 0) {x : Int32} (hx : x = pv_e k y) (hw : pv_W (pv_au a k i y)) (h3 : k = 3 → i < a 0 0) (h9 : k = 9 → i < 6 * a 0 2 ∧ i % 6 < a 0 1) : pv_RA (pv_up X k i x) (pv_up Y k i x) (pv_au a k i y) :=
  ⟨hw, h.2.1.up hk hx, h.2.2.1.up hk x h3 h9, h.2.2.2.up hk hx⟩
theorem pv_RA.R {X Y : pv_V} {a : pv_A} (h : pv_RA X Y a) : pv_R X Y := ⟨a, h⟩
theorem st_shift : zz_Step_shift pv_Rel := by
  intro MC MR hR x y z
  obtain ⟨⟨a, hw, hc, hx, hr⟩, hk⟩ := id hR
  have hb := hw.1
  unfold f_X4_shift f_X5_shift
  simp only [c_isS hc, r_isS hr hw, c_dp, r_in, zb2, pv_ift]
  cases h1 : pv_ok x (a 0 0) with
  | false => exact ⟨-1, MC, MR, rfl, rfl, hR⟩
  | true =>
    cases h2 : pv_bt y 0 99 with
    | false => exact ⟨-1, MC, MR, rfl, rfl, hR⟩
    | true =>
      cases h3 : pv_bt z 0 99 with
      | false => exact ⟨-1, MC, MR, rfl, rfl, hR⟩
      | true =>
        obtain ⟨s, hs, rfl⟩ := pv_ok_of (by omega) h1
        obtain ⟨d, hd, rfl⟩ := pv_bt_lit (x := y) 99 (by omega) h2
        obtain ⟨p, hp, rfl⟩ := pv_bt_lit (x := z) 99 (by omega) h3
        simp only [if_true, Bool.and_self, if_pos (show zz_in (nI s) 6 from pn_in (by omega) (by omega)), nI_clamp (show s < 2 ^ 31 by omega)]
        refine ⟨1, _, _, rfl, rfl, hR.now ?_ ?_ ?_ ?_ ?_⟩
        · rw [pv_cn_up _ (by omega) (by omega), pv_cn_up _ (by omega) (by omega), pv_rn_up _ (by omega) (by omega), pv_rn_up _ (by omega) (by omega)]
          have ra : pv_RA (pv_cn MC) (pv_rn MR) a := ⟨hw, hc, hx, hr⟩
          exact ((ra.up (k := 1) (i := s) (y := d) (by omega) rfl (hw.au1 s hd) (by omega) (by omega)).up (k := 2) (i := s) (y := p) (by omega) rfl ((hw.au1 s hd).au2 s hp) (by omega) (by omega)).R
        · rw [pv_ck_up _ (by omega) (by omega), pv_ck_up _ (by omega) (by omega)]
        · rw [pv_rk_up _ (by omega), pv_rk_up _ (by omega)]
        · rw [zz_up_ne _ _ _ (by omega), zz_up_ne _ _ _ (by omega)]
        · rw [zz_up_ne _ _ _ (by omega), zz_up_ne _ _ _ (by omega)]
theorem st_loud : zz_Step_loud pv_Rel := by
  intro MC MR hR x y
  obtain ⟨⟨a, hw, hc, hx, hr⟩, hk⟩ := id hR
  have hb := hw.1
  unfold f_X4_loud f_X5_loud
  simp only [c_isT hc, r_isT hr hw, c_between, r_in, zb2, pv_ift]
  cases h1 : pv_ok x (a 0 1) with
  | false => exact ⟨-1, MC, MR, rfl, rfl, hR⟩
  | true =>
    cases h2 : pv_bt y 1 9 with
    | false => exact ⟨-1, MC, MR, rfl, rfl, hR⟩
    | true =>
      obtain ⟨t, ht, rfl⟩ := pv_ok_of (by omega) h1
      obtain ⟨v, hv1, hv2, rfl⟩ := pv_bt_of (x := y) (lo := 1) (hi := 9) (by omega) h2 (by omega)
      simp only [if_true, if_pos (show zz_in (nI t) 6 from pn_in (by omega) (by omega)), nI_clamp (show t < 2 ^ 31 by omega), c_lou hc ht, r_lou hr ht]
      refine ⟨_, _, _, rfl, rfl, hR.now ?_ ?_ ?_ ?_ ?_⟩
      · rw [pv_cn_up _ (by omega) (by omega), pv_rn_up _ (by omega) (by omega)]
        have ra : pv_RA (pv_cn MC) (pv_rn MR) a := ⟨hw, hc, hx, hr⟩
        exact (ra.up (k := 6) (i := t) (y := v) (by omega) rfl (hw.au6 t hv1 hv2) (by omega) (by omega)).R
      · rw [pv_ck_up _ (by omega) (by omega)]
      · rw [pv_rk_up _ (by omega)]
      · rw [zz_up_ne _ _ _ (by omega)]
      · rw [zz_up_ne _ _ _ (by omega)]
theorem st_show : zz_Step_show pv_Rel := by
  intro MC MR hR x y z
  obtain ⟨⟨a, hw, hc, hx, hr⟩, hk⟩ := id hR
  have hb := hw.1
  unfold f_X4_show f_X5_show
  simp only [c_isK hc, r_isK hr hw, c_isT hc, r_isT hr hw, c_between, r_in, zb2, pv_ift]
  cases h1 : pv_ok x (a 0 2) with
  | false => exact ⟨-5, MC, MR, rfl, rfl, hR⟩
  | true =>
    cases h2 : pv_ok y (a 0 1) with
    | false => exact ⟨-5, MC, MR, rfl, rfl, hR⟩
    | true =>
      cases h3 : pv_bt z (-1) 99 with
      | false => exact ⟨-5, MC, MR, rfl, rfl, hR⟩
      | true =>
        obtain ⟨k, hk', rfl⟩ := pv_ok_of (by omega) h1
        obtain ⟨t, ht, rfl⟩ := pv_ok_of (by omega) h2
        obtain ⟨v, hv, rfl⟩ := pv_bt1_of (x := z) (hi := 99) (by omega) h3
        unfold f_X3_setMeasure
        simp only [if_true, c_meas hc hw hk' (show t < 6 by omega), zb2, pn_ix, pn_ix', if_pos (show zz_in (nI (6 * k + t)) 96 from pn_in (by omega) (by omega)), nI_clamp (show 6 * k + t < 2 ^ 31 by omega), zb1, r_mea hr (show 6 * k + t < 6 * a 0 2 by omega)]
        refine ⟨_, _, _, rfl, rfl, hR.now ?_ ?_ ?_ ?_ ?_⟩
        · rw [pv_cn_up _ (by omega) (by omega), pv_rn_up _ (by omega) (by omega)]
          have ra : pv_RA (pv_cn MC) (pv_rn MR) a := ⟨hw, hc, hx, hr⟩
          exact (ra.up (k := 9) (i := 6 * k + t) (y := v) (by omega) rfl (hw.au9 ht hv) (by omega) (by omega)).R
        · rw [pv_ck_up _ (by omega) (by omega)]
        · rw [pv_rk_up _ (by omega)]
        · rw [zz_up_ne _ _ _ (by omega)]
        · rw [zz_up_ne _ _ _ (by omega)]
