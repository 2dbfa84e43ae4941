theorem pv_bt_m1 {y : Int32} {n : Nat} (hn : n < 2 ^ 30) : pv_bt y (-1) (nI n - 1) = (decide (y = -1) || pv_ok y n) := by
  unfold pv_bt pv_ok
  simp only [pn_lt1 hn]
  by_cases e : y = -1
  · subst e
    have h1 : ¬ (-1 : Int32) < -1 := by decide
    have h2 : ¬ nI n ≤ (-1 : Int32) := by
      rw [Int32.le_iff_toInt_le, nI_toInt (by omega), show (-1 : Int32).toInt = -1 from by decide]
      omega
    simp [h1, h2]
  · have h3 : (y < -1) ↔ (y < 0) := by
      have : ¬ y.toInt = -1 := fun q => e (Int32.toInt_inj.mp (by rw [q]; decide))
      rw [Int32.lt_iff_toInt_lt, Int32.lt_iff_toInt_lt, show (-1 : Int32).toInt = -1 from by decide, show (0 : Int32).toInt = 0 from rfl]
      omega
    simp [e, h3]
theorem st_choose : zz_Step_choose pv_Rel := by
  intro MC MR hR x y
  obtain ⟨⟨a, hw, hc, hx, hr⟩, hk⟩ := id hR
  have hb := hw.1
  have ra : pv_RA (pv_cn MC) (pv_rn MR) a := ⟨hw, hc, hx, hr⟩
  unfold f_X4_choose f_X5_choose
  simp only [c_isS hc, r_isS hr hw, c_isK hc, r_in, r_n2 hr, zb2, pv_ift, pv_bt_m1 (show a 0 2 < 2 ^ 30 by omega)]
  cases h1 : pv_ok x (a 0 0) with
  | false =>
    refine ⟨-5, MC, MR, ?_, rfl, hR⟩
    by_cases e : y = -1
    · rw [if_pos e]; rfl
    · rw [if_neg e]
      cases pv_ok y (a 0 2) <;> rfl
  | true =>
    obtain ⟨s, hs, rfl⟩ := pv_ok_of (by omega) h1
    simp only [if_true, if_pos (show zz_in (nI s) 6 from pn_in (by omega) (by omega)), nI_clamp (show s < 2 ^ 31 by omega), c_cho hc hs, r_cho hr hs]
    have fin : ∀ v, (v = 0 ∨ (v ≤ a 0 2 ∧ a 7 (v - 1) = s)) → pv_Rel (zz_up MC 8 s (nI v - 1)) (zz_up MR 3 s (nI v - 1)) := by
      intro v hv
      refine hR.now ?_ ?_ ?_ ?_ ?_
      · rw [pv_cn_up _ (by omega) (by omega), pv_rn_up _ (by omega) (by omega)]
        exact (ra.up (k := 3) (i := s) (y := v) (by omega) rfl (hw.au3 s hv) (fun _ => hs) (by omega)).R
      · rw [pv_ck_up _ (by omega) (by omega)]
      · rw [pv_rk_up _ (by omega)]
      · rw [zz_up_ne _ _ _ (by omega)]
      · rw [zz_up_ne _ _ _ (by omega)]
    by_cases e : y = -1
    · subst e
      have f0 := fin 0 (Or.inl rfl)
      exact ⟨_, _, _, rfl, rfl, f0⟩
    · simp only [e, if_false, decide_false, Bool.false_or]
      cases h2 : pv_ok y (a 0 2) with
      | false => exact ⟨-5, MC, MR, rfl, rfl, hR⟩
      | true =>
        obtain ⟨k, hk', rfl⟩ := pv_ok_of (by omega) h2
        have hs' := hw.2.2.2.1 k hk'
        simp only [if_true, if_neg (nI_pos (show k < 2 ^ 31 by omega)), if_pos (show zz_in (nI k) 16 from pn_in (by omega) (by omega)), nI_clamp (show k < 2 ^ 31 by omega), c_sce hc hk', r_sce hr hk', nI_eq (show a 7 k < 2 ^ 31 by omega) (show s < 2 ^ 31 by omega)]
        by_cases q : a 7 k = s
        · have f0 := fin (k + 1) (Or.inr ⟨by omega, by rw [Nat.add_sub_cancel]; exact q⟩)
          rw [nI_pred] at f0
          simp only [q, if_true]
          exact ⟨_, _, _, rfl, rfl, f0⟩
        · simp only [q, if_false]
          exact ⟨-3, MC, MR, rfl, rfl, hR⟩
/-! like -/
def pl_row (g : Nat → Int32) (k j i : Nat) : Nat → Int32 := fun x => if 6 * k ≤ x ∧ x < 6 * k + i then g (6 * j + (x - 6 * k)) else g x
theorem pl_row_0 (g : Nat → Int32) (k j : Nat) : pl_row g k j 0 = g := by
  funext x
  unfold pl_row
  rw [if_neg (by omega)]
theorem pl_row_from (g : Nat → Int32) {k j i : Nat} (hi : i < 6) : pl_row g k j i (6 * j + i) = g (6 * j + i) := by
  unfold pl_row
  by_cases h : 6 * k ≤ 6 * j + i ∧ 6 * j + i < 6 * k + i
  · exfalso; omega
  · rw [if_neg h]
theorem pl_row_to (g : Nat → Int32) (k j i : Nat) : pl_row g k j i (6 * k + i) = g (6 * k + i) := by
  unfold pl_row
  rw [if_neg (by omega)]
theorem pl_row_step (g : Nat → Int32) {k j i : Nat} : upd (pl_row g k j i) (6 * k + i) (g (6 * j + i)) = pl_row g k j (i + 1) := by
  funext x
  unfold upd pl_row
  by_cases h : x = 6 * k + i
  · subst h
    rw [if_pos rfl, if_pos (by omega), show 6 * k + i - 6 * k = i by omega]
  · rw [if_neg h]
    by_cases h2 : 6 * k ≤ x ∧ x < 6 * k + i
    · rw [if_pos h2, if_pos (by omega)]
    · rw [if_neg h2, if_neg (by omega)]
def pl_a (a : pv_A) (k j : Nat) : pv_A := fun q x => if q = 9 ∧ (6 * k ≤ x ∧ x < 6 * k + a 0 1) then a 9 (6 * j + (x - 6 * k)) else a q x
def pl_n (a : pv_A) (k j : Nat) : Nat → Nat := zz_S (fun t => if a 9 (6 * k + t) = a 9 (6 * j + t) then 0 else 1)
theorem c_like {M : zz_Mem} {a : pv_A} (h : pv_St (pv_cn M) a) (hw : pv_W a) {k j : Nat} (hk : k < a 0 2) (hj : j < a 0 2) : f_X3_copyMeasures (nI j) (nI k) M = some (nI (pl_n a k j (a 0 1)), zz_set M 14 (pl_row (M 14) k j (a 0 1))) := by
  have hb := hw.1
  have key := zz_iter (fun n (x : Int32 × Int32 × zz_Mem) => f_X3_copyMeasures_5 (nI j) (nI k) n x.1 x.2.1 x.2.2) (fun i => (nI (pl_n a k j i), nI i, zz_set M 14 (pl_row (M 14) k j i))) (a 0 1) (some (nI (pl_n a k j (a 0 1)), nI (a 0 1), zz_set M 14 (pl_row (M 14) k j (a 0 1)))) ?_ ?_ 5000 (by omega)
  · unfold f_X3_copyMeasures
    have e0 : pl_n a k j 0 = 0 := rfl
    dsimp only at key
    rw [e0, nI_0, pl_row_0, zz_set_id M 14 _ rfl] at key
    rw [key, zb3]
  · intro n i hi
    dsimp only
    have m1 := hw.2.2.2.2.1 (6 * k + i) (by omega)
    have m2 := hw.2.2.2.2.1 (6 * j + i) (by omega)
    have e1 : f_X3_measureOf (nI j) (nI i) (zz_set M 14 (pl_row (M 14) k j i)) = some (nI (a 9 (6 * j + i)) - 1, zz_set M 14 (pl_row (M 14) k j i)) := by
      unfold f_X3_measureOf
      rw [pn_ix, if_pos (pn_in (by omega) (by omega)), nI_clamp (by omega), zz_set_self, pl_row_from _ (by omega), c_mea h (by omega)]
    have e2 : f_X3_measureOf (nI k) (nI i) (zz_set M 14 (pl_row (M 14) k j i)) = some (nI (a 9 (6 * k + i)) - 1, zz_set M 14 (pl_row (M 14) k j i)) := by
      unfold f_X3_measureOf
      rw [pn_ix, if_pos (pn_in (by omega) (by omega)), nI_clamp (by omega), zz_set_self, pl_row_to, c_mea h (by omega)]
    have e3 : f_X3_setMeasure (nI k) (nI i) (nI (a 9 (6 * j + i)) - 1) (zz_set M 14 (pl_row (M 14) k j i)) = some (zz_set M 14 (pl_row (M 14) k j (i + 1))) := by
      unfold f_X3_setMeasure
      rw [pn_ix, if_pos (pn_in (by omega) (by omega)), nI_clamp (by omega), zz_up_set, ← c_mea h (show 6 * j + i < 6 * a 0 2 by omega), pl_row_step]
    have e4 : (zz_set M 14 (pl_row (M 14) k j i)) 1 4 = nI (a 0 1) := by rw [zz_set_ne _ _ (by omega), c_n1 h]
    have e5 : pl_n a k j (i + 1) = pl_n a k j i + (if a 9 (6 * k + i) = a 9 (6 * j + i) then 0 else 1) := rfl
    rw [f_X3_copyMeasures_5, e4, if_neg (nI_ge hi (by omega)), e1, zb2, e2, zb2, e3, zb1, zb1, e5]
    simp only [pn_1, pn_e1 (show a 9 (6 * k + i) < 2 ^ 30 by omega) (show a 9 (6 * j + i) < 2 ^ 30 by omega)]
    by_cases q : a 9 (6 * k + i) = a 9 (6 * j + i)
    · rw [if_pos q, if_pos q]; rfl
    · rw [if_neg q, if_neg q]
  · intro n
    dsimp only
    have e4 : (zz_set M 14 (pl_row (M 14) k j (a 0 1))) 1 4 = nI (a 0 1) := by rw [zz_set_ne _ _ (by omega), c_n1 h]
    rw [f_X3_copyMeasures_5, e4, if_pos (Int32.le_refl _)]
theorem r_like {M : zz_Mem} {a : pv_A} (h : pv_St (pv_rn M) a) (hw : pv_W a) {k j : Nat} (hk : k < a 0 2) (hj : j < a 0 2) : f_X5_like_23 (nI k) (nI j) 5000 0 0 M = some (nI (pl_n a k j (a 0 1)), nI (a 0 1), zz_set M 9 (pl_row (M 9) k j (a 0 1))) := by
  have hb := hw.1
  have key := zz_iter (fun n (x : Int32 × Int32 × zz_Mem) => f_X5_like_23 (nI k) (nI j) n x.1 x.2.1 x.2.2) (fun i => (nI (pl_n a k j i), nI i, zz_set M 9 (pl_row (M 9) k j i))) (a 0 1) (some (nI (pl_n a k j (a 0 1)), nI (a 0 1), zz_set M 9 (pl_row (M 9) k j (a 0 1)))) ?_ ?_ 5000 (by omega)
  · have e0 : pl_n a k j 0 = 0 := rfl
    dsimp only at key
    rw [e0, nI_0, pl_row_0, zz_set_id M 9 _ rfl] at key
    exact key
  · intro n i hi
    dsimp only
    have m1 := hw.2.2.2.2.1 (6 * k + i) (by omega)
    have m2 := hw.2.2.2.2.1 (6 * j + i) (by omega)
    have e4 : (zz_set M 9 (pl_row (M 9) k j i)) 0 4 = nI (a 0 1) := by rw [zz_set_ne _ _ (by omega), r_n1 h]
    have e5 : pl_n a k j (i + 1) = pl_n a k j i + (if a 9 (6 * k + i) = a 9 (6 * j + i) then 0 else 1) := rfl
    rw [f_X5_like_23, e4, if_neg (nI_ge hi (by omega)), pn_ix', pn_ix', if_pos (pn_in (by omega) (by omega)), if_pos (pn_in (by omega) (by omega)), nI_clamp (by omega), nI_clamp (by omega), zz_up_set, zz_set_self, pl_row_from _ (by omega), pl_row_to, pl_row_step, e5, r_mea h (show 6 * j + i < 6 * a 0 2 by omega), r_mea h (show 6 * k + i < 6 * a 0 2 by omega)]
    simp only [pn_1, Int32.add_zero, pn_e1 (show a 9 (6 * k + i) < 2 ^ 30 by omega) (show a 9 (6 * j + i) < 2 ^ 30 by omega)]
    by_cases q : a 9 (6 * k + i) = a 9 (6 * j + i)
    · rw [if_pos q, if_pos q]; rfl
    · rw [if_neg q, if_neg q]
  · intro n
    dsimp only
    have e4 : (zz_set M 9 (pl_row (M 9) k j (a 0 1))) 0 4 = nI (a 0 1) := by rw [zz_set_ne _ _ (by omega), r_n1 h]
    rw [f_X5_like_23, e4, if_pos (Int32.le_refl _)]
theorem pl_St {X X' : pv_V} {a : pv_A} (h : pv_St X a) (hw : pv_W a) {k j : Nat} (hk : k < a 0 2) (hj : j < a 0 2) (hX : ∀ q, q ≠ 9 → X' q = X q) (h9 : X' 9 = pl_row (X 9) k j (a 0 1)) : pv_St X' (pl_a a k j) := by
  have hb := hw.1
  have e0 : ∀ q, q ≠ 9 → pl_a a k j q = a q := fun q hq => by funext x; unfold pl_a; rw [if_neg (by omega)]
  intro q i hr
  have hr' : pv_r a q i := by
    unfold pv_r at hr ⊢
    rw [e0 0 (by omega)] at hr
    exact hr
  by_cases e : q = 9
  · subst e
    rw [h9]
    have hi : i < 6 * a 0 2 := by unfold pv_r at hr'; omega
    unfold pl_row pl_a
    by_cases c : 6 * k ≤ i ∧ i < 6 * k + a 0 1
    · rw [if_pos c, if_pos ⟨rfl, c⟩]
      exact h 9 _ (Or.inr (Or.inr (Or.inr (Or.inr ⟨rfl, by omega⟩))))
    · rw [if_neg c, if_neg (by omega)]
      exact h 9 i hr'
  · rw [hX q e, e0 q e]
    exact h q i hr'
theorem pl_W {a : pv_A} (hw : pv_W a) {k j : Nat} (hk : k < a 0 2) (hj : j < a 0 2) : pv_W (pl_a a k j) := by
  have hb := hw.1
  have e0 : ∀ q, q ≠ 9 → pl_a a k j q = a q := fun q hq => by funext x; unfold pl_a; rw [if_neg (by omega)]
  unfold pv_W pv_cnt at hw ⊢
  simp only [e0 0 (by omega), e0 1 (by omega), e0 2 (by omega), e0 3 (by omega), e0 4 (by omega), e0 5 (by omega), e0 6 (by omega), e0 7 (by omega), e0 8 (by omega)]
  refine ⟨hw.1, hw.2.1, hw.2.2.1, hw.2.2.2.1, fun i hi => ?_, fun k' t hk' ht hn => ?_, hw.2.2.2.2.2.2⟩
  · unfold pl_a
    split
    · exact hw.2.2.2.2.1 _ (by omega)
    · exact hw.2.2.2.2.1 i hi
  · unfold pl_a
    rw [if_neg (by omega)]
    exact hw.2.2.2.2.2.1 k' t hk' ht hn
theorem pv_cn_set (M : zz_Mem) (g : Nat → Int32) : pv_cn (zz_set M 14 g) 9 = g ∧ ∀ q, q ≠ 9 → pv_cn (zz_set M 14 g) q = pv_cn M q := by
  refine ⟨by unfold pv_cn; simp [zz_set], fun q hq => ?_⟩
  unfold pv_cn
  by_cases e : q = 0
  · simp only [e, if_true]; rw [zz_set_ne _ _ (by omega)]
  · by_cases e2 : q ≤ 9
    · simp only [e, e2, if_true, if_false]; rw [zz_set_ne _ _ (by omega)]
    · simp only [e, e2, if_false]
theorem pv_rn_set (M : zz_Mem) (g : Nat → Int32) : pv_rn (zz_set M 9 g) 9 = g ∧ ∀ q, q ≠ 9 → pv_rn (zz_set M 9 g) q = pv_rn M q := by
  refine ⟨by unfold pv_rn; simp [zz_set], fun q hq => ?_⟩
  unfold pv_rn
  by_cases e : q = 0
  · simp only [e, if_true]; rw [zz_set_ne _ _ (by omega)]
  · by_cases e2 : q ≤ 9
    · simp only [e, e2, if_true, if_false]; rw [zz_set_ne _ _ (by omega)]
    · simp only [e, e2, if_false]
theorem st_like : zz_Step_like pv_Rel := by
  intro MC MR hR x y
  obtain ⟨⟨a, hw, hc, hx, hr⟩, hk⟩ := id hR
  have hb := hw.1
  unfold f_X4_like f_X5_like
  simp only [c_isK hc, r_isK hr hw, zb2, pv_ift]
  cases h1 : pv_ok x (a 0 2) with
  | false => exact ⟨-1, MC, MR, rfl, rfl, hR⟩
  | true =>
    cases h2 : pv_ok y (a 0 2) with
    | false => exact ⟨-1, MC, MR, rfl, rfl, hR⟩
    | true =>
      obtain ⟨k, hk', rfl⟩ := pv_ok_of (by omega) h1
      obtain ⟨j, hj, rfl⟩ := pv_ok_of (by omega) h2
      simp only [if_true, c_like hc hw hk' hj, r_like hr hw hk' hj, zb2, zb3]
      refine ⟨_, _, _, rfl, rfl, hR.now ?_ ?_ ?_ ?_ ?_⟩
      · obtain ⟨c9, cq⟩ := pv_cn_set MC (pl_row (MC 14) k j (a 0 1))
        obtain ⟨r9, rq⟩ := pv_rn_set MR (pl_row (MR 9) k j (a 0 1))
        have e0 : ∀ q, q ≠ 9 → pl_a a k j q = a q := fun q hq => by funext x; unfold pl_a; rw [if_neg (by omega)]
        refine ⟨pl_a a k j, pl_W hw hk' hj, pl_St hc hw hk' hj cq c9, ⟨fun s h1 h2 => ?_, fun i h1 h2 => ?_⟩, pl_St hr hw hk' hj rq r9⟩
        · rw [e0 0 (by omega)] at h1
          rw [cq 3 (by omega)]
          exact hx.1 s h1 h2
        · rw [e0 0 (by omega)] at h2
          rw [c9]
          unfold pl_row
          rw [if_neg (by omega)]
          exact hx.2 i h1 h2
      · unfold pv_ck
        funext k j
        by_cases e : k = 0
        · simp only [e, if_true]; rw [zz_set_ne _ _ (by omega)]
        · by_cases e2 : k ≤ 9
          · simp only [e, e2, if_true, if_false]; rw [zz_set_ne _ _ (by omega)]
          · simp only [e, e2, if_false]
      · unfold pv_rk
        rw [zz_set_ne _ _ (show 10 ≠ 9 by omega), zz_set_ne _ _ (show 11 ≠ 9 by omega), zz_set_ne _ _ (show 12 ≠ 9 by omega)]
      · rw [zz_set_ne _ _ (by omega)]
      · rw [zz_set_ne _ _ (by omega)]
