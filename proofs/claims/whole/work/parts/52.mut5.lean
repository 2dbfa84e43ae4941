/-! a thing comes -/
def pt_a (a : pv_A) (w r v : Nat) : pv_A := fun q x => if q = 0 ∧ x = 1 then a 0 1 + 1 else if q = 4 ∧ x = a 0 1 then w else if q = 5 ∧ x = a 0 1 then r else if q = 6 ∧ x = a 0 1 then v else a q x
set_option maxHeartbeats 2000000 in
theorem pt_St {X : pv_V} {a : pv_A} (h : pv_St X a) (w r v : Nat) : pv_St (pv_up (pv_up (pv_up (pv_up X 4 (a 0 1) (nI w)) 5 (a 0 1) (nI r)) 6 (a 0 1) (nI v)) 0 1 (nI (a 0 1 + 1))) (pt_a a w r v) := by
  intro q x hr
  have e0 : pt_a a w r v 0 0 = a 0 0 := by simp [pt_a]
  have e1 : pt_a a w r v 0 1 = a 0 1 + 1 := by simp [pt_a]
  have e2 : pt_a a w r v 0 2 = a 0 2 := by simp [pt_a]
  unfold pv_r at hr
  rw [e0, e1, e2] at hr
  by_cases c0 : q = 0 ∧ x = 1
  · obtain ⟨rfl, rfl⟩ := c0
    rw [pv_up_at, e1]; rfl
  · rw [pv_up_ne _ _ c0]
    by_cases c3 : q = 6 ∧ x = a 0 1
    · obtain ⟨rfl, rfl⟩ := c3
      have f : pt_a a w r v 6 (a 0 1) = v := by simp [pt_a]
      rw [pv_up_at, f]; rfl
    · rw [pv_up_ne _ _ c3]
      by_cases c2 : q = 5 ∧ x = a 0 1
      · obtain ⟨rfl, rfl⟩ := c2
        have f : pt_a a w r v 5 (a 0 1) = r := by simp [pt_a]
        rw [pv_up_at, f]; rfl
      · rw [pv_up_ne _ _ c2]
        by_cases c1 : q = 4 ∧ x = a 0 1
        · obtain ⟨rfl, rfl⟩ := c1
          have f : pt_a a w r v 4 (a 0 1) = w := by simp [pt_a]
          rw [pv_up_at, f]; rfl
        · rw [pv_up_ne _ _ c1]
          simp only [pt_a, c0, c1, c2, c3, if_false]
          exact h q x (by unfold pv_r; omega)
theorem pt_W {a : pv_A} (hw : pv_W a) (hn : a 0 1 < 6) {w r v : Nat} (h1 : w ≤ 3) (h2 : r ≤ 9) (h3 : 1 ≤ v) (h4 : v ≤ 9) : pv_W (pt_a a w r v) := by
  have e0 : pt_a a w r v 0 0 = a 0 0 := by simp [pt_a]
  have e1 : pt_a a w r v 0 1 = a 0 1 + 1 := by simp [pt_a]
  have e2 : pt_a a w r v 0 2 = a 0 2 := by simp [pt_a]
  have ek : ∀ q, q ≠ 0 → ¬ (4 ≤ q ∧ q ≤ 6) → pt_a a w r v q = a q := fun q h0 hq => by
    funext x
    simp only [pt_a, show ¬ (q = 0 ∧ x = 1) by omega, show ¬ (q = 4 ∧ x = a 0 1) by omega, show ¬ (q = 5 ∧ x = a 0 1) by omega, show ¬ (q = 6 ∧ x = a 0 1) by omega, if_false]
  have hb := hw.1
  unfold pv_W pv_cnt at hw ⊢
  rw [e0, e1, e2]
  simp only [ek 1 (by omega) (by omega), ek 2 (by omega) (by omega), ek 3 (by omega) (by omega), ek 7 (by omega) (by omega), ek 8 (by omega) (by omega), ek 9 (by omega) (by omega)]
  refine ⟨⟨by omega, by omega, by omega⟩, hw.2.1, fun t ht => ?_, hw.2.2.2.1, hw.2.2.2.2.1, fun k t hk ht hn => hw.2.2.2.2.2.1 k t hk ht (by omega), hw.2.2.2.2.2.2⟩
  by_cases e : t = a 0 1
  · subst e
    have f1 : pt_a a w r v 4 (a 0 1) = w := by simp [pt_a]
    have f2 : pt_a a w r v 5 (a 0 1) = r := by simp [pt_a]
    have f3 : pt_a a w r v 6 (a 0 1) = v := by simp [pt_a]
    rw [f1, f2, f3]
    exact ⟨h1, h2, h3, h4⟩
  · have f1 : pt_a a w r v 4 t = a 4 t := by simp [pt_a, e]
    have f2 : pt_a a w r v 5 t = a 5 t := by simp [pt_a, e]
    have f3 : pt_a a w r v 6 t = a 6 t := by simp [pt_a, e]
    rw [f1, f2, f3]
    exact hw.2.2.1 t (by omega)
theorem pt_X {X : pv_V} {a : pv_A} (h : pv_X X a) (w r v : Nat) (x y z : Int32) : pv_X (pv_up (pv_up (pv_up (pv_up X 4 (a 0 1) x) 5 (a 0 1) y) 6 (a 0 1) z) 0 1 (nI (a 0 1 + 1))) (pt_a a w r v) := by
  have e0 : pt_a a w r v 0 0 = a 0 0 := by simp [pt_a]
  have e1 : pt_a a w r v 0 1 = a 0 1 + 1 := by simp [pt_a]
  have e2 : pt_a a w r v 0 2 = a 0 2 := by simp [pt_a]
  unfold pv_X
  rw [e0, e1, e2]
  refine ⟨fun s h1 h2 => ?_, fun i h1 h2 => ?_⟩
  · rw [pv_up_ne _ _ (by omega), pv_up_ne _ _ (by omega), pv_up_ne _ _ (by omega), pv_up_ne _ _ (by omega)]
    exact h.1 s (by omega) h2
  · rw [pv_up_ne _ _ (by omega), pv_up_ne _ _ (by omega), pv_up_ne _ _ (by omega), pv_up_ne _ _ (by omega)]
    exact h.2 i h1 (by omega)
/-- what the class's and the reference's thing do once law, rate and loudness are right -/
def pt_c (x y z : Int32) (M : zz_Mem) : Option (Int32 × zz_Mem) := if (M 1 4) < 6 then zz_b2 (f_X3_addThing x y z M) (fun r12 M11 => some (r12, M11)) else some ((-2), M)
theorem c_thing (x y z : Int32) (M : zz_Mem) : f_X4_thing x y z M = if ((if x = 3 then pv_bt y 1 9 else (pv_bt x 0 2 && decide (y = 0))) && pv_bt z 1 9) = true then pt_c x y z M else some (-1, M) := by
  unfold f_X4_thing f_X4_isLawWithRate
  by_cases e : x = 3
  · simp only [e, if_true, c_between, zb2, pv_i1, pv_ift]
    cases pv_bt y 1 9 <;> cases pv_bt z 1 9 <;> rfl
  · simp only [e, if_false, c_between, zb2, pv_ift]
    by_cases e2 : y = 0
    · simp only [e2, if_true, decide_true]
      cases pv_bt x 0 2 <;> cases pv_bt z 1 9 <;> rfl
    · simp only [e2, if_false, decide_false]
      cases pv_bt x 0 2 <;> cases pv_bt z 1 9 <;> rfl
theorem pv_bt_x3 {x : Int32} (h : ¬ x = 3) : pv_bt x 0 3 = pv_bt x 0 2 := by
  unfold pv_bt
  have : (3 < x) ↔ (2 < x) := by
    have e : ¬ x.toInt = 3 := fun q => h (Int32.toInt_inj.mp (by rw [q]; decide))
    rw [Int32.lt_iff_toInt_lt, Int32.lt_iff_toInt_lt, show (3 : Int32).toInt = 3 from by decide, show (2 : Int32).toInt = 2 from by decide]
    omega
  simp only [this]
theorem pv_bt_00 (y : Int32) : pv_bt y 0 0 = decide (y = 0) := by
  unfold pv_bt
  by_cases e : y = 0
  · subst e; decide
  · rw [decide_eq_false e]
    have e' : ¬ y.toInt = 0 := fun q => e (Int32.toInt_inj.mp (by rw [q]; decide))
    by_cases h : y < 0
    · simp [h]
    · have h2 : 0 < y := by
        rw [Int32.lt_iff_toInt_lt, show (0 : Int32).toInt = 0 from rfl] at h ⊢
        omega
      simp [h2]
