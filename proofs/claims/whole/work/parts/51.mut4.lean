/-! a scene comes -/
def ps_a (a : pv_A) (d p : Nat) : pv_A := fun q x => if q = 0 ∧ x = 0 then a 0 0 + 1 else if q = 1 ∧ x = a 0 0 then d else if q = 2 ∧ x = a 0 0 then p else if q = 3 ∧ x = a 0 0 then 0 else a q x
set_option maxHeartbeats 2000000 in
theorem ps_St {X : pv_V} {a : pv_A} (h : pv_St X a) (d p : Nat) : pv_St (pv_up (pv_up (pv_up (pv_up X 1 (a 0 0) (nI d)) 2 (a 0 0) (nI p)) 3 (a 0 0) (-1)) 0 0 (nI (a 0 0 + 1))) (ps_a a d p) := by
  intro q x hr
  have e0 : ps_a a d p 0 0 = a 0 0 + 1 := by simp [ps_a]
  have e1 : ps_a a d p 0 1 = a 0 1 := by simp [ps_a]
  have e2 : ps_a a d p 0 2 = a 0 2 := by simp [ps_a]
  unfold pv_r at hr
  rw [e0, e1, e2] at hr
  by_cases c0 : q = 0 ∧ x = 0
  · obtain ⟨rfl, rfl⟩ := c0
    rw [pv_up_at, e0]; rfl
  · rw [pv_up_ne _ _ c0]
    by_cases c3 : q = 3 ∧ x = a 0 0
    · obtain ⟨rfl, rfl⟩ := c3
      rw [pv_up_at]
      have f3 : ps_a a d p 3 (a 0 0) = 0 := by simp [ps_a]
      rw [f3]
      decide
    · rw [pv_up_ne _ _ c3]
      by_cases c2 : q = 2 ∧ x = a 0 0
      · obtain ⟨rfl, rfl⟩ := c2
        rw [pv_up_at]
        simp only [ps_a, show ¬ (2 = 0 ∧ a 0 0 = 0) by omega, show ¬ (2 = 1 ∧ a 0 0 = a 0 0) by omega, if_false, and_self, if_true]
        rfl
      · rw [pv_up_ne _ _ c2]
        by_cases c1 : q = 1 ∧ x = a 0 0
        · obtain ⟨rfl, rfl⟩ := c1
          rw [pv_up_at]
          simp only [ps_a, show ¬ (1 = 0 ∧ a 0 0 = 0) by omega, if_false, and_self, if_true]
          rfl
        · rw [pv_up_ne _ _ c1]
          simp only [ps_a, c0, c1, c2, c3, if_false]
          exact h q x (by unfold pv_r; omega)
theorem ps_W {a : pv_A} (hw : pv_W a) (hn : a 0 0 < 6) {d p : Nat} (hd : d ≤ 99) (hp : p ≤ 99) : pv_W (ps_a a d p) := by
  have e0 : ps_a a d p 0 0 = a 0 0 + 1 := by simp [ps_a]
  have e1 : ps_a a d p 0 1 = a 0 1 := by simp [ps_a]
  have e2 : ps_a a d p 0 2 = a 0 2 := by simp [ps_a]
  have ek : ∀ q, 4 ≤ q → ps_a a d p q = a q := fun q hq => by
    funext x
    simp only [ps_a, show ¬ (q = 0 ∧ x = 0) by omega, show ¬ (q = 1 ∧ x = a 0 0) by omega, show ¬ (q = 2 ∧ x = a 0 0) by omega, show ¬ (q = 3 ∧ x = a 0 0) by omega, if_false]
  have hb := hw.1
  have hc := hw.2.2.2.2.2.2
  unfold pv_cnt at hc
  unfold pv_W pv_cnt at hw ⊢
  rw [e0, e1, e2]
  simp only [ek 4 (by omega), ek 5 (by omega), ek 6 (by omega), ek 7 (by omega), ek 8 (by omega), ek 9 (by omega)]
  refine ⟨⟨by omega, by omega, by omega⟩, fun s hs => ?_, hw.2.2.1, fun k hk => ?_, hw.2.2.2.2.1, hw.2.2.2.2.2.1, fun s hs => ?_⟩
  · by_cases e : s = a 0 0
    · subst e
      have f1 : ps_a a d p 1 (a 0 0) = d := by simp [ps_a]
      have f2 : ps_a a d p 2 (a 0 0) = p := by simp [ps_a]
      have f3 : ps_a a d p 3 (a 0 0) = 0 := by simp [ps_a]
      rw [f1, f2, f3]
      exact ⟨hd, hp, Or.inl rfl⟩
    · have f1 : ps_a a d p 1 s = a 1 s := by simp [ps_a, e]
      have f2 : ps_a a d p 2 s = a 2 s := by simp [ps_a, e]
      have f3 : ps_a a d p 3 s = a 3 s := by simp [ps_a, e]
      rw [f1, f2, f3]
      exact hw.2.1 s (by omega)
  · have := hw.2.2.2.1 k hk
    omega
  · by_cases e : s = a 0 0
    · subst e
      rw [zz_S_0 (fun k hk => by have := hw.2.2.2.1 k hk; rw [if_neg (by omega)])]
      omega
    · exact hc s (by omega)
theorem ps_X {X : pv_V} {a : pv_A} (h : pv_X X a) (d p : Nat) (x y : Int32) : pv_X (pv_up (pv_up (pv_up (pv_up X 1 (a 0 0) x) 2 (a 0 0) y) 3 (a 0 0) (-1)) 0 0 (nI (a 0 0 + 1))) (ps_a a d p) := by
  have e0 : ps_a a d p 0 0 = a 0 0 + 1 := by simp [ps_a]
  have e1 : ps_a a d p 0 1 = a 0 1 := by simp [ps_a]
  have e2 : ps_a a d p 0 2 = a 0 2 := by simp [ps_a]
  unfold pv_X
  rw [e0, e1, e2]
  refine ⟨fun s h1 h2 => ?_, fun i h1 h2 => ?_⟩
  · rw [pv_up_ne _ _ (by omega), pv_up_ne _ _ (by omega), pv_up_ne _ _ (by omega), pv_up_ne _ _ (by omega)]
    exact h.1 s (by omega) h2
  · rw [pv_up_ne _ _ (by omega), pv_up_ne _ _ (by omega), pv_up_ne _ _ (by omega), pv_up_ne _ _ (by omega)]
    exact h.2 i h1 h2
theorem pv_up_id {X : pv_V} {k i : Nat} {x : Int32} (h : X k i = x) : pv_up X k i x = X := by
  funext q j
  by_cases e : q = k ∧ j = i
  · obtain ⟨rfl, rfl⟩ := e
    rw [pv_up_at, h]
  · rw [pv_up_ne _ _ e]
theorem st_scene : zz_Step_scene pv_Rel := by
  intro MC MR hR x y
  obtain ⟨⟨a, hw, hc, hx, hr⟩, hk⟩ := id hR
  have hb := hw.1
  unfold f_X4_scene f_X5_scene
  simp only [c_dp, r_in, zb2, pv_ift]
  cases h1 : pv_bt x 0 99 with
  | false => exact ⟨-1, MC, MR, rfl, rfl, hR⟩
  | true =>
    cases h2 : pv_bt y 0 99 with
    | false => exact ⟨-1, MC, MR, rfl, rfl, hR⟩
    | true =>
      obtain ⟨d, hd, rfl⟩ := pv_bt_lit (x := x) 99 (by omega) h1
      obtain ⟨p, hp, rfl⟩ := pv_bt_lit (x := y) 99 (by omega) h2
      simp only [if_true, Bool.and_self]
      rw [c_n0 hc, r_n0 hr, show (6 : Int32) = nI 6 from rfl]
      simp only [nI_ltI (show a 0 0 < 2 ^ 31 by omega) (show 6 < 2 ^ 31 by omega), nI_eq (show a 0 0 < 2 ^ 31 by omega) (show 6 < 2 ^ 31 by omega)]
      by_cases hn : a 0 0 < 6
      · have hn' : ¬ a 0 0 = 6 := by omega
        unfold f_X3_addScene
        have i6 : zz_in (nI (a 0 0)) 6 := pn_in (by omega) (by omega)
        have z1 : ∀ (M : zz_Mem) (c i : Nat) (v : Int32), c ≠ 1 → (zz_up M c i v) 1 0 = M 1 0 := fun M c i v h => by rw [zz_up_ne _ _ _ (Ne.symm h)]
        have z0 : ∀ (M : zz_Mem) (c i : Nat) (v : Int32), c ≠ 0 → (zz_up M c i v) 0 0 = M 0 0 := fun M c i v h => by rw [zz_up_ne _ _ _ (Ne.symm h)]
        have zz : ∀ (M : zz_Mem) (v : Int32), (zz_up M 0 0 v) 0 0 = v := fun M v => by simp [zz_up, zz_set, upd]
        simp only [hn, hn', if_true, if_false, c_n0 hc, if_pos i6, nI_clamp (show a 0 0 < 2 ^ 31 by omega), zb2, z1 _ 7 _ _ (by omega), z1 _ 6 _ _ (by omega), zz, z0 _ 1 _ _ (by omega), z0 _ 2 _ _ (by omega), z0 _ 3 _ _ (by omega), r_n0 hr, pn_1, nI_pred]
        refine ⟨_, _, _, rfl, rfl, hR.now ?_ ?_ ?_ ?_ ?_⟩
        · refine ⟨ps_a a d p, ps_W hw hn hd hp, ?_, ?_, ?_⟩
          · rw [show zz_up (zz_up (zz_up MC 6 (a 0 0) (nI d)) 7 (a 0 0) (nI p)) 1 0 (nI (a 0 0 + 1)) = zz_up (zz_up (zz_up MC 6 (a 0 0) (nI d)) 7 (a 0 0) (nI p)) 1 (4 * 0) (nI (a 0 0 + 1)) from rfl, pv_cn_up0 _ (by omega), pv_cn_up _ (by omega) (by omega), pv_cn_up _ (by omega) (by omega)]
            have q := ps_St hc d p
            rw [pv_up_id (X := pv_up (pv_up (pv_cn MC) 1 (a 0 0) (nI d)) 2 (a 0 0) (nI p)) (k := 3) (i := a 0 0) (x := -1) (by rw [pv_up_ne _ _ (by omega), pv_up_ne _ _ (by omega)]; exact hx.1 _ (Nat.le_refl _) hn)] at q
            exact q
          · rw [show zz_up (zz_up (zz_up MC 6 (a 0 0) (nI d)) 7 (a 0 0) (nI p)) 1 0 (nI (a 0 0 + 1)) = zz_up (zz_up (zz_up MC 6 (a 0 0) (nI d)) 7 (a 0 0) (nI p)) 1 (4 * 0) (nI (a 0 0 + 1)) from rfl, pv_cn_up0 _ (by omega), pv_cn_up _ (by omega) (by omega), pv_cn_up _ (by omega) (by omega)]
            have q := ps_X hx d p (nI d) (nI p)
            rw [pv_up_id (X := pv_up (pv_up (pv_cn MC) 1 (a 0 0) (nI d)) 2 (a 0 0) (nI p)) (k := 3) (i := a 0 0) (x := -1) (by rw [pv_up_ne _ _ (by omega), pv_up_ne _ _ (by omega)]; exact hx.1 _ (Nat.le_refl _) hn)] at q
            exact q
          · rw [show ∀ M : zz_Mem, zz_up M 0 0 (nI (a 0 0 + 1)) = zz_up M 0 (4 * 0) (nI (a 0 0 + 1)) from fun _ => rfl, pv_rn_up0 _ (by omega), pv_rn_up _ (by omega) (by omega), pv_rn_up _ (by omega) (by omega), pv_rn_up _ (by omega) (by omega)]
            exact ps_St hr d p
        · rw [pv_ck_up _ (by omega) (by omega), pv_ck_up _ (by omega) (by omega), pv_ck_up _ (by omega) (by omega)]
        · rw [pv_rk_up _ (by omega), pv_rk_up _ (by omega), pv_rk_up _ (by omega), pv_rk_up _ (by omega)]
        · rw [zz_up_ne _ _ _ (by omega), zz_up_ne _ _ _ (by omega), zz_up_ne _ _ _ (by omega)]
        · have : ∀ (M : zz_Mem) (v : Int32), (zz_up M 0 0 v) 0 12 = M 0 12 := fun M v => by simp [zz_up, zz_set, upd]
          rw [this, zz_up_ne _ _ _ (by omega), zz_up_ne _ _ _ (by omega), zz_up_ne _ _ _ (by omega)]
      · have hn' : a 0 0 = 6 := by omega
        simp only [hn, hn', if_true, if_false]
        exact ⟨-2, MC, MR, rfl, rfl, hR⟩
