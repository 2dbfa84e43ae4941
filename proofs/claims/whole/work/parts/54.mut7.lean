/-! a take comes -/
def pk_a (a : pv_A) (s f : Nat) : pv_A := fun q x => if q = 0 ∧ x = 2 then a 0 2 + 1 else if q = 7 ∧ x = a 0 2 then s else if q = 8 ∧ x = a 0 2 then f else if q = 9 ∧ 6 * a 0 2 ≤ x then 0 else a q x
theorem pk_St {X X' : pv_V} {a : pv_A} (h : pv_St X a) (s f : Nat) (h0 : X' 0 2 = nI (a 0 2 + 1)) (h7 : X' 7 (a 0 2) = nI s) (h8 : X' 8 (a 0 2) = nI f) (h9 : ∀ x, 6 * a 0 2 ≤ x → x < 6 * a 0 2 + 6 → X' 9 x = -1) (hq : ∀ q x, ¬ (q = 0 ∧ x = 2) → ¬ (q = 7 ∧ x = a 0 2) → ¬ (q = 8 ∧ x = a 0 2) → ¬ (q = 9 ∧ 6 * a 0 2 ≤ x) → X' q x = X q x) : pv_St X' (pk_a a s f) := by
  intro q x hr
  have e0 : pk_a a s f 0 0 = a 0 0 := by simp [pk_a]
  have e1 : pk_a a s f 0 1 = a 0 1 := by simp [pk_a]
  have e2 : pk_a a s f 0 2 = a 0 2 + 1 := by simp [pk_a]
  unfold pv_r at hr
  rw [e0, e1, e2] at hr
  by_cases c0 : q = 0 ∧ x = 2
  · obtain ⟨rfl, rfl⟩ := c0
    rw [h0, e2]; rfl
  · by_cases c1 : q = 7 ∧ x = a 0 2
    · obtain ⟨rfl, rfl⟩ := c1
      have e : pk_a a s f 7 (a 0 2) = s := by simp [pk_a]
      rw [h7, e]; rfl
    · by_cases c2 : q = 8 ∧ x = a 0 2
      · obtain ⟨rfl, rfl⟩ := c2
        have e : pk_a a s f 8 (a 0 2) = f := by simp [pk_a]
        rw [h8, e]; rfl
      · by_cases c3 : q = 9 ∧ 6 * a 0 2 ≤ x
        · obtain ⟨rfl, c3⟩ := c3
          have e : pk_a a s f 9 x = 0 := by simp [pk_a, c3]
          rw [h9 x c3 (by omega), e]
          decide
        · rw [hq q x c0 c1 c2 c3]
          simp only [pk_a, c0, c1, c2, c3, if_false]
          exact h q x (by unfold pv_r; omega)
theorem pk_W {a : pv_A} (hw : pv_W a) (hn : a 0 2 < 16) {s f : Nat} (hs : s < a 0 0) (hf : f ≤ 20) (hc : pv_cnt a s < 4) : pv_W (pk_a a s f) := by
  have e0 : pk_a a s f 0 0 = a 0 0 := by simp [pk_a]
  have e1 : pk_a a s f 0 1 = a 0 1 := by simp [pk_a]
  have e2 : pk_a a s f 0 2 = a 0 2 + 1 := by simp [pk_a]
  have ek : ∀ q, q ≠ 0 → q ≤ 6 → pk_a a s f q = a q := fun q h0 hq => by
    funext x
    simp only [pk_a, show ¬ (q = 0 ∧ x = 2) by omega, show ¬ (q = 7 ∧ x = a 0 2) by omega, show ¬ (q = 8 ∧ x = a 0 2) by omega, show ¬ (q = 9 ∧ 6 * a 0 2 ≤ x) by omega, if_false]
  have e7 : ∀ k, k < a 0 2 → pk_a a s f 7 k = a 7 k := fun k hk => by simp [pk_a, show ¬ k = a 0 2 by omega]
  have e7n : pk_a a s f 7 (a 0 2) = s := by simp [pk_a]
  have hb := hw.1
  have hcc := hw.2.2.2.2.2.2
  refine ⟨⟨by rw [e0]; omega, by rw [e1]; omega, by rw [e2]; omega⟩, ?_, ?_, ?_, ?_, ?_, ?_⟩
  · rw [e0, e2, ek 1 (by omega) (by omega), ek 2 (by omega) (by omega), ek 3 (by omega) (by omega)]
    intro x hx
    have := hw.2.1 x hx
    refine ⟨this.1, this.2.1, ?_⟩
    by_cases q : a 3 x = 0
    · exact Or.inl q
    · have h2 : a 3 x ≤ a 0 2 ∧ a 7 (a 3 x - 1) = x := by omega
      exact Or.inr ⟨by omega, by rw [e7 _ (by omega)]; exact h2.2⟩
  · rw [e1, ek 4 (by omega) (by omega), ek 5 (by omega) (by omega), ek 6 (by omega) (by omega)]
    exact hw.2.2.1
  · rw [e0, e2]
    intro k hk
    by_cases q : k = a 0 2
    · subst q
      have e8 : pk_a a s f 8 (a 0 2) = f := by simp [pk_a]
      rw [e7n, e8]
      exact ⟨hs, hf⟩
    · have e8 : pk_a a s f 8 k = a 8 k := by simp [pk_a, q]
      rw [e7 k (by omega), e8]
      exact hw.2.2.2.1 k (by omega)
  · rw [e2]
    intro i hi
    by_cases q : 6 * a 0 2 ≤ i
    · have e9 : pk_a a s f 9 i = 0 := by simp [pk_a, q]
      omega
    · have e9 : pk_a a s f 9 i = a 9 i := by simp [pk_a, q]
      rw [e9]
      exact hw.2.2.2.2.1 i (by omega)
  · rw [e1, e2]
    intro k t hk ht hn
    by_cases q : 6 * a 0 2 ≤ 6 * k + t
    · simp [pk_a, q]
    · have e9 : pk_a a s f 9 (6 * k + t) = a 9 (6 * k + t) := by simp [pk_a, q]
      rw [e9]
      exact hw.2.2.2.2.2.1 k t (by omega) ht hn
  · rw [e0]
    intro x hx
    have := hcc x hx
    unfold pv_cnt at this hc ⊢
    rw [e2, zz_S, e7n, zz_S_congr (h := fun k => if a 7 k = x then 1 else 0) (fun k hk => by rw [e7 k hk])]
    by_cases q : s = x
    · subst q
      rw [if_pos rfl]
      omega
    · rw [if_neg q]
      omega
theorem r_takeIn {M : zz_Mem} {n : Nat} (h : M 0 8 = nI n) (hn : n < 16) (x y : Int32) : f_X5_take_63 x y 5000 0 M = some (nI 6, zz_set M 9 (fun x => if 6 * n ≤ x ∧ x < 6 * n + 6 then -1 else M 9 x)) := by
  have key := zz_iter (fun k (z : Int32 × zz_Mem) => f_X5_take_63 x y k z.1 z.2) (fun i => (nI i, zz_set M 9 (fun x => if 6 * n ≤ x ∧ x < 6 * n + i then -1 else M 9 x))) 6 (some (nI 6, zz_set M 9 (fun x => if 6 * n ≤ x ∧ x < 6 * n + 6 then -1 else M 9 x))) ?_ ?_ 5000 (by omega)
  · have e : (fun x => if 6 * n ≤ x ∧ x < 6 * n + 0 then -1 else M 9 x) = M 9 := by
      funext x
      rw [if_neg (by omega)]
    dsimp only at key
    rw [e, zz_set_id M 9 _ rfl, nI_0] at key
    exact key
  · intro k i hi
    dsimp only
    have e4 : ∀ g, (zz_set M 9 g) 0 8 = nI n := fun g => by rw [zz_set_ne _ _ (by omega), h]
    rw [f_X5_take_63, e4, if_neg (show ¬ (6 : Int32) ≤ nI i from nI_ge (b := 6) hi (by omega)), pn_ix', if_pos (pn_in (by omega) (by omega)), nI_clamp (by omega), zz_up_set, pn_1]
    congr 2
    funext x
    unfold upd
    by_cases q : x = 6 * n + i
    · subst q
      rw [if_pos rfl, if_pos (by omega)]
    · rw [if_neg q]
      dsimp only
      by_cases q2 : 6 * n ≤ x ∧ x < 6 * n + i
      · rw [if_pos q2, if_pos (by omega)]
      · rw [if_neg q2, if_neg (by omega)]
  · intro k
    dsimp only
    rw [f_X5_take_63, if_pos (show (6 : Int32) ≤ nI 6 by decide)]
theorem st_take : zz_Step_take pv_Rel := by
  intro MC MR hR x y
  obtain ⟨⟨a, hw, hc, hx, hr⟩, hk⟩ := id hR
  have hb := hw.1
  unfold f_X4_take f_X5_take
  rw [c_isS hc, r_isS hr hw, zb2, zb2, pv_ift, pv_ift, c_between, r_in, zb2, zb2, pv_ift, pv_ift]
  cases h1 : pv_ok x (a 0 0) with
  | false => exact ⟨-1, MC, MR, rfl, rfl, hR⟩
  | true =>
    cases h2 : pv_bt y 0 20 with
    | false => exact ⟨-1, MC, MR, rfl, rfl, hR⟩
    | true =>
      obtain ⟨s, hs, rfl⟩ := pv_ok_of (by omega) h1
      obtain ⟨f, hf, rfl⟩ := pv_bt_lit (x := y) 20 (by omega) h2
      have hcnt := hw.2.2.2.2.2.2 s hs
      have ec : f_X3_countTakesOf (nI s) MC = some (nI (pv_cnt a s), MC) := c_takesOf hc hw hs
      have er : f_X5_takesOf (nI s) MR = some (nI (pv_cnt a s), MR) := r_takesOf hr hw hs
      simp only [if_true]
      rw [c_n2 hc, r_n2 hr, ec, er, zb2, zb2]
      by_cases hn : a 0 2 < 16
      · rw [if_neg (show ¬ (16 : Int32) ≤ nI (a 0 2) from nI_ge (b := 16) hn (by omega)), if_neg (show ¬ nI (a 0 2) = 16 from fun q => by rw [show (16 : Int32) = nI 16 from rfl, nI_eq (by omega) (by omega)] at q; omega)]
        by_cases h4 : pv_cnt a s < 4
        · rw [if_pos (show nI (pv_cnt a s) < 4 from nI_lt (b := 4) h4 (by omega)), if_neg (show ¬ nI (pv_cnt a s) = 4 from fun q => by rw [show (4 : Int32) = nI 4 from rfl, nI_eq (by omega) (by omega)] at q; omega)]
          unfold f_X3_addTake
          have z1 : ∀ (M : zz_Mem) (c i : Nat) (v : Int32), c ≠ 1 → (zz_up M c i v) 1 8 = M 1 8 := fun M c i v h => by rw [zz_up_ne _ _ _ (Ne.symm h)]
          have z0 : ∀ (M : zz_Mem) (c i : Nat) (v : Int32), c ≠ 0 → (zz_up M c i v) 0 8 = M 0 8 := fun M c i v h => by rw [zz_up_ne _ _ _ (Ne.symm h)]
          have zz : ∀ (M : zz_Mem) (v : Int32), (zz_up M 0 8 v) 0 8 = v := fun M v => by simp [zz_up, zz_set, upd]
          have i16 : zz_in (nI (a 0 2)) 16 := pn_in (by omega) (by omega)
          rw [c_n2 hc, if_pos i16, zb2, nI_clamp (by omega), z1 _ 13 _ _ (by omega), z1 _ 12 _ _ (by omega), c_n2 hc, pn_1, z0 _ 7 _ _ (by omega), r_n2 hr, if_pos i16, if_pos i16]
          simp only [nI_clamp (show a 0 2 < 2 ^ 31 by omega)]
          rw [r_takeIn (n := a 0 2) (by rw [z0 _ 8 _ _ (by omega), z0 _ 7 _ _ (by omega), r_n2 hr]) hn, zb2, zz, zz_set_ne _ _ (show 0 ≠ 9 by omega), z0 _ 8 _ _ (by omega), z0 _ 7 _ _ (by omega), r_n2 hr, pn_1, nI_pred]
          refine ⟨_, _, _, rfl, rfl, hR.now ?_ ?_ ?_ ?_ ?_⟩
          · refine ⟨pk_a a s f, pk_W hw hn hs hf h4, ?_, ?_, ?_⟩
            · rw [show ∀ (M : zz_Mem) (v : Int32), zz_up M 1 8 v = zz_up M 1 (4 * 2) v from fun _ _ => rfl, pv_cn_up0 _ (by omega), pv_cn_up _ (by omega) (by omega), pv_cn_up _ (by omega) (by omega)]
              refine pk_St hc s f (pv_up_at _ _ _ _) ?_ ?_ (fun x q1 q2 => ?_) (fun q x q0 q1 q2 q3 => ?_)
              · rw [pv_up_ne _ _ (by omega), pv_up_ne _ _ (by omega)]; exact pv_up_at _ _ _ _
              · rw [pv_up_ne _ _ (by omega)]; exact pv_up_at _ _ _ _
              · rw [pv_up_ne _ _ (by omega), pv_up_ne _ _ (by omega), pv_up_ne _ _ (by omega)]
                exact hx.2 x (by omega) (by omega)
              · rw [pv_up_ne _ _ q0, pv_up_ne _ _ (by omega), pv_up_ne _ _ (by omega)]
            · rw [show ∀ (M : zz_Mem) (v : Int32), zz_up M 1 8 v = zz_up M 1 (4 * 2) v from fun _ _ => rfl, pv_cn_up0 _ (by omega), pv_cn_up _ (by omega) (by omega), pv_cn_up _ (by omega) (by omega)]
              have e0 : pk_a a s f 0 0 = a 0 0 := by simp [pk_a]
              have e1 : pk_a a s f 0 1 = a 0 1 := by simp [pk_a]
              have e2 : pk_a a s f 0 2 = a 0 2 + 1 := by simp [pk_a]
              unfold pv_X
              rw [e0, e1, e2]
              refine ⟨fun x q1 q2 => ?_, fun x q1 q2 => ?_⟩
              · rw [pv_up_ne _ _ (by omega), pv_up_ne _ _ (by omega), pv_up_ne _ _ (by omega)]
                exact hx.1 x q1 q2
              · rw [pv_up_ne _ _ (by omega), pv_up_ne _ _ (by omega), pv_up_ne _ _ (by omega)]
                exact hx.2 x q1 (by omega)
            · rw [show ∀ (M : zz_Mem) (v : Int32), zz_up M 0 8 v = zz_up M 0 (4 * 2) v from fun _ _ => rfl, pv_rn_up0 _ (by omega)]
              obtain ⟨r9, rq⟩ := pv_rn_set (zz_up (zz_up MR 7 (a 0 2) (nI s)) 8 (a 0 2) (nI f)) (fun x => if 6 * a 0 2 ≤ x ∧ x < 6 * a 0 2 + 6 then -1 else (zz_up (zz_up MR 7 (a 0 2) (nI s)) 8 (a 0 2) (nI f)) 9 x)
              have eu : pv_rn (zz_up (zz_up MR 7 (a 0 2) (nI s)) 8 (a 0 2) (nI f)) = pv_up (pv_up (pv_rn MR) 7 (a 0 2) (nI s)) 8 (a 0 2) (nI f) := by rw [pv_rn_up _ (by omega) (by omega), pv_rn_up _ (by omega) (by omega)]
              refine pk_St hr s f (pv_up_at _ _ _ _) ?_ ?_ (fun x q1 q2 => ?_) (fun q x q0 q1 q2 q3 => ?_)
              · rw [pv_up_ne _ _ (by omega), rq 7 (by omega), eu, pv_up_ne _ _ (by omega)]; exact pv_up_at _ _ _ _
              · rw [pv_up_ne _ _ (by omega), rq 8 (by omega), eu]; exact pv_up_at _ _ _ _
              · rw [pv_up_ne _ _ (by omega), r9]
                dsimp only
                rw [if_pos ⟨q1, q2⟩]
              · rw [pv_up_ne _ _ q0]
                by_cases e9 : q = 9
                · subst e9
                  rw [r9]
                  dsimp only
                  rw [if_neg (by omega)]
                  have : (zz_up (zz_up MR 7 (a 0 2) (nI s)) 8 (a 0 2) (nI f)) 9 x = pv_rn (zz_up (zz_up MR 7 (a 0 2) (nI s)) 8 (a 0 2) (nI f)) 9 x := rfl
                  rw [this, eu, pv_up_ne _ _ (by omega), pv_up_ne _ _ (by omega)]
                · rw [rq q e9, eu, pv_up_ne _ _ (by omega), pv_up_ne _ _ (by omega)]
          · rw [pv_ck_up _ (by omega) (by omega), pv_ck_up _ (by omega) (by omega), pv_ck_up _ (by omega) (by omega)]
          · rw [pv_rk_up _ (by omega)]
            unfold pv_rk
            rw [zz_set_ne _ _ (show 10 ≠ 9 by omega), zz_set_ne _ _ (show 11 ≠ 9 by omega), zz_set_ne _ _ (show 12 ≠ 9 by omega)]
            simp only [zz_up_ne _ _ _ (show 10 ≠ 8 by omega), zz_up_ne _ _ _ (show 11 ≠ 8 by omega), zz_up_ne _ _ _ (show 12 ≠ 8 by omega), zz_up_ne _ _ _ (show 10 ≠ 7 by omega), zz_up_ne _ _ _ (show 11 ≠ 7 by omega), zz_up_ne _ _ _ (show 12 ≠ 7 by omega)]
          · rw [zz_up_ne _ _ _ (by omega), zz_up_ne _ _ _ (by omega), zz_up_ne _ _ _ (by omega)]
          · have : ∀ (M : zz_Mem) (v : Int32), (zz_up M 0 8 v) 0 12 = M 0 12 := fun M v => by simp [zz_up, zz_set, upd]
            rw [this, zz_set_ne _ _ (by omega), zz_up_ne _ _ _ (by omega), zz_up_ne _ _ _ (by omega)]
        · have h4' : pv_cnt a s = 4 := by omega
          rw [h4', if_neg (show ¬ nI 4 < 4 by decide), if_pos (show nI 4 = 4 by decide)]
          exact ⟨-2, MC, MR, rfl, rfl, hR⟩
      · have hn' : a 0 2 = 16 := by omega
        rw [hn', if_pos (show (16 : Int32) ≤ nI 16 by decide), if_pos (show nI 16 = 16 by decide)]
        exact ⟨-2, MC, MR, rfl, rfl, hR⟩
