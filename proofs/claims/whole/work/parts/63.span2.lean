theorem c_spanF {M : zz_Mem} {a : pv_A} (h : pv_St (pv_cn M) a) (hw : pv_W a) {t s : Nat} (ht : t < a 0 1) (hs : s < a 0 0) : f_X2_find (nI s) (nI t) M = some (pw_M M s (pw_lo a t s (a 0 0)) (pw_hi a t s (a 0 0))) := by
  have hb := hw.1
  have key := zz_iter (fun n (x : Int32 × zz_Mem) => f_X2_find_18 (nI s) (nI t) n x.1 x.2) (fun i => (nI i, pw_M M s (pw_lo a t s i) (pw_hi a t s i))) (a 0 0) (some (nI (a 0 0), pw_M M s (pw_lo a t s (a 0 0)) (pw_hi a t s (a 0 0)))) ?_ ?_ 5000 (by omega)
  · unfold f_X2_find
    rw [if_pos (pn_in (by omega) (by omega)), nI_clamp (by omega)]
    dsimp only at key
    rw [nI_0] at key
    have e : zz_up (zz_up M 27 s 0) 28 s 99 = pw_M M s (pw_lo a t s 0) (pw_hi a t s 0) := rfl
    rw [e, key, zb2]
  · intro n i hi
    dsimp only
    have hS := pw_St h s (pw_lo a t s i) (pw_hi a t s i)
    have hch := pv_ch hw hi
    have hlo := pw_lo_le hw ht hs i (by omega)
    have hhi := pw_hi_le a t s i
    have noop : pw_o a t s i = (0, 99) → pw_M M s (pw_lo a t s (i + 1)) (pw_hi a t s (i + 1)) = pw_M M s (pw_lo a t s i) (pw_hi a t s i) := fun e => by
      rw [pw_lo, pw_hi, e]
      show pw_M M s (max (pw_lo a t s i) 0) (min (pw_hi a t s i) 99) = _
      rw [Nat.max_eq_left (by omega), Nat.min_eq_left (by omega)]
    rw [f_X2_find_18, c_n0 hS, if_neg (nI_ge hi (by omega)), if_pos (pn_in (by omega) (by omega)), nI_clamp (by omega), c_cho hS hi, pn_1]
    simp only [nI_eq (show i < 2 ^ 31 by omega) (show s < 2 ^ 31 by omega), pn_em1 (show a 3 i < 2 ^ 30 by omega)]
    by_cases q1 : i = s
    · rw [if_pos q1, noop (by unfold pw_o; rw [if_pos q1])]
    · rw [if_neg q1]
      by_cases q2 : a 3 i = 0
      · rw [if_pos q2, noop (by unfold pw_o; rw [if_neg q1, if_pos q2])]
      · obtain ⟨x, ex⟩ : ∃ x, a 3 i = x + 1 := ⟨a 3 i - 1, by omega⟩
        have em := hw.2.2.2.2.1 (6 * x + t) (by omega)
        rw [if_neg q2, ex, nI_pred, c_meas hS hw (by omega) (by omega), zb2]
        simp only [pn_em1 (show a 9 (6 * x + t) < 2 ^ 30 by omega)]
        by_cases q3 : a 9 (6 * x + t) = 0
        · rw [if_pos q3, noop (by unfold pw_o; rw [if_neg q1, if_neg q2, ex, Nat.add_sub_cancel, if_pos q3])]
        · obtain ⟨w, ew⟩ : ∃ w, a 9 (6 * x + t) = w + 1 := ⟨a 9 (6 * x + t) - 1, by omega⟩
          have eo : pw_o a t s i = pw_b a t s i w := by
            unfold pw_o
            rw [if_neg q1, if_neg q2, ex, Nat.add_sub_cancel, if_neg q3, ew, Nat.add_sub_cancel]
          rw [if_neg q3, c_meas hS hw (by omega) (by omega), zb2, ew, nI_pred, c_narrowBy h hw ht hs hi (by omega) hlo hhi, zb1, ← eo]
          rfl
  · intro n
    dsimp only
    rw [f_X2_find_18, c_n0 (pw_St h s _ _), if_pos (Int32.le_refl _)]
theorem c_size {M : zz_Mem} {s lo hi : Nat} (hs : s < 6) (h1 : lo ≤ 990) (h2 : hi ≤ 99) (e1 : M 27 s = nI lo) (e2 : M 28 s = nI hi) : f_X2_sizeOf (nI s) M = some (nI (hi + 1 - lo), M) := by
  unfold f_X2_sizeOf
  rw [if_pos (pn_in hs (by omega)), nI_clamp (by omega), e1, e2]
  have e : (nI hi - nI lo + 1).toInt = (hi : Int) - lo + 1 := by
    rw [Int32.toInt_add, pn_sub (by omega) (by omega), show (1 : Int32).toInt = 1 from by decide]
    exact Int.bmod_eq_of_le (by omega) (by omega)
  by_cases q : lo ≤ hi
  · rw [if_pos (by rw [Int32.lt_iff_toInt_lt, e, show (0 : Int32).toInt = 0 from rfl]; omega), pn_subN q, pn_1, show hi - lo + 1 = hi + 1 - lo by omega]
  · rw [if_neg (by rw [Int32.lt_iff_toInt_lt, e, show (0 : Int32).toInt = 0 from rfl]; omega), show hi + 1 - lo = 0 by omega]
    rfl
/-! the reference -/
theorem pw_o_q {a : pv_A} (hw : pv_W a) {t s o v : Nat} (ht : t < a 0 1) (ho : o < a 0 0) (h3 : ¬ a 3 o = 0) (hv : v ≤ 99) : pa_q a t s (v + 1) o (a 9 (6 * (a 3 o - 1) + t)) = !decide ((pw_o a t s o).1 ≤ v ∧ v ≤ (pw_o a t s o).2) := by
  have h4 := hw.2.2.1 t ht
  unfold pw_o
  by_cases q1 : o = s
  · rw [if_pos q1, decide_eq_true (show 0 ≤ v ∧ v ≤ 99 by omega)]
    unfold pa_q
    rw [if_pos q1.symm]
    rfl
  · rw [if_neg q1, if_neg h3]
    by_cases q3 : a 9 (6 * (a 3 o - 1) + t) = 0
    · rw [if_pos q3, decide_eq_true (show 0 ≤ v ∧ v ≤ 99 by omega), q3]
      unfold pa_q
      rw [if_neg (fun e => q1 e.symm), if_neg (by omega), if_pos rfl]
      rfl
    · obtain ⟨w, ew⟩ : ∃ w, a 9 (6 * (a 3 o - 1) + t) = w + 1 := ⟨a 9 (6 * (a 3 o - 1) + t) - 1, by omega⟩
      rw [if_neg q3, ew, Nat.add_sub_cancel]
      exact pw_b_q h4.1 (fun e => q1 e.symm) hv
theorem r_maySee {M : zz_Mem} {a : pv_A} (h : pv_St (pv_rn M) a) (hw : pv_W a) {t s v : Nat} (ht : t < a 0 1) (hs : s < a 0 0) (hv : v ≤ 99) : f_X5_maySee (nI s) (nI t) (nI v) M = some (pv_i (decide (pw_lo a t s (a 0 0) ≤ v ∧ v ≤ pw_hi a t s (a 0 0))), M) := by
  have hb := hw.1
  have key := zz_iter (fun n (x : Int32 × Int32 × zz_Mem) => f_X5_maySee_6 (nI s) (nI t) (nI v) n x.1 x.2.1 x.2.2) (fun i => (pv_i (decide (pw_lo a t s i ≤ v ∧ v ≤ pw_hi a t s i)), nI i, M)) (a 0 0) (some (pv_i (decide (pw_lo a t s (a 0 0) ≤ v ∧ v ≤ pw_hi a t s (a 0 0))), nI (a 0 0), M)) ?_ ?_ 5000 (by omega)
  · unfold f_X5_maySee
    dsimp only at key
    rw [pw_lo, pw_hi, decide_eq_true (show 0 ≤ v ∧ v ≤ 99 by omega), nI_0] at key
    have e1 : pv_i true = 1 := rfl
    rw [e1] at key
    rw [key, zb3, if_pos (pv_i1 _)]
  · intro n i hi
    dsimp only
    have hch := pv_ch hw hi
    rw [f_X5_maySee_6, r_n0 h, if_neg (nI_ge hi (by omega)), pv_ift, pn_1]
    have elo : pw_lo a t s (i + 1) = max (pw_lo a t s i) (pw_o a t s i).1 := rfl
    have ehi : pw_hi a t s (i + 1) = min (pw_hi a t s i) (pw_o a t s i).2 := rfl
    by_cases q : pw_lo a t s i ≤ v ∧ v ≤ pw_hi a t s i
    · rw [decide_eq_true q]
      simp only [if_true]
      rw [if_pos (pn_in (by omega) (by omega)), nI_clamp (by omega), r_cho h hi]
      simp only [pn_neg (show a 3 i < 2 ^ 30 by omega)]
      by_cases q2 : a 3 i = 0
      · have eo : pw_o a t s i = (0, 99) := by
          unfold pw_o
          rw [if_pos q2]
          split <;> rfl
        have e2 : decide (pw_lo a t s (i + 1) ≤ v ∧ v ≤ pw_hi a t s (i + 1)) = true := by
          rw [elo, ehi, eo]
          apply decide_eq_true
          show max _ 0 ≤ v ∧ v ≤ min _ 99
          omega
        rw [if_pos q2, e2]
        rfl
      · obtain ⟨x, ex⟩ : ∃ x, a 3 i = x + 1 := ⟨a 3 i - 1, by omega⟩
        have em := hw.2.2.2.2.1 (6 * x + t) (by omega)
        have hq := pw_o_q hw (s := s) ht hi q2 hv
        rw [ex, Nat.add_sub_cancel] at hq
        have hr := r_quar h hw (v := v + 1) (w := a 9 (6 * x + t)) ht hs hi (by omega) em
        rw [nI_pred, hq] at hr
        rw [if_neg q2, ex, nI_pred, pn_ix', if_pos (pn_in (by omega) (by omega)), nI_clamp (by omega), r_mea h (by omega), hr, zb2, pv_ift]
        by_cases q3 : (pw_o a t s i).1 ≤ v ∧ v ≤ (pw_o a t s i).2
        · have e2 : decide (pw_lo a t s (i + 1) ≤ v ∧ v ≤ pw_hi a t s (i + 1)) = true := by
            rw [elo, ehi]
            apply decide_eq_true
            omega
          rw [e2, decide_eq_true q3]
          rfl
        · have e2 : decide (pw_lo a t s (i + 1) ≤ v ∧ v ≤ pw_hi a t s (i + 1)) = false := by
            rw [elo, ehi]
            apply decide_eq_false
            omega
          rw [e2, decide_eq_false q3]
          rfl
    · have e2 : decide (pw_lo a t s (i + 1) ≤ v ∧ v ≤ pw_hi a t s (i + 1)) = false := by
        rw [elo, ehi]
        apply decide_eq_false
        omega
      rw [e2, decide_eq_false q]
      rfl
  · intro n
    dsimp only
    rw [f_X5_maySee_6, r_n0 h, if_pos (Int32.le_refl _)]
def pf_M (M : zz_Mem) (x y z : Int32) : zz_Mem := zz_up (zz_up (zz_up M 0 20 x) 0 21 y) 0 22 z
theorem pf_M_0 (M : zz_Mem) (x y z : Int32) {j : Nat} (h1 : j ≠ 20) (h2 : j ≠ 21) (h3 : j ≠ 22) : pf_M M x y z 0 j = M 0 j := by unfold pf_M; rw [zz_up_ni _ _ _ h3, zz_up_ni _ _ _ h2, zz_up_ni _ _ _ h1]
theorem pf_M_20 (M : zz_Mem) (x y z : Int32) : pf_M M x y z 0 20 = x := by unfold pf_M; rw [zz_up_ni _ _ _ (by omega), zz_up_ni _ _ _ (by omega), zz_up_at]
theorem pf_M_21 (M : zz_Mem) (x y z : Int32) : pf_M M x y z 0 21 = y := by unfold pf_M; rw [zz_up_ni _ _ _ (by omega), zz_up_at]
theorem pf_M_22 (M : zz_Mem) (x y z : Int32) : pf_M M x y z 0 22 = z := by unfold pf_M; rw [zz_up_at]
theorem pf_M_ne (M : zz_Mem) (x y z : Int32) {k : Nat} (h : k ≠ 0) : pf_M M x y z k = M k := by unfold pf_M; rw [zz_up_ne _ _ _ h, zz_up_ne _ _ _ h, zz_up_ne _ _ _ h]
theorem pf_M_M (M : zz_Mem) (x y z x' y' z' : Int32) : zz_up (zz_up (zz_up (pf_M M x y z) 0 20 x') 0 21 y') 0 22 z' = pf_M M x' y' z' := by
  funext k j
  by_cases e : k = 0
  · subst e
    by_cases h3 : j = 22
    · subst h3; rw [zz_up_at, pf_M_22]
    · rw [zz_up_ni _ _ _ h3]
      by_cases h2 : j = 21
      · subst h2; rw [zz_up_at, pf_M_21]
      · rw [zz_up_ni _ _ _ h2]
        by_cases h1 : j = 20
        · subst h1; rw [zz_up_at, pf_M_20]
        · rw [zz_up_ni _ _ _ h1, pf_M_0 _ _ _ _ h1 h2 h3, pf_M_0 _ _ _ _ h1 h2 h3]
  · rw [zz_up_ne _ _ _ e, zz_up_ne _ _ _ e, zz_up_ne _ _ _ e, pf_M_ne _ _ _ _ e, pf_M_ne _ _ _ _ e]
theorem pf_same (M : zz_Mem) (x y z : Int32) : rb_same M (pf_M M x y z) := ⟨fun k h1 _ => pf_M_ne _ _ _ _ (by omega), fun j hj => pf_M_0 _ _ _ _ (by omega) (by omega) (by omega)⟩
/-- low, high, how many among the measures below i -/
def pf_i (M : zz_Mem) (L H i : Nat) : zz_Mem := pf_M M (nI (if L < min i (H + 1) then L + 1 else 0) - 1) (nI (if L < min i (H + 1) then min i (H + 1) else 0) - 1) (nI (min i (H + 1) - L))
theorem r_span {M : zz_Mem} {a : pv_A} (h : pv_St (pv_rn M) a) (hw : pv_W a) {t s : Nat} (ht : t < a 0 1) (hs : s < a 0 0) : f_X5_findSpan (nI s) (nI t) M = some (pf_i M (pw_lo a t s (a 0 0)) (pw_hi a t s (a 0 0)) 100) := by
  have hb := hw.1
  have hlo := pw_lo_le hw ht hs (a 0 0) (by omega)
  have hhi := pw_hi_le a t s (a 0 0)
  have hh : ∀ x y z, pv_St (pv_rn (pf_M M x y z)) a := fun x y z => by rw [(pv_sR (pf_same M x y z).1 (pf_same M x y z).2).1]; exact h
  have may : ∀ x y z v, v ≤ 99 → f_X5_maySee (nI s) (nI t) (nI v) (pf_M M x y z) = some (pv_i (decide (pw_lo a t s (a 0 0) ≤ v ∧ v ≤ pw_hi a t s (a 0 0))), pf_M M x y z) := fun x y z v hv => r_maySee (hh x y z) hw ht hs hv
  obtain ⟨L, hL⟩ : ∃ L, L = pw_lo a t s (a 0 0) := ⟨_, rfl⟩
  obtain ⟨H, hH⟩ : ∃ H, H = pw_hi a t s (a 0 0) := ⟨_, rfl⟩
  rw [← hL, ← hH] at may ⊢
  rw [← hL] at hlo
  rw [← hH] at hhi
  have key := zz_iter (fun n (x : Int32 × zz_Mem) => f_X5_findSpan_17 (nI s) (nI t) n x.1 x.2) (fun i => (nI i, pf_i M L H i)) 100 (some (nI 100, pf_i M L H 100)) ?_ ?_ 5000 (by omega)
  · unfold f_X5_findSpan
    dsimp only at key
    have e : zz_up (zz_up (zz_up M 0 20 (-1)) 0 21 (-1)) 0 22 0 = pf_i M L H 0 := by
      unfold pf_i
      rw [Nat.zero_min, if_neg (by omega), if_neg (by omega), Nat.zero_sub]
      rfl
    rw [nI_0] at key
    rw [e, key, zb2]
  · intro n i hi
    dsimp only
    unfold pf_i
    rw [f_X5_findSpan_17, if_neg (show ¬ (100 : Int32) ≤ nI i from nI_ge (b := 100) hi (by omega)), may _ _ _ i (by omega), zb2, pv_ift, pn_1]
    by_cases q : L ≤ i ∧ i ≤ H
    · rw [decide_eq_true q]
      simp only [if_true]
      rw [pf_M_20, zz_up_ni _ _ _ (show 22 ≠ 21 by omega), zz_up_ni _ _ _ (show 22 ≠ 20 by omega), pf_M_22, zz_up_ni _ _ _ (show 22 ≠ 21 by omega), zz_up_ni _ _ _ (show 22 ≠ 20 by omega), pf_M_22, pf_M_M, pf_M_M, pn_1]
      have e1 : min (i + 1) (H + 1) = i + 1 := Nat.min_eq_left (by omega)
      have e2 : min i (H + 1) = i := Nat.min_eq_left (by omega)
      rw [e1, e2, if_pos (show L < i + 1 by omega), if_pos (show L < i + 1 by omega), nI_pred, nI_pred, show i - L + 1 = i + 1 - L by omega]
      by_cases q2 : L < i
      · rw [if_pos q2, nI_pred, if_pos (nI_pos' (by omega))]
      · rw [if_neg q2, if_neg (by decide), show L = i by omega]
    · rw [decide_eq_false q]
      simp only [Bool.false_eq_true, if_false]
      by_cases q2 : L < min i (H + 1)
      · have e1 : min (i + 1) (H + 1) = min i (H + 1) := by omega
        rw [e1]
      · have e1 : ¬ L < min (i + 1) (H + 1) := by omega
        rw [if_neg q2, if_neg q2, if_neg e1, if_neg e1, show min (i + 1) (H + 1) - L = min i (H + 1) - L by omega]
  · intro n
    dsimp only
    rw [f_X5_findSpan_17, if_pos (show (100 : Int32) ≤ nI 100 by decide)]
theorem pf_100 (M : zz_Mem) {L H : Nat} (hH : H ≤ 99) : pf_i M L H 100 = pf_M M (nI (if L ≤ H then L + 1 else 0) - 1) (nI (if L ≤ H then H + 1 else 0) - 1) (nI (H + 1 - L)) := by
  unfold pf_i
  rw [show min 100 (H + 1) = H + 1 by omega]
  by_cases q : L ≤ H
  · rw [if_pos (show L < H + 1 by omega), if_pos (show L < H + 1 by omega), if_pos q, if_pos q]
  · rw [if_neg (show ¬ L < H + 1 by omega), if_neg (show ¬ L < H + 1 by omega), if_neg q, if_neg q]
theorem st_span : zz_Step_span pv_Rel := by
  intro MC MR hR x y z
  obtain ⟨⟨a, hw, hc, hx, hr⟩, hk⟩ := id hR
  have hb := hw.1
  unfold f_X4_span f_X5_span
  simp only [c_isS hc, r_isS hr hw, c_isT hc, r_isT hr hw, c_between, r_in, zb2, pv_ift]
  cases h1 : pv_ok x (a 0 0) with
  | false => exact ⟨-1, MC, MR, rfl, rfl, hR⟩
  | true =>
    cases h2 : pv_ok y (a 0 1) with
    | false => exact ⟨-1, MC, MR, rfl, rfl, hR⟩
    | true =>
      cases h3 : pv_bt z 0 2 with
      | false => exact ⟨-1, MC, MR, rfl, rfl, hR⟩
      | true =>
        obtain ⟨s, hs, rfl⟩ := pv_ok_of (by omega) h1
        obtain ⟨t, ht, rfl⟩ := pv_ok_of (by omega) h2
        obtain ⟨j, hj, rfl⟩ := pv_bt_lit (x := z) 2 (by omega) h3
        have hlo := pw_lo_le hw ht hs (a 0 0) (by omega)
        have hhi := pw_hi_le a t s (a 0 0)
        obtain ⟨L, hL⟩ : ∃ L, L = pw_lo a t s (a 0 0) := ⟨_, rfl⟩
        obtain ⟨H, hH⟩ : ∃ H, H = pw_hi a t s (a 0 0) := ⟨_, rfl⟩
        rw [← hL] at hlo
        rw [← hH] at hhi
        simp only [if_true, c_spanF hc hw ht hs, r_span hr hw ht hs, zb1, ← hL, ← hH]
        rw [c_size (show s < 6 by omega) hlo hhi (pw_M_27 _ _ _ _) (pw_M_28 _ _ _ _), zb2, pf_100 MR hhi, pf_M_20, pf_M_21, pf_M_22, if_pos (show zz_in (nI s) 6 from pn_in (by omega) (by omega)), if_pos (show zz_in (nI s) 6 from pn_in (by omega) (by omega)), nI_clamp (by omega), pw_M_27, pw_M_28]
        have hR1 : pv_Rel (pw_M MC s L H) (pf_M MR (nI (if L ≤ H then L + 1 else 0) - 1) (nI (if L ≤ H then H + 1 else 0) - 1) (nI (H + 1 - L))) := hR.same (fun k hk => pw_M_ne _ _ _ _ (by omega) (by omega)) (pf_same _ _ _ _).1 (pf_same _ _ _ _).2
        simp only [pn_e0 (show H + 1 - L < 2 ^ 31 by omega)]
        rcases (show j = 0 ∨ j = 1 ∨ j = 2 by omega) with rfl | rfl | rfl
        · rw [if_neg (show ¬ nI 0 = 2 by decide), if_neg (show ¬ nI 0 = 2 by decide), if_pos (show nI 0 = 0 from rfl), if_pos (show nI 0 = 0 from rfl)]
          by_cases q : L ≤ H
          · rw [if_neg (by omega), if_neg (by omega)]
            refine ⟨_, _, _, rfl, ?_, hR1⟩
            rw [if_pos q, if_pos q, nI_pred]
          · rw [if_pos (by omega), if_pos (by omega)]
            exact ⟨_, _, _, rfl, rfl, hR1⟩
        · rw [if_neg (show ¬ nI 1 = 2 by decide), if_neg (show ¬ nI 1 = 2 by decide), if_neg (show ¬ nI 1 = 0 by decide), if_neg (show ¬ nI 1 = 0 by decide)]
          by_cases q : L ≤ H
          · rw [if_neg (by omega), if_neg (by omega)]
            refine ⟨_, _, _, rfl, ?_, hR1⟩
            rw [if_pos q, if_pos q, nI_pred]
          · rw [if_pos (by omega), if_pos (by omega)]
            exact ⟨_, _, _, rfl, rfl, hR1⟩
        · rw [if_pos (show nI 2 = 2 from rfl), if_pos (show nI 2 = 2 from rfl)]
          exact ⟨_, _, _, rfl, rfl, hR1⟩
