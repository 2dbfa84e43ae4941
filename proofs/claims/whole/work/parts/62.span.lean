/-! SPANS -/
def pw_b (a : pv_A) (t s o w : Nat) : Nat × Nat :=
  if a 4 t = 0 then (if a 1 s = a 1 o then (w, w) else (0, 99))
  else if pa_ah a o s = true then (if a 4 t = 1 then (0, w) else if a 4 t = 2 then (w, 99) else (w - a 5 t * (a 1 s - a 1 o), w - a 5 t * (a 1 s - a 1 o)))
  else if pa_ah a s o = true then (if a 4 t = 1 then (w, 99) else if a 4 t = 2 then (0, w) else (if w = 0 then 0 else w + a 5 t * (a 1 o - a 1 s), w + a 5 t * (a 1 o - a 1 s)))
  else (0, 99)
def pw_o (a : pv_A) (t s o : Nat) : Nat × Nat := if o = s then (0, 99) else if a 3 o = 0 then (0, 99) else if a 9 (6 * (a 3 o - 1) + t) = 0 then (0, 99) else pw_b a t s o (a 9 (6 * (a 3 o - 1) + t) - 1)
def pw_lo (a : pv_A) (t s : Nat) : Nat → Nat
  | 0 => 0
  | n + 1 => max (pw_lo a t s n) (pw_o a t s n).1
def pw_hi (a : pv_A) (t s : Nat) : Nat → Nat
  | 0 => 99
  | n + 1 => min (pw_hi a t s n) (pw_o a t s n).2
theorem pw_hi_le (a : pv_A) (t s : Nat) : ∀ n, pw_hi a t s n ≤ 99
  | 0 => Nat.le_refl _
  | n + 1 => by have := pw_hi_le a t s n; rw [pw_hi]; omega
theorem pw_b_le {a : pv_A} (hw : pv_W a) {t s o w : Nat} (ht : t < a 0 1) (hs : s < a 0 0) (ho : o < a 0 0) (hv : w ≤ 99) : (pw_b a t s o w).1 ≤ 990 ∧ (pw_b a t s o w).2 ≤ 990 := by
  have h1 := hw.2.2.1 t ht
  have d1 := hw.2.1 s hs
  have d2 := hw.2.1 o ho
  have m1 := pn_mulb h1.2.1 (show a 1 s - a 1 o ≤ 99 by omega)
  have m2 := pn_mulb h1.2.1 (show a 1 o - a 1 s ≤ 99 by omega)
  unfold pw_b
  repeat' split
  all_goals (constructor <;> (try dsimp only) <;> (try split) <;> omega)
theorem pw_o_le {a : pv_A} (hw : pv_W a) {t s o : Nat} (ht : t < a 0 1) (hs : s < a 0 0) (ho : o < a 0 0) : (pw_o a t s o).1 ≤ 990 ∧ (pw_o a t s o).2 ≤ 990 := by
  have hb := hw.1
  have hc := pv_ch hw ho
  unfold pw_o
  split
  · exact ⟨by omega, by omega⟩
  · split
    · exact ⟨by omega, by omega⟩
    · split
      · exact ⟨by omega, by omega⟩
      · have := hw.2.2.2.2.1 (6 * (a 3 o - 1) + t) (by omega)
        exact pw_b_le hw ht hs ho (by omega)
theorem pw_lo_le {a : pv_A} (hw : pv_W a) {t s : Nat} (ht : t < a 0 1) (hs : s < a 0 0) : ∀ n, n ≤ a 0 0 → pw_lo a t s n ≤ 990
  | 0, _ => Nat.zero_le _
  | n + 1, h => by
    have h1 := pw_lo_le hw ht hs n (by omega)
    have h2 := (pw_o_le hw ht hs (show n < a 0 0 by omega)).1
    rw [pw_lo]
    omega
/-- what the bounds mean -/
theorem pw_b_q {a : pv_A} {t s o w v : Nat} (h4 : a 4 t ≤ 3) (hso : ¬ s = o) (hv : v ≤ 99) : pa_q a t s (v + 1) o (w + 1) = !decide ((pw_b a t s o w).1 ≤ v ∧ v ≤ (pw_b a t s o w).2) := by
  unfold pa_q pw_b
  rw [if_neg hso, if_neg (by omega), if_neg (by omega)]
  by_cases q4 : a 4 t = 0
  · rw [if_pos q4, if_pos q4]
    by_cases q5 : a 1 s = a 1 o
    · rw [if_pos q5, decide_eq_true q5]
      by_cases q6 : v = w
      · rw [decide_eq_true (show v + 1 = w + 1 by omega), decide_eq_true (show w ≤ v ∧ v ≤ w by omega)]; rfl
      · rw [decide_eq_false (show ¬ v + 1 = w + 1 by omega), decide_eq_false (show ¬ (w ≤ v ∧ v ≤ w) by omega)]; rfl
    · rw [if_neg q5, decide_eq_false q5, decide_eq_true (show 0 ≤ v ∧ v ≤ 99 by omega)]; rfl
  · rw [if_neg q4, if_neg q4, Nat.add_sub_cancel, Nat.add_sub_cancel]
    cases q5 : pa_ah a s o with
    | true =>
      have q6 := pa_ah_not q5
      rw [q6]
      simp only [if_true, Bool.false_eq_true, if_false]
      unfold pa_brk
      by_cases e1 : a 4 t = 1
      · rw [if_pos e1, if_pos e1]
        by_cases z : v < w
        · rw [decide_eq_true z, decide_eq_false (show ¬ (w ≤ v ∧ v ≤ 99) by omega)]; rfl
        · rw [decide_eq_false z, decide_eq_true (show w ≤ v ∧ v ≤ 99 by omega)]; rfl
      · rw [if_neg e1, if_neg e1]
        by_cases e2 : a 4 t = 2
        · rw [if_pos e2, if_pos e2]
          by_cases z : w < v
          · rw [decide_eq_true z, decide_eq_false (show ¬ (0 ≤ v ∧ v ≤ w) by omega)]; rfl
          · rw [decide_eq_false z, decide_eq_true (show 0 ≤ v ∧ v ≤ w by omega)]; rfl
        · rw [if_neg e2, if_neg e2]
          generalize a 5 t * (a 1 o - a 1 s) = m
          congr 1
          apply decide_eq_decide.mpr
          dsimp only
          split <;> omega
    | false =>
      cases q6 : pa_ah a o s with
      | true =>
        simp only [if_true, Bool.false_eq_true, if_false]
        unfold pa_brk
        by_cases e1 : a 4 t = 1
        · rw [if_pos e1, if_pos e1]
          by_cases z : w < v
          · rw [decide_eq_true z, decide_eq_false (show ¬ (0 ≤ v ∧ v ≤ w) by omega)]; rfl
          · rw [decide_eq_false z, decide_eq_true (show 0 ≤ v ∧ v ≤ w by omega)]; rfl
        · rw [if_neg e1, if_neg e1]
          by_cases e2 : a 4 t = 2
          · rw [if_pos e2, if_pos e2]
            by_cases z : v < w
            · rw [decide_eq_true z, decide_eq_false (show ¬ (w ≤ v ∧ v ≤ 99) by omega)]; rfl
            · rw [decide_eq_false z, decide_eq_true (show w ≤ v ∧ v ≤ 99 by omega)]; rfl
          · rw [if_neg e2, if_neg e2]
            generalize a 5 t * (a 1 s - a 1 o) = m
            congr 1
            apply decide_eq_decide.mpr
            dsimp only
            omega
      | false =>
        simp only [Bool.false_eq_true, if_false]
        rw [decide_eq_true (show 0 ≤ v ∧ v ≤ 99 by omega)]; rfl
/-! the class -/
def pw_M (M : zz_Mem) (s lo hi : Nat) : zz_Mem := zz_up (zz_up M 27 s (nI lo)) 28 s (nI hi)
theorem pw_M_27 (M : zz_Mem) (s lo hi : Nat) : pw_M M s lo hi 27 s = nI lo := by unfold pw_M; rw [zz_up_ne _ _ _ (by omega), zz_up_at]
theorem pw_M_28 (M : zz_Mem) (s lo hi : Nat) : pw_M M s lo hi 28 s = nI hi := by unfold pw_M; rw [zz_up_at]
theorem pw_M_ne (M : zz_Mem) (s lo hi : Nat) {k : Nat} (h1 : k ≠ 27) (h2 : k ≠ 28) : pw_M M s lo hi k = M k := by unfold pw_M; rw [zz_up_ne _ _ _ h2, zz_up_ne _ _ _ h1]
theorem pw_M_ni (M : zz_Mem) (s lo hi : Nat) {k j : Nat} (h : j ≠ s) : pw_M M s lo hi k j = M k j := by
  unfold pw_M
  by_cases e2 : k = 28
  · subst e2; rw [zz_up_ni _ _ _ h, zz_up_ne _ _ _ (by omega)]
  · rw [zz_up_ne _ _ _ e2]
    by_cases e1 : k = 27
    · subst e1; rw [zz_up_ni _ _ _ h]
    · rw [zz_up_ne _ _ _ e1]
theorem pw_M_M (M : zz_Mem) (s lo hi : Nat) (x y : Int32) : zz_up (zz_up (pw_M M s lo hi) 27 s x) 28 s y = zz_up (zz_up M 27 s x) 28 s y := by
  funext k j
  by_cases e2 : k = 28
  · subst e2
    by_cases ej : j = s
    · subst ej; rw [zz_up_at, zz_up_at]
    · rw [zz_up_ni _ _ _ ej, zz_up_ni _ _ _ ej, zz_up_ne _ _ _ (by omega), zz_up_ne _ _ _ (by omega), pw_M_ni _ _ _ _ ej]
  · rw [zz_up_ne _ _ _ e2, zz_up_ne _ _ _ e2]
    by_cases e1 : k = 27
    · subst e1
      by_cases ej : j = s
      · subst ej; rw [zz_up_at, zz_up_at]
      · rw [zz_up_ni _ _ _ ej, zz_up_ni _ _ _ ej, pw_M_ni _ _ _ _ ej]
    · rw [zz_up_ne _ _ _ e1, zz_up_ne _ _ _ e1, pw_M_ne _ _ _ _ e1 e2]
theorem pw_St {M : zz_Mem} {a : pv_A} (h : pv_St (pv_cn M) a) (s lo hi : Nat) : pv_St (pv_cn (pw_M M s lo hi)) a := by
  rw [(pv_sC (M := M) (M' := pw_M M s lo hi) (fun k hk => pw_M_ne _ _ _ _ (by omega) (by omega))).1]
  exact h
theorem c_keepW (M : zz_Mem) {s lo hi l u : Nat} (hs : s < 6) (h1 : lo < 2 ^ 30) (h2 : hi < 2 ^ 30) (h3 : l < 2 ^ 30) (h4 : u < 2 ^ 30) : f_X2_keepWithin (nI s) (nI l) (nI u) (pw_M M s lo hi) = some (pw_M M s (max lo l) (min hi u)) := by
  unfold f_X2_keepWithin
  rw [if_pos (pn_in hs (by omega)), nI_clamp (by omega), pw_M_27, zz_up_ne _ _ _ (show 28 ≠ 27 by omega), pw_M_28, pw_M_M]
  unfold pw_M
  simp only [nI_ltI (show lo < 2 ^ 31 by omega) (show l < 2 ^ 31 by omega), nI_ltI (show u < 2 ^ 31 by omega) (show hi < 2 ^ 31 by omega)]
  have e1 : (if lo < l then nI l else nI lo) = nI (max lo l) := by
    split
    · rw [Nat.max_eq_right (by omega)]
    · rw [Nat.max_eq_left (by omega)]
  have e2 : (if u < hi then nI u else nI hi) = nI (min hi u) := by
    split
    · rw [Nat.min_eq_right (by omega)]
    · rw [Nat.min_eq_left (by omega)]
  rw [e1, e2]
theorem c_narrowBy {M : zz_Mem} {a : pv_A} (h : pv_St (pv_cn M) a) (hw : pv_W a) {t s o w lo hi : Nat} (ht : t < a 0 1) (hs : s < a 0 0) (ho : o < a 0 0) (hv : w ≤ 99) (h1 : lo ≤ 990) (h2 : hi ≤ 99) : f_X2_narrowBy (nI s) (nI t) (nI o) (nI w) (pw_M M s lo hi) = some (pw_M M s (max lo (pw_b a t s o w).1) (min hi (pw_b a t s o w).2)) := by
  have hb := hw.1
  have l1 := hw.2.2.1 t ht
  have d1 := hw.2.1 s hs
  have d2 := hw.2.1 o ho
  have hS := pw_St h s lo hi
  have noop : pw_M M s (max lo (0, 99).1) (min hi (0, 99).2) = pw_M M s lo hi := by
    show pw_M M s (max lo 0) (min hi 99) = _
    rw [Nat.max_eq_left (by omega), Nat.min_eq_left (by omega)]
  unfold f_X2_narrowBy pw_b
  rw [if_pos (show zz_in (nI t) 6 from pn_in (by omega) (by omega)), nI_clamp (show t < 2 ^ 31 by omega), c_law hS ht, if_pos (show zz_in (nI s) 6 from pn_in (by omega) (by omega)), if_pos (show zz_in (nI o) 6 from pn_in (by omega) (by omega)), nI_clamp (show s < 2 ^ 31 by omega), nI_clamp (show o < 2 ^ 31 by omega), c_day hS hs, c_day hS ho]
  simp only [pn_e0 (show a 4 t < 2 ^ 31 by omega), nI_eq (show a 1 s < 2 ^ 31 by omega) (show a 1 o < 2 ^ 31 by omega)]
  by_cases q4 : a 4 t = 0
  · rw [if_pos q4, if_pos q4]
    by_cases q5 : a 1 s = a 1 o
    · rw [if_pos q5, if_pos q5, c_keepW M (by omega) (by omega) (by omega) (by omega) (by omega), zb1]
    · rw [if_neg q5, if_neg q5, noop]
  · rw [if_neg q4, if_neg q4, c_order hS hw ho hs, zb2]
    have en : (if 0 < nI w - nI (a 5 t * (a 1 s - a 1 o)) then nI w - nI (a 5 t * (a 1 s - a 1 o)) else 0) = nI (w - a 5 t * (a 1 s - a 1 o)) := by
      have m1 := pn_mulb l1.2.1 (show a 1 s - a 1 o ≤ 99 by omega)
      by_cases q : a 5 t * (a 1 s - a 1 o) ≤ w
      · rw [pn_subN q]
        by_cases z : w - a 5 t * (a 1 s - a 1 o) = 0
        · rw [z]; rfl
        · rw [if_pos (by rw [← nI_0, nI_ltI (by omega) (by omega)]; omega)]
      · have hn : nI w - nI (a 5 t * (a 1 s - a 1 o)) < 0 := pk_sneg (by omega) (by omega)
        rw [if_neg (fun z => Int32.lt_irrefl (Int32.lt_trans z hn)), show w - a 5 t * (a 1 s - a 1 o) = 0 by omega]
        rfl
    have d11 : nI 1 = 1 := rfl
    have d21 : ¬ nI 2 = 1 := by decide
    have d22 : nI 2 = 2 := rfl
    have d31 : ¬ nI 3 = 1 := by decide
    have d32 : ¬ nI 3 = 2 := by decide
    have d33 : nI 3 = 3 := rfl
    have l1' : a 4 t = 1 ∨ a 4 t = 2 ∨ a 4 t = 3 := by omega
    cases q5 : pa_ah a o s with
    | true =>
      have hd := pa_ah_day q5
      simp only [if_true]
      rw [c_heal hS hw ht ho hs hd, zb2]
      unfold f_X2_narrowAfter
      rw [c_law hS ht, en]
      rcases l1' with e | e | e
      · rw [e, if_pos d11, if_pos (show (1 : Nat) = 1 from rfl), show (0 : Int32) = nI 0 from rfl, c_keepW M (by omega) (by omega) (by omega) (by omega) (by omega), zb1, zb1]
      · rw [e, if_neg d21, if_pos d22, if_neg (show ¬ (2 : Nat) = 1 by omega), if_pos (show (2 : Nat) = 2 from rfl), show (99 : Int32) = nI 99 from rfl, c_keepW M (by omega) (by omega) (by omega) (by omega) (by omega), zb1, zb1]
      · rw [e, if_neg d31, if_neg d32, if_pos d33, if_neg (show ¬ (3 : Nat) = 1 by omega), if_neg (show ¬ (3 : Nat) = 2 by omega), c_keepW M (by omega) (by omega) (by omega) (by omega) (by omega), zb1, zb1]
    | false =>
      cases q6 : pa_ah a s o with
      | true =>
        have hd := pa_ah_day q6
        have m2 := pn_mulb l1.2.1 (show a 1 o - a 1 s ≤ 99 by omega)
        simp only [if_true, Bool.false_eq_true, if_false]
        rw [if_neg (by decide), c_heal hS hw ht hs ho hd, zb2]
        unfold f_X2_narrowBefore
        rw [c_law hS ht]
        rcases l1' with e | e | e
        · rw [e, if_pos d11, if_pos (show (1 : Nat) = 1 from rfl), show (99 : Int32) = nI 99 from rfl, c_keepW M (by omega) (by omega) (by omega) (by omega) (by omega), zb1, zb1]
        · rw [e, if_neg d21, if_pos d22, if_neg (show ¬ (2 : Nat) = 1 by omega), if_pos (show (2 : Nat) = 2 from rfl), show (0 : Int32) = nI 0 from rfl, c_keepW M (by omega) (by omega) (by omega) (by omega) (by omega), zb1, zb1]
        · rw [e, if_neg d31, if_neg d32, if_pos d33, if_neg (show ¬ (3 : Nat) = 1 by omega), if_neg (show ¬ (3 : Nat) = 2 by omega), nI_add]
          by_cases z : w = 0
          · rw [if_pos (show nI w = 0 by rw [z]; rfl), if_pos z, show (0 : Int32) = nI 0 from rfl, c_keepW M (by omega) (by omega) (by omega) (by omega) (by omega), zb1, zb1]
          · rw [if_neg (show ¬ nI w = 0 by rw [pn_e0 (by omega)]; exact z), if_neg z, c_keepW M (by omega) (by omega) (by omega) (by omega) (by omega), zb1, zb1]
      | false =>
        simp only [Bool.false_eq_true, if_false]
        rw [if_neg (by decide), if_neg (by decide), noop]
