theorem c_takesOf {M : zz_Mem} {a : pv_A} (h : pv_St (pv_cn M) a) (hw : pv_W a) {s : Nat} (hs : s < a 0 0) : f_X3_countTakesOf (nI s) M = some (nI (zz_S (fun i => if a 7 i = s then 1 else 0) (a 0 2)), M) := by
  have hb := hw.1
  have key := zz_iter (fun n (x : Int32 × Int32 × zz_Mem) => f_X3_countTakesOf_4 (nI s) n x.1 x.2.1 x.2.2) (fun i => (nI (zz_S (fun i => if a 7 i = s then 1 else 0) i), nI i, M)) (a 0 2) (some (nI (zz_S (fun i => if a 7 i = s then 1 else 0) (a 0 2)), nI (a 0 2), M)) ?_ ?_ 5000 (by omega)
  · unfold f_X3_countTakesOf
    dsimp only [zz_S] at key
    rw [nI_0] at key
    rw [key, zb3]
  · intro n i hi
    dsimp only
    rw [f_X3_countTakesOf_4, c_n2 h, if_neg (nI_ge hi (by omega)), zz_S]
    simp only [pn_1]
    have e := hw.2.2.2.1 i hi
    rw [if_pos (pn_in (by omega) (by omega)), nI_clamp (by omega), c_sce h hi]
    simp only [nI_eq (show a 7 i < 2 ^ 31 by omega) (show s < 2 ^ 31 by omega)]
    by_cases q : a 7 i = s
    · rw [if_pos q, if_pos q]
    · rw [if_neg q, if_neg q]
      rfl
  · intro n
    dsimp only
    rw [f_X3_countTakesOf_4, c_n2 h, if_pos (Int32.le_refl _)]
theorem r_takesOf {M : zz_Mem} {a : pv_A} (h : pv_St (pv_rn M) a) (hw : pv_W a) {s : Nat} (hs : s < a 0 0) : f_X5_takesOf (nI s) M = some (nI (zz_S (fun i => if a 7 i = s then 1 else 0) (a 0 2)), M) := by
  have hb := hw.1
  have key := zz_iter (fun n (x : Int32 × Int32 × zz_Mem) => f_X5_takesOf_4 (nI s) n x.1 x.2.1 x.2.2) (fun i => (nI (zz_S (fun i => if a 7 i = s then 1 else 0) i), nI i, M)) (a 0 2) (some (nI (zz_S (fun i => if a 7 i = s then 1 else 0) (a 0 2)), nI (a 0 2), M)) ?_ ?_ 5000 (by omega)
  · unfold f_X5_takesOf
    dsimp only [zz_S] at key
    rw [nI_0] at key
    rw [key, zb3]
  · intro n i hi
    dsimp only
    rw [f_X5_takesOf_4, r_n2 h, if_neg (nI_ge hi (by omega)), zz_S]
    simp only [pn_1]
    have e := hw.2.2.2.1 i hi
    rw [if_pos (pn_in (by omega) (by omega)), nI_clamp (by omega), r_sce h hi]
    simp only [nI_eq (show a 7 i < 2 ^ 31 by omega) (show s < 2 ^ 31 by omega)]
    by_cases q : a 7 i = s
    · rw [if_pos q, if_pos q]
    · rw [if_neg q, if_neg q, Int32.add_zero]
      rfl
  · intro n
    dsimp only
    rw [f_X5_takesOf_4, r_n2 h, if_pos (Int32.le_refl _)]
theorem c_shown {M : zz_Mem} {a : pv_A} (h : pv_St (pv_cn M) a) (hw : pv_W a) {k : Nat} (hk : k < a 0 2) : f_X3_countThingsShownBy (nI k) M = some (nI (zz_S (fun i => if a 9 (6 * k + i) = 0 then 0 else 1) (a 0 1)), M) := by
  have hb := hw.1
  have key := zz_iter (fun n (x : Int32 × Int32 × zz_Mem) => f_X3_countThingsShownBy_4 (nI k) n x.1 x.2.1 x.2.2) (fun i => (nI (zz_S (fun i => if a 9 (6 * k + i) = 0 then 0 else 1) i), nI i, M)) (a 0 1) (some (nI (zz_S (fun i => if a 9 (6 * k + i) = 0 then 0 else 1) (a 0 1)), nI (a 0 1), M)) ?_ ?_ 5000 (by omega)
  · unfold f_X3_countThingsShownBy
    dsimp only [zz_S] at key
    rw [nI_0] at key
    rw [key, zb3]
  · intro n i hi
    dsimp only
    rw [f_X3_countThingsShownBy_4, c_n1 h, if_neg (nI_ge hi (by omega)), zz_S]
    simp only [pn_1]
    have e := hw.2.2.2.2.1 (6 * k + i) (by omega)
    rw [c_meas h hw hk (by omega), zb2]
    simp only [pn_em1 (show a 9 (6 * k + i) < 2 ^ 30 by omega)]
    by_cases q : a 9 (6 * k + i) = 0
    · rw [if_pos q, if_pos q]
      rfl
    · rw [if_neg q, if_neg q]
  · intro n
    dsimp only
    rw [f_X3_countThingsShownBy_4, c_n1 h, if_pos (Int32.le_refl _)]
theorem r_shown {M : zz_Mem} {a : pv_A} (h : pv_St (pv_rn M) a) (hw : pv_W a) {k : Nat} (hk : k < a 0 2) (z : Int32) : f_X5_told_49 (nI k) z 5000 0 0 M = some (nI (zz_S (fun i => if a 9 (6 * k + i) = 0 then 0 else 1) (a 0 1)), nI (a 0 1), M) := by
  have hb := hw.1
  have key := zz_iter (fun n (x : Int32 × Int32 × zz_Mem) => f_X5_told_49 (nI k) z n x.1 x.2.1 x.2.2) (fun i => (nI (zz_S (fun i => if a 9 (6 * k + i) = 0 then 0 else 1) i), nI i, M)) (a 0 1) (some (nI (zz_S (fun i => if a 9 (6 * k + i) = 0 then 0 else 1) (a 0 1)), nI (a 0 1), M)) ?_ ?_ 5000 (by omega)
  · dsimp only [zz_S] at key
    rw [nI_0] at key
    exact key
  · intro n i hi
    dsimp only
    have e := hw.2.2.2.2.1 (6 * k + i) (by omega)
    rw [f_X5_told_49, r_n1 h, if_neg (nI_ge hi (by omega)), zz_S, pn_ix', if_pos (pn_in (by omega) (by omega)), nI_clamp (by omega), r_mea h (by omega)]
    simp only [pn_1, pn_neg (show a 9 (6 * k + i) < 2 ^ 30 by omega)]
    by_cases q : a 9 (6 * k + i) = 0
    · rw [if_pos q, if_pos q, Int32.add_zero]
      rfl
    · rw [if_neg q, if_neg q]
  · intro n
    dsimp only
    rw [f_X5_told_49, r_n1 h, if_pos (Int32.le_refl _)]
theorem c_shows {M : zz_Mem} {a : pv_A} (h : pv_St (pv_cn M) a) (hw : pv_W a) {t : Nat} (ht : t < a 0 1) : f_X3_countTakesThatShow (nI t) M = some (nI (zz_S (fun i => if a 9 (6 * i + t) = 0 then 0 else 1) (a 0 2)), M) := by
  have hb := hw.1
  have key := zz_iter (fun n (x : Int32 × Int32 × zz_Mem) => f_X3_countTakesThatShow_4 (nI t) n x.1 x.2.1 x.2.2) (fun i => (nI (zz_S (fun i => if a 9 (6 * i + t) = 0 then 0 else 1) i), nI i, M)) (a 0 2) (some (nI (zz_S (fun i => if a 9 (6 * i + t) = 0 then 0 else 1) (a 0 2)), nI (a 0 2), M)) ?_ ?_ 5000 (by omega)
  · unfold f_X3_countTakesThatShow
    dsimp only [zz_S] at key
    rw [nI_0] at key
    rw [key, zb3]
  · intro n i hi
    dsimp only
    rw [f_X3_countTakesThatShow_4, c_n2 h, if_neg (nI_ge hi (by omega)), zz_S]
    simp only [pn_1]
    have e := hw.2.2.2.2.1 (6 * i + t) (by omega)
    rw [c_meas h hw hi (by omega), zb2]
    simp only [pn_em1 (show a 9 (6 * i + t) < 2 ^ 30 by omega)]
    by_cases q : a 9 (6 * i + t) = 0
    · rw [if_pos q, if_pos q]
      rfl
    · rw [if_neg q, if_neg q]
  · intro n
    dsimp only
    rw [f_X3_countTakesThatShow_4, c_n2 h, if_pos (Int32.le_refl _)]
theorem r_shows {M : zz_Mem} {a : pv_A} (h : pv_St (pv_rn M) a) (hw : pv_W a) {t : Nat} (ht : t < a 0 1) (z : Int32) : f_X5_thingOf_63 (nI t) z 5000 0 0 M = some (nI (zz_S (fun i => if a 9 (6 * i + t) = 0 then 0 else 1) (a 0 2)), nI (a 0 2), M) := by
  have hb := hw.1
  have key := zz_iter (fun n (x : Int32 × Int32 × zz_Mem) => f_X5_thingOf_63 (nI t) z n x.1 x.2.1 x.2.2) (fun i => (nI (zz_S (fun i => if a 9 (6 * i + t) = 0 then 0 else 1) i), nI i, M)) (a 0 2) (some (nI (zz_S (fun i => if a 9 (6 * i + t) = 0 then 0 else 1) (a 0 2)), nI (a 0 2), M)) ?_ ?_ 5000 (by omega)
  · dsimp only [zz_S] at key
    rw [nI_0] at key
    exact key
  · intro n i hi
    dsimp only
    have e := hw.2.2.2.2.1 (6 * i + t) (by omega)
    rw [f_X5_thingOf_63, r_n2 h, if_neg (nI_ge hi (by omega)), zz_S, pn_ix', if_pos (pn_in (by omega) (by omega)), nI_clamp (by omega), r_mea h (by omega)]
    simp only [pn_1, pn_neg (show a 9 (6 * i + t) < 2 ^ 30 by omega)]
    by_cases q : a 9 (6 * i + t) = 0
    · rw [if_pos q, if_pos q, Int32.add_zero]
      rfl
    · rw [if_neg q, if_neg q]
  · intro n
    dsimp only
    rw [f_X5_thingOf_63, r_n2 h, if_pos (Int32.le_refl _)]
theorem pv_chb {a : pv_A} (hw : pv_W a) {s : Nat} (hs : s < a 0 0) : a 3 s ≤ 16 := by
  have hb := hw.1
  have := hw.2.1 s hs
  omega
theorem c_withCh {M : zz_Mem} {a : pv_A} (h : pv_St (pv_cn M) a) (hw : pv_W a)  : f_X3_countScenesWithChosen M = some (nI (zz_S (fun i => if a 3 i = 0 then 0 else 1) (a 0 0)), M) := by
  have hb := hw.1
  have key := zz_iter (fun n (x : Int32 × Int32 × zz_Mem) => f_X3_countScenesWithChosen_4 n x.1 x.2.1 x.2.2) (fun i => (nI (zz_S (fun i => if a 3 i = 0 then 0 else 1) i), nI i, M)) (a 0 0) (some (nI (zz_S (fun i => if a 3 i = 0 then 0 else 1) (a 0 0)), nI (a 0 0), M)) ?_ ?_ 5000 (by omega)
  · unfold f_X3_countScenesWithChosen
    dsimp only [zz_S] at key
    rw [nI_0] at key
    rw [key, zb3]
  · intro n i hi
    dsimp only
    rw [f_X3_countScenesWithChosen_4, c_n0 h, if_neg (nI_ge hi (by omega)), zz_S]
    simp only [pn_1]
    have e := pv_chb hw hi
    rw [if_pos (pn_in (by omega) (by omega)), nI_clamp (by omega), c_cho h hi]
    simp only [pn_em1 (show a 3 i < 2 ^ 30 by omega)]
    by_cases q : a 3 i = 0
    · rw [if_pos q, if_pos q]
      rfl
    · rw [if_neg q, if_neg q]
  · intro n
    dsimp only
    rw [f_X3_countScenesWithChosen_4, c_n0 h, if_pos (Int32.le_refl _)]
theorem r_withCh {M : zz_Mem} {a : pv_A} (h : pv_St (pv_rn M) a) (hw : pv_W a)  : f_X5_withChosen M = some (nI (zz_S (fun i => if a 3 i = 0 then 0 else 1) (a 0 0)), M) := by
  have hb := hw.1
  have key := zz_iter (fun n (x : Int32 × Int32 × zz_Mem) => f_X5_withChosen_4 n x.1 x.2.1 x.2.2) (fun i => (nI (zz_S (fun i => if a 3 i = 0 then 0 else 1) i), nI i, M)) (a 0 0) (some (nI (zz_S (fun i => if a 3 i = 0 then 0 else 1) (a 0 0)), nI (a 0 0), M)) ?_ ?_ 5000 (by omega)
  · unfold f_X5_withChosen
    dsimp only [zz_S] at key
    rw [nI_0] at key
    rw [key, zb3]
  · intro n i hi
    dsimp only
    rw [f_X5_withChosen_4, r_n0 h, if_neg (nI_ge hi (by omega)), zz_S]
    simp only [pn_1]
    have e := pv_chb hw hi
    rw [if_pos (pn_in (by omega) (by omega)), nI_clamp (by omega), r_cho h hi]
    simp only [pn_neg (show a 3 i < 2 ^ 30 by omega)]
    by_cases q : a 3 i = 0
    · rw [if_pos q, if_pos q, Int32.add_zero]
      rfl
    · rw [if_neg q, if_neg q]
  · intro n
    dsimp only
    rw [f_X5_withChosen_4, r_n0 h, if_pos (Int32.le_refl _)]
