/-! the class's rows of DOUBLES -/
theorem c_lh {M : zz_Mem} {hi : Nat → Nat} {n : Nat} (hn : n < 64) (hh : ∀ s, s < 6 → n.testBit s = true → M 28 s = nI (hi s) ∧ hi s ≤ 99) : f_X2_leastHighOf (nI n) M = some (nI (pe_lh 99 hi n 6), M) := by
  have key := zz_iter (fun k (x : Int32 × Int32 × zz_Mem) => f_X2_leastHighOf_5 (nI n) k x.1 x.2.1 x.2.2) (fun i => (nI (pe_lh 99 hi n i), nI i, M)) 6 (some (nI (pe_lh 99 hi n 6), nI 6, M)) ?_ ?_ 5000 (by omega)
  · unfold f_X2_leastHighOf
    dsimp only at key
    rw [nI_0] at key
    have e : nI (pe_lh 99 hi n 0) = 99 := rfl
    rw [e] at key
    rw [key, zb3]
  · intro k i hi6
    dsimp only
    have hle := pe_lh_le (base := 99) (hi := hi) (n := n) i
    rw [f_X2_leastHighOf_5, if_neg (show ¬ (6 : Int32) ≤ nI i from nI_ge (b := 6) hi6 (by omega)), c_isIn M hn hi6, zb2, pv_ift, pn_1, pe_lh]
    by_cases q : n.testBit i = true
    · obtain ⟨e1, e2⟩ := hh i hi6 q
      rw [if_pos q, if_pos q, if_pos (pn_in hi6 (by omega)), nI_clamp (by omega), e1]
      simp only [nI_ltI (show hi i < 2 ^ 31 by omega) (show pe_lh 99 hi n i < 2 ^ 31 by omega)]
      by_cases z : hi i < pe_lh 99 hi n i
      · rw [if_pos z, Nat.min_eq_right (by omega)]
      · rw [if_neg z, Nat.min_eq_left (by omega)]
    · rw [if_neg q, if_neg q]
  · intro k
    dsimp only
    rw [f_X2_leastHighOf_5, if_pos (show (6 : Int32) ≤ nI 6 by decide)]
theorem c_ws {M : zz_Mem} {lo : Nat → Nat} {n m : Nat} (hn : n < 64) (hm : m ≤ 99) (hh : ∀ s, s < 6 → n.testBit s = true → M 27 s = nI (lo s) ∧ lo s ≤ 990) : f_X2_withoutServed (nI n) (nI m) M = some (nI (pe_ws lo n m 6), M) := by
  have key := zz_iter (fun k (x : Int32 × Int32 × zz_Mem) => f_X2_withoutServed_5 (nI n) (nI m) k x.1 x.2.1 x.2.2) (fun i => (nI (pe_ws lo n m i), nI i, M)) 6 (some (nI (pe_ws lo n m 6), nI 6, M)) ?_ ?_ 5000 (by omega)
  · unfold f_X2_withoutServed
    dsimp only at key
    rw [nI_0] at key
    have e : pe_ws lo n m 0 = n := rfl
    rw [e] at key
    rw [key, zb3]
  · intro k i hi6
    dsimp only
    rw [f_X2_withoutServed_5, if_neg (show ¬ (6 : Int32) ≤ nI i from nI_ge (b := 6) hi6 (by omega)), c_isIn M hn hi6, zb2, pv_ift, pn_1, pe_ws]
    by_cases q : n.testBit i = true
    · obtain ⟨e1, e2⟩ := hh i hi6 q
      rw [if_pos q, if_pos (pn_in hi6 (by omega)), nI_clamp (by omega), e1]
      simp only [nI_ltI (show m < 2 ^ 31 by omega) (show lo i < 2 ^ 31 by omega)]
      by_cases z : m < lo i
      · rw [if_pos z, if_neg (fun w => by omega)]
      · rw [if_neg z, if_pos ⟨q, by omega⟩, pe_clrE (pe_ws_lt hn i (by omega)) hi6]
    · rw [if_neg q, if_neg (fun w => q w.1)]
  · intro k
    dsimp only
    rw [f_X2_withoutServed_5, if_pos (show (6 : Int32) ≤ nI 6 by decide)]
theorem pe_row (g : Nat → Int32) (m : Nat → Nat) (j : Nat) : upd (fun x => if x < j then nI (m x) else g x) j (nI (m j)) = fun x => if x < j + 1 then nI (m x) else g x := by
  funext x
  unfold upd
  by_cases q : x = j
  · subst q
    rw [if_pos rfl, if_pos (by omega)]
  · rw [if_neg q]
    dsimp only
    by_cases q2 : x < j
    · rw [if_pos q2, if_pos (by omega)]
    · rw [if_neg q2, if_neg (by omega)]
theorem pe_row0 (g : Nat → Int32) (m : Nat → Nat) : (fun x => if x < 0 then nI (m x) else g x) = g := by
  funext x
  rw [if_neg (by omega)]
theorem c_fill {M : zz_Mem} {lo hi : Nat → Nat} {n T : Nat} (hn : n < 64) (hl : ∀ s, s < 6 → n.testBit s = true → M 27 s = nI (lo s) ∧ lo s ≤ 990) (hh : ∀ s, s < 6 → n.testBit s = true → M 28 s = nI (hi s) ∧ hi s ≤ 99) (hg : ∀ s, s < 6 → n.testBit s = true → lo s ≤ hi s ∧ hi s ≤ 99) (hT : T ≤ 6) (h0 : pe_it lo hi n T = 0) (h1 : ∀ j, j < T → ¬ pe_it lo hi n j = 0) : f_X2_fillDoublesRow (nI n) M = some (nI T, zz_set M 29 (fun x => if x < T then nI (pe_lh 99 hi (pe_it lo hi n x) 6) else M 29 x)) := by
  have key := zz_iter (fun k (x : Int32 × Int32 × zz_Mem) => f_X2_fillDoublesRow_4 (nI n) k x.1 x.2.1 x.2.2) (fun j => (nI (pe_it lo hi n j), nI j, zz_set M 29 (fun x => if x < j then nI (pe_lh 99 hi (pe_it lo hi n x) 6) else M 29 x))) T (some (nI 0, nI T, zz_set M 29 (fun x => if x < T then nI (pe_lh 99 hi (pe_it lo hi n x) 6) else M 29 x))) ?_ ?_ 5000 (by omega)
  · unfold f_X2_fillDoublesRow
    dsimp only at key
    rw [pe_row0 (M 29) (fun x => pe_lh 99 hi (pe_it lo hi n x) 6), zz_set_id M 29 _ rfl, nI_0] at key
    have e : pe_it lo hi n 0 = n := rfl
    rw [e] at key
    rw [key, zb3]
  · intro k j hj
    dsimp only
    obtain ⟨i1, i2⟩ := pe_it_ok hn hg j
    have hle := pe_lh_le (base := 99) (hi := hi) (n := pe_it lo hi n j) 6
    have z27 : ∀ g, (zz_set M 29 g) 27 = M 27 := fun g => zz_set_ne _ _ (by omega)
    have z28 : ∀ g, (zz_set M 29 g) 28 = M 28 := fun g => zz_set_ne _ _ (by omega)
    rw [f_X2_fillDoublesRow_4, if_neg (fun z => h1 j hj (by rwa [pn_e0 (by omega)] at z)), if_neg (show ¬ (6 : Int32) ≤ nI j from nI_ge (b := 6) (by omega) (by omega)), c_lh i1 (fun s hs hb => by rw [z28]; exact hh s hs (i2 s hs hb)), zb2, if_pos (pn_in (by omega) (by omega)), nI_clamp (by omega), zz_up_set, pe_row (M 29) (fun x => pe_lh 99 hi (pe_it lo hi n x) 6) j, c_ws i1 hle (fun s hs hb => by rw [z27]; exact hl s hs (i2 s hs hb)), zb2, pn_1]
    rfl
  · intro k
    dsimp only
    rw [f_X2_fillDoublesRow_4, h0, if_pos (show nI 0 = 0 from rfl)]
theorem c_dbl1 {a : pv_A} (hw : pv_W a) {t n : Nat} (ht : t < a 0 1) (hn : n < 64) : ∀ (d i k : Nat) (M : zz_Mem), i + d = a 0 0 → d < k → pv_St (pv_cn M) a → (∀ s, s < i → n.testBit s = true → M 27 s = nI (pw_lo a t s (a 0 0)) ∧ M 28 s = nI (pw_hi a t s (a 0 0))) → (∃ M', f_X2_findDoubles_3 (nI t) (nI n) k (nI i) M = some (.inl (-4, M')) ∧ (∀ q, q ≠ 27 → q ≠ 28 → M' q = M q) ∧ ∃ s, i ≤ s ∧ s < a 0 0 ∧ n.testBit s = true ∧ ¬ pw_lo a t s (a 0 0) ≤ pw_hi a t s (a 0 0)) ∨ (∃ M', f_X2_findDoubles_3 (nI t) (nI n) k (nI i) M = some (.inr (nI (a 0 0), M')) ∧ (∀ q, q ≠ 27 → q ≠ 28 → M' q = M q) ∧ (∀ s, s < a 0 0 → n.testBit s = true → M' 27 s = nI (pw_lo a t s (a 0 0)) ∧ M' 28 s = nI (pw_hi a t s (a 0 0))) ∧ ∀ s, i ≤ s → s < a 0 0 → n.testBit s = true → pw_lo a t s (a 0 0) ≤ pw_hi a t s (a 0 0)) := by
  have hb := hw.1
  intro d
  induction d with
  | zero =>
    intro i k M h1 h2 hS hI
    obtain ⟨k, rfl⟩ : ∃ j, k = j + 1 := ⟨k - 1, by omega⟩
    have e : i = a 0 0 := by omega
    subst e
    refine Or.inr ⟨M, ?_, fun _ _ _ => rfl, hI, fun s h1 h2 => absurd h2 (by omega)⟩
    rw [f_X2_findDoubles_3, c_n0 hS, if_pos (Int32.le_refl _)]
  | succ d ih =>
    intro i k M h1 h2 hS hI
    obtain ⟨k, rfl⟩ : ∃ j, k = j + 1 := ⟨k - 1, by omega⟩
    have hi6 : i < a 0 0 := by omega
    have hlo := pw_lo_le hw ht hi6 (a 0 0) (by omega)
    have hhi := pw_hi_le a t i (a 0 0)
    rw [f_X2_findDoubles_3, c_n0 hS, if_neg (nI_ge hi6 (by omega)), c_isIn M hn (by omega), zb2, pv_ift, pn_1]
    by_cases q : n.testBit i = true
    · rw [if_pos q, c_spanF hS hw ht hi6, zb1, c_size (by omega) hlo hhi (pw_M_27 _ _ _ _) (pw_M_28 _ _ _ _), zb2]
      by_cases z : pw_lo a t i (a 0 0) ≤ pw_hi a t i (a 0 0)
      · rw [if_neg (fun w => by rw [pn_e0 (by omega)] at w; omega)]
        rcases ih (i + 1) k (pw_M M i (pw_lo a t i (a 0 0)) (pw_hi a t i (a 0 0))) (by omega) (by omega) (pw_St hS _ _ _) (fun s hs hbit => by
          by_cases e : s = i
          · subst e
            exact ⟨pw_M_27 _ _ _ _, pw_M_28 _ _ _ _⟩
          · rw [pw_M_ni _ _ _ _ e, pw_M_ni _ _ _ _ e]
            exact hI s (by omega) hbit) with ⟨M', e1, s1, s, g1, g2, g3, g4⟩ | ⟨M', e1, s1, f1, g1⟩
        · exact Or.inl ⟨M', e1, fun q h1 h2 => by rw [s1 q h1 h2, pw_M_ne _ _ _ _ h1 h2], s, by omega, g2, g3, g4⟩
        · refine Or.inr ⟨M', e1, fun q h1 h2 => by rw [s1 q h1 h2, pw_M_ne _ _ _ _ h1 h2], f1, fun s h1 h2 h3 => ?_⟩
          by_cases e : s = i
          · rw [e]; exact z
          · exact g1 s (by omega) h2 h3
      · rw [if_pos (by rw [pn_e0 (by omega)]; omega)]
        exact Or.inl ⟨_, rfl, fun q h1 h2 => pw_M_ne _ _ _ _ h1 h2, i, Nat.le_refl _, hi6, q, z⟩
    · rw [if_neg q]
      rcases ih (i + 1) k M (by omega) (by omega) hS (fun s hs hbit => by
        by_cases e : s = i
        · subst e; exact absurd hbit q
        · exact hI s (by omega) hbit) with ⟨M', e1, s1, s, g1, g2, g3, g4⟩ | ⟨M', e1, s1, f1, g1⟩
      · exact Or.inl ⟨M', e1, s1, s, by omega, g2, g3, g4⟩
      · refine Or.inr ⟨M', e1, s1, f1, fun s h1 h2 h3 => ?_⟩
        by_cases e : s = i
        · subst e; exact absurd h3 q
        · exact g1 s (by omega) h2 h3
/-! the reference's -/
theorem r_lh {M : zz_Mem} {a : pv_A} (h : pv_St (pv_rn M) a) (hw : pv_W a) {hi : Nat → Nat} {n : Nat} (hn : n < 64) (hh : ∀ s, s < 6 → n.testBit s = true → M 17 s = nI (hi s) ∧ hi s ≤ 99) (x1 x2 : Int32) : f_X5_findDoubles_84 x1 x2 (nI n) 5000 100 0 M = some (nI (pe_lh 100 hi n (a 0 0)), nI (a 0 0), M) := by
  have hb := hw.1
  have key := zz_iter (fun k (x : Int32 × Int32 × zz_Mem) => f_X5_findDoubles_84 x1 x2 (nI n) k x.1 x.2.1 x.2.2) (fun i => (nI (pe_lh 100 hi n i), nI i, M)) (a 0 0) (some (nI (pe_lh 100 hi n (a 0 0)), nI (a 0 0), M)) ?_ ?_ 5000 (by omega)
  · dsimp only at key
    rw [nI_0] at key
    exact key
  · intro k i hi6
    dsimp only
    have hle := pe_lh_le (base := 100) (hi := hi) (n := n) i
    rw [f_X5_findDoubles_84, r_n0 h, if_neg (nI_ge hi6 (by omega)), pe_bit hn (by omega), pn_1, pe_lh]
    by_cases q : n.testBit i = true
    · obtain ⟨e1, e2⟩ := hh i (by omega) q
      rw [if_pos q, if_pos q, if_pos rfl, if_pos (pn_in (by omega) (by omega)), nI_clamp (by omega), e1]
      simp only [nI_leI (show pe_lh 100 hi n i < 2 ^ 31 by omega) (show hi i < 2 ^ 31 by omega)]
      by_cases z : pe_lh 100 hi n i ≤ hi i
      · rw [if_pos z, Nat.min_eq_left z]
      · rw [if_neg z, Nat.min_eq_right (by omega)]
    · rw [if_neg q, if_neg q, if_neg (by decide)]
  · intro k
    dsimp only
    rw [f_X5_findDoubles_84, r_n0 h, if_pos (Int32.le_refl _)]
theorem r_ws {M : zz_Mem} {a : pv_A} (h : pv_St (pv_rn M) a) (hw : pv_W a) {lo : Nat → Nat} {n m : Nat} (hn : n < 64) (hm : m ≤ 99) (hh : ∀ s, s < 6 → n.testBit s = true → M 16 s = nI (lo s) ∧ lo s ≤ 990) (x1 x2 : Int32) : f_X5_findDoubles_159 x1 x2 (nI m) 5000 (nI n) 0 M = some (nI (pe_ws lo n m (a 0 0)), nI (a 0 0), M) := by
  have hb := hw.1
  have key := zz_iter (fun k (x : Int32 × Int32 × zz_Mem) => f_X5_findDoubles_159 x1 x2 (nI m) k x.1 x.2.1 x.2.2) (fun i => (nI (pe_ws lo n m i), nI i, M)) (a 0 0) (some (nI (pe_ws lo n m (a 0 0)), nI (a 0 0), M)) ?_ ?_ 5000 (by omega)
  · dsimp only at key
    rw [nI_0] at key
    exact key
  · intro k i hi6
    dsimp only
    have hlt := pe_ws_lt (lo := lo) (m := m) hn i (by omega)
    have hbit : (pe_ws lo n m i).testBit i = n.testBit i := by
      rw [pe_ws_bit hn i (by omega) i (by omega), decide_eq_false (by omega)]
      simp
    rw [f_X5_findDoubles_159, r_n0 h, if_neg (nI_ge hi6 (by omega)), pe_bit hlt (by omega), hbit, pn_1, pe_ws]
    by_cases q : n.testBit i = true
    · obtain ⟨e1, e2⟩ := hh i (by omega) q
      rw [if_pos q, if_pos rfl, if_pos (pn_in (by omega) (by omega)), nI_clamp (by omega), e1]
      simp only [nI_ltI (show m < 2 ^ 31 by omega) (show lo i < 2 ^ 31 by omega)]
      by_cases z : m < lo i
      · rw [if_pos z, if_neg (fun w => by omega)]
      · rw [if_neg z, if_pos ⟨q, by omega⟩, pe_clrE hlt (by omega)]
    · rw [if_neg q, if_neg (by decide), if_neg (fun w => q w.1)]
  · intro k
    dsimp only
    rw [f_X5_findDoubles_159, r_n0 h, if_pos (Int32.le_refl _)]
