/-! pairs, clashes, what the chosen takes cost, how many -/
theorem c_pairIn {M : zz_Mem} {a : pv_A} (h : pv_St (pv_cn M) a) (hw : pv_W a) {s : Nat} (hs : s < a 0 2) (v : Nat) : f_X3_countNoisyPairs_14 (nI s) 5000 (nI v) 0 M = some (nI (v + zz_S (fun j => if pa_no a s j = 0 then 0 else 1) s), nI s, M) := by
  have hb := hw.1
  have key := zz_iter (fun n (x : Int32 × Int32 × zz_Mem) => f_X3_countNoisyPairs_14 (nI s) n x.1 x.2.1 x.2.2) (fun i => (nI (v + zz_S (fun j => if pa_no a s j = 0 then 0 else 1) i), nI i, M)) s (some (nI (v + zz_S (fun j => if pa_no a s j = 0 then 0 else 1) s), nI s, M)) ?_ ?_ 5000 (by omega)
  · exact key
  · intro n i hi
    dsimp only
    have hn := pa_no_le hw s i
    rw [f_X3_countNoisyPairs_14, if_neg (nI_ge hi (by omega)), c_noise h hw hs (by omega), zb2, zz_S]
    simp only [pn_1]
    by_cases q : pa_no a s i = 0
    · rw [if_pos (by rw [q]; decide), if_pos q]
      rfl
    · rw [if_neg (nI_nle (by omega) (by omega)), if_neg q, Nat.add_assoc]
  · intro n
    dsimp only
    rw [f_X3_countNoisyPairs_14, if_pos (Int32.le_refl _)]
theorem c_pairs {M : zz_Mem} {a : pv_A} (h : pv_St (pv_cn M) a) (hw : pv_W a) : f_X3_countNoisyPairs M = some (nI (zz_S (fun i => zz_S (fun j => if pa_no a i j = 0 then 0 else 1) i) (a 0 2)), M) := by
  have hb := hw.1
  have key := zz_iter (fun n (x : Int32 × Int32 × zz_Mem) => f_X3_countNoisyPairs_4 n x.1 x.2.1 x.2.2) (fun i => (nI (zz_S (fun i => zz_S (fun j => if pa_no a i j = 0 then 0 else 1) i) i), nI i, M)) (a 0 2) (some (nI (zz_S (fun i => zz_S (fun j => if pa_no a i j = 0 then 0 else 1) i) (a 0 2)), nI (a 0 2), M)) ?_ ?_ 5000 (by omega)
  · unfold f_X3_countNoisyPairs
    dsimp only [zz_S] at key
    rw [nI_0] at key
    rw [key, zb3]
  · intro n i hi
    dsimp only
    rw [f_X3_countNoisyPairs_4, c_n2 h, if_neg (nI_ge hi (by omega)), c_pairIn h hw hi, zb3, pn_1]
    rfl
  · intro n
    dsimp only
    rw [f_X3_countNoisyPairs_4, c_n2 h, if_pos (Int32.le_refl _)]
theorem r_pairIn {M : zz_Mem} {a : pv_A} (h : pv_St (pv_rn M) a) (hw : pv_W a) {s : Nat} (hs : s < a 0 2) (v : Nat) : f_X5_pairs_14 (nI s) 5000 (nI v) 0 M = some (nI (v + zz_S (fun j => if pa_no a s j = 0 then 0 else 1) s), nI s, M) := by
  have hb := hw.1
  have key := zz_iter (fun n (x : Int32 × Int32 × zz_Mem) => f_X5_pairs_14 (nI s) n x.1 x.2.1 x.2.2) (fun i => (nI (v + zz_S (fun j => if pa_no a s j = 0 then 0 else 1) i), nI i, M)) s (some (nI (v + zz_S (fun j => if pa_no a s j = 0 then 0 else 1) s), nI s, M)) ?_ ?_ 5000 (by omega)
  · exact key
  · intro n i hi
    dsimp only
    have hn := pa_no_le hw s i
    rw [f_X5_pairs_14, if_neg (nI_ge hi (by omega)), r_noise h hw hs (by omega), zb2, zz_S]
    simp only [pn_1, Int32.add_zero]
    by_cases q : pa_no a s i = 0
    · rw [if_pos (by rw [q]; decide), if_pos q]
      rfl
    · rw [if_neg (nI_nle (by omega) (by omega)), if_neg q, Nat.add_assoc]
  · intro n
    dsimp only
    rw [f_X5_pairs_14, if_pos (Int32.le_refl _)]
theorem r_pairs {M : zz_Mem} {a : pv_A} (h : pv_St (pv_rn M) a) (hw : pv_W a) : f_X5_pairs M = some (nI (zz_S (fun i => zz_S (fun j => if pa_no a i j = 0 then 0 else 1) i) (a 0 2)), M) := by
  have hb := hw.1
  have key := zz_iter (fun n (x : Int32 × Int32 × zz_Mem) => f_X5_pairs_4 n x.1 x.2.1 x.2.2) (fun i => (nI (zz_S (fun i => zz_S (fun j => if pa_no a i j = 0 then 0 else 1) i) i), nI i, M)) (a 0 2) (some (nI (zz_S (fun i => zz_S (fun j => if pa_no a i j = 0 then 0 else 1) i) (a 0 2)), nI (a 0 2), M)) ?_ ?_ 5000 (by omega)
  · unfold f_X5_pairs
    dsimp only [zz_S] at key
    rw [nI_0] at key
    rw [key, zb3]
  · intro n i hi
    dsimp only
    rw [f_X5_pairs_4, r_n2 h, if_neg (nI_ge hi (by omega)), r_pairIn h hw hi, zb3, pn_1]
    rfl
  · intro n
    dsimp only
    rw [f_X5_pairs_4, r_n2 h, if_pos (Int32.le_refl _)]
theorem st_many : zz_Step_many pv_Rel := by
  intro MC MR hR x
  obtain ⟨⟨a, hw, hc, hx, hr⟩, hk⟩ := id hR
  unfold f_X4_many f_X5_many
  simp only [c_n0 hc, c_n1 hc, c_n2 hc, r_n0 hr, r_n1 hr, r_n2 hr, c_withCh hc hw, r_withCh hr hw, c_pairs hc hw, r_pairs hr hw, zb2]
  by_cases x0 : x = 0
  · simp only [if_pos x0]; exact ⟨_, MC, MR, rfl, rfl, hR⟩
  · simp only [if_neg x0]
    by_cases x1 : x = 1
    · simp only [if_pos x1]; exact ⟨_, MC, MR, rfl, rfl, hR⟩
    · simp only [if_neg x1]
      by_cases x2 : x = 2
      · simp only [if_pos x2]; exact ⟨_, MC, MR, rfl, rfl, hR⟩
      · simp only [if_neg x2]
        by_cases x3 : x = 3
        · simp only [if_pos x3]; exact ⟨_, MC, MR, rfl, rfl, hR⟩
        · simp only [if_neg x3]
          by_cases x4 : x = 4
          · simp only [if_pos x4]; exact ⟨_, MC, MR, rfl, rfl, hR⟩
          · simp only [if_neg x4]; exact ⟨_, MC, MR, rfl, rfl, hR⟩
def pa_cc (a : pv_A) (t s : Nat) : Nat → Nat := fun o => if a 3 s = 0 then 0 else if a 3 o = 0 then 0 else if pa_cl a (a 3 s - 1) (a 3 o - 1) t = true then 1 else 0
theorem c_ccIn {M : zz_Mem} {a : pv_A} (h : pv_St (pv_cn M) a) (hw : pv_W a) {t s : Nat} (ht : t < a 0 1) (hs : s < a 0 0) (v : Nat) : f_X3_countChosenClashesBy_15 (nI t) (nI s) 5000 (nI v) 0 M = some (nI (v + zz_S (pa_cc a t s) s), nI s, M) := by
  have hb := hw.1
  have e1 := pv_ch hw hs
  have key := zz_iter (fun n (x : Int32 × Int32 × zz_Mem) => f_X3_countChosenClashesBy_15 (nI t) (nI s) n x.1 x.2.1 x.2.2) (fun i => (nI (v + zz_S (pa_cc a t s) i), nI i, M)) s (some (nI (v + zz_S (pa_cc a t s) s), nI s, M)) ?_ ?_ 5000 (by omega)
  · exact key
  · intro n i hi
    dsimp only
    have e2 := pv_ch hw (show i < a 0 0 by omega)
    rw [f_X3_countChosenClashesBy_15, if_neg (nI_ge hi (by omega)), c_both h hw hs (by omega), zb2, pv_ift, zz_S, if_pos (show zz_in (nI s) 6 from pn_in (by omega) (by omega)), if_pos (show zz_in (nI i) 6 from pn_in (by omega) (by omega)), nI_clamp (by omega), nI_clamp (by omega), c_cho h hs, c_cho h (show i < a 0 0 by omega)]
    simp only [pn_1]
    unfold pa_cc
    by_cases q1 : a 3 s = 0
    · simp only [q1, decide_true, if_true]; rfl
    · by_cases q2 : a 3 i = 0
      · simp only [q1, q2, decide_true, decide_false, if_true, if_false]; rfl
      · obtain ⟨x, ex⟩ : ∃ x, a 3 s = x + 1 := ⟨a 3 s - 1, by omega⟩
        obtain ⟨y, ey⟩ : ∃ y, a 3 i = y + 1 := ⟨a 3 i - 1, by omega⟩
        simp only [ex, ey, nI_pred, Nat.add_sub_cancel]
        rw [c_clash h hw (by omega) (by omega) ht, zb2, pv_ift]
        cases pa_cl a x y t with
        | true => simp [Nat.add_assoc]
        | false => simp
  · intro n
    dsimp only
    rw [f_X3_countChosenClashesBy_15, if_pos (Int32.le_refl _)]
theorem c_cc {M : zz_Mem} {a : pv_A} (h : pv_St (pv_cn M) a) (hw : pv_W a) {t : Nat} (ht : t < a 0 1) : f_X3_countChosenClashesBy (nI t) M = some (nI (zz_S (fun s => zz_S (pa_cc a t s) s) (a 0 0)), M) := by
  have hb := hw.1
  have key := zz_iter (fun n (x : Int32 × Int32 × zz_Mem) => f_X3_countChosenClashesBy_4 (nI t) n x.1 x.2.1 x.2.2) (fun i => (nI (zz_S (fun s => zz_S (pa_cc a t s) s) i), nI i, M)) (a 0 0) (some (nI (zz_S (fun s => zz_S (pa_cc a t s) s) (a 0 0)), nI (a 0 0), M)) ?_ ?_ 5000 (by omega)
  · unfold f_X3_countChosenClashesBy
    dsimp only [zz_S] at key
    rw [nI_0] at key
    rw [key, zb3]
  · intro n i hi
    dsimp only
    rw [f_X3_countChosenClashesBy_4, c_n0 h, if_neg (nI_ge hi (by omega)), c_ccIn h hw ht hi, zb3, pn_1]
    rfl
  · intro n
    dsimp only
    rw [f_X3_countChosenClashesBy_4, c_n0 h, if_pos (Int32.le_refl _)]
theorem r_ccIn {M : zz_Mem} {a : pv_A} (h : pv_St (pv_rn M) a) (hw : pv_W a) {t s : Nat} (ht : t < a 0 1) (hs : s < a 0 0) (v : Nat) : f_X5_clashes_25 (nI t) (nI s) 5000 (nI v) 0 M = some (nI (v + zz_S (pa_cc a t s) s), nI s, M) := by
  have hb := hw.1
  have e1 := pv_ch hw hs
  have key := zz_iter (fun n (x : Int32 × Int32 × zz_Mem) => f_X5_clashes_25 (nI t) (nI s) n x.1 x.2.1 x.2.2) (fun i => (nI (v + zz_S (pa_cc a t s) i), nI i, M)) s (some (nI (v + zz_S (pa_cc a t s) s), nI s, M)) ?_ ?_ 5000 (by omega)
  · exact key
  · intro n i hi
    dsimp only
    have e2 := pv_ch hw (show i < a 0 0 by omega)
    rw [f_X5_clashes_25, if_neg (nI_ge hi (by omega)), zz_S, if_pos (show zz_in (nI s) 6 from pn_in (by omega) (by omega)), if_pos (show zz_in (nI i) 6 from pn_in (by omega) (by omega)), nI_clamp (by omega), nI_clamp (by omega), r_cho h hs, r_cho h (show i < a 0 0 by omega)]
    simp only [pn_1, Int32.add_zero, pn_neg (show a 3 s < 2 ^ 30 by omega), pn_neg (show a 3 i < 2 ^ 30 by omega)]
    unfold pa_cc
    by_cases q1 : a 3 s = 0
    · simp only [q1, if_true]; rfl
    · by_cases q2 : a 3 i = 0
      · simp only [q1, q2, if_true, if_false]; rfl
      · obtain ⟨x, ex⟩ : ∃ x, a 3 s = x + 1 := ⟨a 3 s - 1, by omega⟩
        obtain ⟨y, ey⟩ : ∃ y, a 3 i = y + 1 := ⟨a 3 i - 1, by omega⟩
        simp only [ex, ey, nI_pred, Nat.add_sub_cancel]
        rw [r_clash h hw (by omega) (by omega) ht, zb2, pv_ift]
        cases pa_cl a x y t with
        | true => simp [Nat.add_assoc]
        | false => simp
  · intro n
    dsimp only
    rw [f_X5_clashes_25, if_pos (Int32.le_refl _)]
theorem st_clashes : zz_Step_clashes pv_Rel := by
  intro MC MR hR x
  obtain ⟨⟨a, hw, hc, hx, hr⟩, hk⟩ := id hR
  have hb := hw.1
  unfold f_X4_clashes f_X5_clashes
  simp only [c_isT hc, r_isT hr hw, zb2, pv_ift]
  cases h1 : pv_ok x (a 0 1) with
  | false => exact ⟨-1, MC, MR, rfl, rfl, hR⟩
  | true =>
    obtain ⟨t, ht, rfl⟩ := pv_ok_of (by omega) h1
    have key := zz_iter (fun n (x : Int32 × Int32 × zz_Mem) => f_X5_clashes_14 (nI t) n x.1 x.2.1 x.2.2) (fun i => (nI (zz_S (fun s => zz_S (pa_cc a t s) s) i), nI i, MR)) (a 0 0) (some (nI (zz_S (fun s => zz_S (pa_cc a t s) s) (a 0 0)), nI (a 0 0), MR)) ?_ ?_ 5000 (by omega)
    · dsimp only [zz_S] at key
      rw [nI_0] at key
      simp only [if_true, c_cc hc hw ht, key, zb2, zb3]
      exact ⟨_, MC, MR, rfl, rfl, hR⟩
    · intro n i hi
      dsimp only
      rw [f_X5_clashes_14, r_n0 hr, if_neg (nI_ge hi (by omega)), r_ccIn hr hw ht hi, zb3, pn_1]
      rfl
    · intro n
      dsimp only
      rw [f_X5_clashes_14, r_n0 hr, if_pos (Int32.le_refl _)]
