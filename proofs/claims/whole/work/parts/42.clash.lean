/-! CLASHES: what both say -/
def pa_ah (a : pv_A) (s o : Nat) : Bool := decide (a 1 s < a 1 o) || (decide (a 1 s = a 1 o) && decide (a 2 s < a 2 o))
def pa_brk (a : pv_A) (t days v w : Nat) : Bool := if a 4 t = 1 then decide (v < w) else if a 4 t = 2 then decide (w < v) else !decide (w = v - a 5 t * days)
def pa_q (a : pv_A) (t s v o w : Nat) : Bool :=
  if s = o then false else if v = 0 then false else if w = 0 then false else if a 4 t = 0 then (decide (a 1 s = a 1 o) && !decide (v = w))
  else if pa_ah a s o = true then pa_brk a t (a 1 o - a 1 s) (v - 1) (w - 1) else if pa_ah a o s = true then pa_brk a t (a 1 s - a 1 o) (w - 1) (v - 1) else false
def pa_cl (a : pv_A) (k j t : Nat) : Bool := pa_q a t (a 7 k) (a 9 (6 * k + t)) (a 7 j) (a 9 (6 * j + t))
def pa_no (a : pv_A) (k j : Nat) : Nat := zz_S (fun t => if pa_cl a k j t = true then a 6 t else 0) (a 0 1)
theorem pa_ah_day {a : pv_A} {s o : Nat} (h : pa_ah a s o = true) : a 1 s ≤ a 1 o := by
  simp only [pa_ah, Bool.or_eq_true, Bool.and_eq_true, decide_eq_true_eq] at h
  omega
theorem pa_ah_not {a : pv_A} {s o : Nat} (h : pa_ah a s o = true) : pa_ah a o s = false := by
  simp only [pa_ah, Bool.or_eq_true, Bool.and_eq_true, decide_eq_true_eq] at h
  simp only [pa_ah, Bool.or_eq_false_iff, Bool.and_eq_false_iff, decide_eq_false_iff_not]
  omega
theorem pa_q_sym (a : pv_A) (t s v o w : Nat) : pa_q a t s v o w = pa_q a t o w s v := by
  unfold pa_q
  by_cases h1 : s = o
  · subst h1; simp
  · have h1' : ¬ o = s := fun e => h1 e.symm
    by_cases h2 : v = 0
    · simp [h1, h1', h2]
    · by_cases h3 : w = 0
      · simp [h1, h1', h2, h3]
      · simp only [h1, h1', h2, h3, if_false]
        by_cases h4 : a 4 t = 0
        · have e1 : decide (a 1 s = a 1 o) = decide (a 1 o = a 1 s) := decide_eq_decide.mpr eq_comm
          have e2 : decide (v = w) = decide (w = v) := decide_eq_decide.mpr eq_comm
          simp only [h4, if_true]
          rw [e1, e2]
        · simp only [h4, if_false]
          cases h5 : pa_ah a s o with
          | true => simp [pa_ah_not h5]
          | false =>
            cases h6 : pa_ah a o s with
            | true => simp
            | false => simp
theorem pa_cl_sym (a : pv_A) (k j t : Nat) : pa_cl a k j t = pa_cl a j k t := pa_q_sym a t _ _ _ _
theorem pa_no_sym (a : pv_A) (k j : Nat) : pa_no a k j = pa_no a j k := by
  unfold pa_no
  exact zz_S_congr (fun t _ => by rw [pa_cl_sym])
theorem pa_cl_self (a : pv_A) (k j t : Nat) (h : a 7 k = a 7 j) : pa_cl a k j t = false := by
  unfold pa_cl pa_q
  rw [if_pos h]
theorem pa_no_le {a : pv_A} (hw : pv_W a) (k j : Nat) : pa_no a k j ≤ 54 := by
  have h := zz_S_le (g := fun t => if pa_cl a k j t = true then a 6 t else 0) (c := 9) (n := a 0 1) (fun t ht => by
    have := hw.2.2.1 t ht
    split <;> omega)
  have := hw.1
  unfold pa_no
  omega
theorem pn_ix (k t : Nat) : (nI k * 6) + nI t = nI (6 * k + t) := by
  rw [show (6 : Int32) = nI 6 from rfl, pk_mul, nI_add, Nat.mul_comm]
theorem pn_ix' (k t : Nat) : (6 * nI k) + nI t = nI (6 * k + t) := by
  rw [show (6 : Int32) = nI 6 from rfl, pk_mul, nI_add]
theorem c_meas {M : zz_Mem} {a : pv_A} (h : pv_St (pv_cn M) a) (hw : pv_W a) {k t : Nat} (hk : k < a 0 2) (ht : t < 6) : f_X3_measureOf (nI k) (nI t) M = some (nI (a 9 (6 * k + t)) - 1, M) := by
  have hb := hw.1
  unfold f_X3_measureOf
  rw [pn_ix, if_pos (pn_in (by omega) (by omega)), nI_clamp (by omega), c_mea h (by omega)]
theorem c_order {M : zz_Mem} {a : pv_A} (h : pv_St (pv_cn M) a) (hw : pv_W a) {s o : Nat} (hs : s < a 0 0) (ho : o < a 0 0) : f_X3_orderOf (nI s) (nI o) M = some (if pa_ah a s o = true then 1 else if pa_ah a o s = true then 2 else 0, M) := by
  have hb := hw.1
  have h1 := hw.2.1 s hs
  have h2 := hw.2.1 o ho
  unfold f_X3_orderOf
  rw [if_pos (pn_in (by omega) (by omega)), if_pos (pn_in (by omega) (by omega)), nI_clamp (by omega), nI_clamp (by omega), c_day h hs, c_day h ho, c_pla h hs, c_pla h ho]
  simp only [pn_sub0 (show a 1 s < 2 ^ 30 by omega) (show a 1 o < 2 ^ 30 by omega), pn_sub0 (show a 2 s < 2 ^ 30 by omega) (show a 2 o < 2 ^ 30 by omega), pn_subn (show a 1 s < 2 ^ 30 by omega) (show a 1 o < 2 ^ 30 by omega), pn_subn (show a 2 s < 2 ^ 30 by omega) (show a 2 o < 2 ^ 30 by omega)]
  by_cases d1 : a 1 s = a 1 o
  · rw [if_pos d1]
    by_cases p1 : a 2 s = a 2 o
    · rw [if_pos p1]
      simp [pa_ah, d1, p1]
    · rw [if_neg p1]
      by_cases p2 : a 2 o ≤ a 2 s
      · rw [if_pos p2]
        have : a 2 o < a 2 s := by omega
        have : ¬ a 2 s < a 2 o := by omega
        simp [pa_ah, d1, *]
      · rw [if_neg p2]
        have : a 2 s < a 2 o := by omega
        simp [pa_ah, d1, *]
  · rw [if_neg d1, if_neg d1]
    by_cases p2 : a 1 o ≤ a 1 s
    · rw [if_pos p2]
      have : a 1 o < a 1 s := by omega
      have e2 : ¬ a 1 s < a 1 o := by omega
      simp [pa_ah, d1, *]
    · rw [if_neg p2]
      have : a 1 s < a 1 o := by omega
      simp [pa_ah, *]
theorem c_heal {M : zz_Mem} {a : pv_A} (h : pv_St (pv_cn M) a) (hw : pv_W a) {t s o : Nat} (ht : t < a 0 1) (hs : s < a 0 0) (ho : o < a 0 0) (hd : a 1 s ≤ a 1 o) : f_X3_healedBetween (nI t) (nI s) (nI o) M = some (nI (a 5 t * (a 1 o - a 1 s)), M) := by
  have hb := hw.1
  unfold f_X3_healedBetween
  rw [if_pos (pn_in (by omega) (by omega)), if_pos (pn_in (by omega) (by omega)), if_pos (pn_in (by omega) (by omega)), nI_clamp (by omega), nI_clamp (by omega), nI_clamp (by omega), c_day h hs, c_day h ho, c_rat h ht, pn_subN hd, pk_mul]
theorem pn_mulb {r d : Nat} (hr : r ≤ 9) (hd : d ≤ 99) : r * d ≤ 891 := Nat.le_trans (Nat.mul_le_mul hr hd) (by decide)
theorem c_brk {M : zz_Mem} {a : pv_A} (h : pv_St (pv_cn M) a) (hw : pv_W a) {t v w d : Nat} (ht : t < a 0 1) (h0 : ¬ a 4 t = 0) (hv : v ≤ 99) (hw2 : w ≤ 99) (hd : d ≤ 99) : f_X3_breaksLaw (nI t) (nI v) (nI w) (nI (a 5 t * d)) M = some (pv_i (pa_brk a t d v w), M) := by
  have hb := hw.1
  have h1 := hw.2.2.1 t ht
  have hm := pn_mulb h1.2.1 hd
  unfold f_X3_breaksLaw pa_brk
  rw [if_pos (pn_in (by omega) (by omega)), nI_clamp (by omega), c_law h ht]
  rw [show (1 : Int32) = nI 1 from rfl, show (2 : Int32) = nI 2 from rfl, show (3 : Int32) = nI 3 from rfl]
  simp only [nI_eq (show a 4 t < 2 ^ 31 by omega) (show 1 < 2 ^ 31 by omega), nI_eq (show a 4 t < 2 ^ 31 by omega) (show 2 < 2 ^ 31 by omega), nI_eq (show a 4 t < 2 ^ 31 by omega) (show 3 < 2 ^ 31 by omega), nI_leI (show w < 2 ^ 31 by omega) (show v < 2 ^ 31 by omega), nI_leI (show v < 2 ^ 31 by omega) (show w < 2 ^ 31 by omega)]
  by_cases e1 : a 4 t = 1
  · rw [if_pos e1, if_pos e1]
    by_cases q : w ≤ v
    · rw [if_pos q, decide_eq_false (by omega)]; rfl
    · rw [if_neg q, decide_eq_true (by omega)]; rfl
  · rw [if_neg e1, if_neg e1]
    by_cases e2 : a 4 t = 2
    · rw [if_pos e2, if_pos e2]
      by_cases q : v ≤ w
      · rw [if_pos q, decide_eq_false (by omega)]; rfl
      · rw [if_neg q, decide_eq_true (by omega)]; rfl
    · rw [if_neg e2, if_neg e2, if_pos (by omega)]
      have e : (if 0 < nI v - nI (a 5 t * d) then nI v - nI (a 5 t * d) else 0) = nI (v - a 5 t * d) := by
        by_cases q : a 5 t * d ≤ v
        · rw [pn_subN q]
          by_cases z : v - a 5 t * d = 0
          · rw [z]; rfl
          · rw [if_pos (by rw [← nI_0, nI_ltI (by omega) (by omega)]; omega)]
        · have hn : nI v - nI (a 5 t * d) < 0 := pk_sneg (by omega) (by omega)
          rw [if_neg (fun z => Int32.lt_irrefl (Int32.lt_trans z hn)), show v - a 5 t * d = 0 by omega]
          rfl
      rw [e]
      simp only [nI_eq (show w < 2 ^ 31 by omega) (show v - a 5 t * d < 2 ^ 31 by omega)]
      by_cases q : w = v - a 5 t * d
      · rw [if_pos q, decide_eq_true q]; rfl
      · rw [if_neg q, decide_eq_false q]; rfl
theorem c_clash {M : zz_Mem} {a : pv_A} (h : pv_St (pv_cn M) a) (hw : pv_W a) {k j t : Nat} (hk : k < a 0 2) (hj : j < a 0 2) (ht : t < a 0 1) : f_X3_doClash (nI k) (nI j) (nI t) M = some (pv_i (pa_cl a k j t), M) := by
  have hb := hw.1
  have s1 := hw.2.2.2.1 k hk
  have s2 := hw.2.2.2.1 j hj
  have m1 := hw.2.2.2.2.1 (6 * k + t) (by omega)
  have m2 := hw.2.2.2.2.1 (6 * j + t) (by omega)
  have l1 := hw.2.2.1 t ht
  have d1 := hw.2.1 _ s1.1
  have d2 := hw.2.1 _ s2.1
  unfold f_X3_doClash
  rw [if_pos (pn_in (by omega) (by omega)), if_pos (pn_in (by omega) (by omega)), c_meas h hw hk (by omega), zb2, c_meas h hw hj (by omega), zb2, nI_clamp (show k < 2 ^ 31 by omega), nI_clamp (show j < 2 ^ 31 by omega), c_sce h hk, c_sce h hj, if_pos (show zz_in (nI t) 6 from pn_in (by omega) (by omega)), nI_clamp (show t < 2 ^ 31 by omega), c_law h ht]
  unfold pa_cl pa_q
  simp only [nI_eq (show a 7 k < 2 ^ 31 by omega) (show a 7 j < 2 ^ 31 by omega), pn_em1 (show a 9 (6 * k + t) < 2 ^ 30 by omega), pn_em1 (show a 9 (6 * j + t) < 2 ^ 30 by omega), pn_e0 (show a 4 t < 2 ^ 31 by omega)]
  by_cases q1 : a 7 k = a 7 j
  · rw [if_pos q1, if_pos q1]; rfl
  · rw [if_neg q1, if_neg q1]
    by_cases q2 : a 9 (6 * k + t) = 0
    · rw [if_pos q2, if_pos q2]; rfl
    · rw [if_neg q2, if_neg q2]
      by_cases q3 : a 9 (6 * j + t) = 0
      · rw [if_pos q3, if_pos q3]; rfl
      · rw [if_neg q3, if_neg q3]
        by_cases q4 : a 4 t = 0
        · rw [if_pos q4, if_pos q4, if_pos (pn_in (by omega) (by omega)), if_pos (pn_in (by omega) (by omega)), nI_clamp (by omega), nI_clamp (by omega), c_day h s1.1, c_day h s2.1]
          simp only [nI_eq (show a 1 (a 7 k) < 2 ^ 31 by omega) (show a 1 (a 7 j) < 2 ^ 31 by omega), pn_e1 (show a 9 (6 * k + t) < 2 ^ 30 by omega) (show a 9 (6 * j + t) < 2 ^ 30 by omega)]
          by_cases q5 : a 1 (a 7 k) = a 1 (a 7 j) <;> by_cases q6 : a 9 (6 * k + t) = a 9 (6 * j + t) <;> simp only [q5, q6, if_true, if_false, decide_true, decide_false] <;> rfl
        · rw [if_neg q4, if_neg q4, c_order h hw s1.1 s2.1, zb2]
          obtain ⟨v, ev⟩ : ∃ v, a 9 (6 * k + t) = v + 1 := ⟨a 9 (6 * k + t) - 1, by omega⟩
          obtain ⟨w, ew⟩ : ∃ w, a 9 (6 * j + t) = w + 1 := ⟨a 9 (6 * j + t) - 1, by omega⟩
          simp only [ev, ew, nI_pred, Nat.add_sub_cancel]
          cases q5 : pa_ah a (a 7 k) (a 7 j) with
          | true =>
            have hd := pa_ah_day q5
            simp only [if_true]
            rw [c_heal h hw ht s1.1 s2.1 hd, zb2, c_brk h hw ht q4 (by omega) (by omega) (by omega), zb2, if_pos (pv_i1 _)]
          | false =>
            cases q6 : pa_ah a (a 7 j) (a 7 k) with
            | true =>
              have hd := pa_ah_day q6
              simp only [if_true, Bool.false_eq_true, if_false]
              rw [if_neg (by decide), c_heal h hw ht s2.1 s1.1 hd, zb2, c_brk h hw ht q4 (by omega) (by omega) (by omega), zb2, if_pos (pv_i1 _)]
            | false => rfl
theorem c_noise {M : zz_Mem} {a : pv_A} (h : pv_St (pv_cn M) a) (hw : pv_W a) {k j : Nat} (hk : k < a 0 2) (hj : j < a 0 2) : f_X3_noiseOf (nI k) (nI j) M = some (nI (pa_no a k j), M) := by
  have hb := hw.1
  have key := zz_iter (fun n (x : Int32 × Int32 × zz_Mem) => f_X3_noiseOf_5 (nI k) (nI j) n x.1 x.2.1 x.2.2) (fun i => (nI (zz_S (fun t => if pa_cl a k j t = true then a 6 t else 0) i), nI i, M)) (a 0 1) (some (nI (pa_no a k j), nI (a 0 1), M)) ?_ ?_ 5000 (by omega)
  · unfold f_X3_noiseOf
    dsimp only [zz_S] at key
    rw [nI_0] at key
    rw [key, zb3]
  · intro n i hi
    dsimp only
    rw [f_X3_noiseOf_5, c_n1 h, if_neg (nI_ge hi (by omega)), c_clash h hw hk hj hi, zb2, pv_ift, pn_1, zz_S]
    cases pa_cl a k j i with
    | true =>
      simp only [if_true]
      rw [if_pos (pn_in (by omega) (by omega)), nI_clamp (by omega), c_lou h hi, nI_add]
    | false =>
      simp only [Bool.false_eq_true, if_false]
      rfl
  · intro n
    dsimp only
    rw [f_X3_noiseOf_5, c_n1 h, if_pos (Int32.le_refl _)]
    rfl
/-! the reference -/
theorem r_ahead {M : zz_Mem} {a : pv_A} (h : pv_St (pv_rn M) a) (hw : pv_W a) {s o : Nat} (hs : s < a 0 0) (ho : o < a 0 0) : f_X5_isAhead (nI s) (nI o) M = some (pv_i (pa_ah a s o), M) := by
  have hb := hw.1
  have h1 := hw.2.1 s hs
  have h2 := hw.2.1 o ho
  unfold f_X5_isAhead pa_ah
  rw [if_pos (pn_in (by omega) (by omega)), if_pos (pn_in (by omega) (by omega)), nI_clamp (by omega), nI_clamp (by omega), r_day h hs, r_day h ho, r_pla h hs, r_pla h ho]
  simp only [nI_ltI (show a 1 s < 2 ^ 31 by omega) (show a 1 o < 2 ^ 31 by omega), nI_eq (show a 1 s < 2 ^ 31 by omega) (show a 1 o < 2 ^ 31 by omega), nI_leI (show a 2 o < 2 ^ 31 by omega) (show a 2 s < 2 ^ 31 by omega)]
  by_cases d1 : a 1 s < a 1 o
  · rw [if_pos d1, decide_eq_true d1]; rfl
  · rw [if_neg d1, decide_eq_false d1]
    by_cases d2 : a 1 s = a 1 o
    · rw [if_pos d2, decide_eq_true d2]
      by_cases d3 : a 2 o ≤ a 2 s
      · rw [if_pos d3, decide_eq_false (by omega)]; rfl
      · rw [if_neg d3, decide_eq_true (by omega)]; rfl
    · rw [if_neg d2, decide_eq_false d2]; rfl
theorem r_brk {M : zz_Mem} {a : pv_A} (h : pv_St (pv_rn M) a) (hw : pv_W a) {t v w d : Nat} (ht : t < a 0 1) (hv : v ≤ 99) (hw2 : w ≤ 99) (hd : d ≤ 99) : f_X5_breaks (nI t) (nI d) (nI v) (nI w) M = some (pv_i (pa_brk a t d v w), M) := by
  have hb := hw.1
  have h1 := hw.2.2.1 t ht
  have hm := pn_mulb h1.2.1 hd
  unfold f_X5_breaks pa_brk
  rw [if_pos (pn_in (by omega) (by omega)), nI_clamp (by omega), r_law h ht, r_rat h ht, pk_mul]
  rw [show (1 : Int32) = nI 1 from rfl, show (2 : Int32) = nI 2 from rfl]
  simp only [nI_eq (show a 4 t < 2 ^ 31 by omega) (show 1 < 2 ^ 31 by omega), nI_eq (show a 4 t < 2 ^ 31 by omega) (show 2 < 2 ^ 31 by omega), nI_leI (show w < 2 ^ 31 by omega) (show v < 2 ^ 31 by omega), nI_leI (show v < 2 ^ 31 by omega) (show w < 2 ^ 31 by omega), pn_subn (show v < 2 ^ 30 by omega) (show a 5 t * d < 2 ^ 30 by omega)]
  by_cases e1 : a 4 t = 1
  · rw [if_pos e1, if_pos e1]
    by_cases q : w ≤ v
    · rw [if_pos q, decide_eq_false (by omega)]; rfl
    · rw [if_neg q, decide_eq_true (by omega)]; rfl
  · rw [if_neg e1, if_neg e1]
    by_cases e2 : a 4 t = 2
    · rw [if_pos e2, if_pos e2]
      by_cases q : v ≤ w
      · rw [if_pos q, decide_eq_false (by omega)]; rfl
      · rw [if_neg q, decide_eq_true (by omega)]; rfl
    · rw [if_neg e2, if_neg e2]
      by_cases q : a 5 t * d ≤ v
      · rw [if_pos q, pn_subN q]
        simp only [nI_eq (show w < 2 ^ 31 by omega) (show v - a 5 t * d < 2 ^ 31 by omega)]
        by_cases z : w = v - a 5 t * d
        · rw [if_pos z, decide_eq_true z]; rfl
        · rw [if_neg z, decide_eq_false z]; rfl
      · rw [if_neg q, show v - a 5 t * d = 0 by omega]
        simp only [pn_e0 (show w < 2 ^ 31 by omega)]
        by_cases z : w = 0
        · rw [if_pos z, decide_eq_true z]; rfl
        · rw [if_neg z, decide_eq_false z]; rfl
theorem r_quar {M : zz_Mem} {a : pv_A} (h : pv_St (pv_rn M) a) (hw : pv_W a) {t s v o w : Nat} (ht : t < a 0 1) (hs : s < a 0 0) (ho : o < a 0 0) (hv : v ≤ 100) (hw2 : w ≤ 100) : f_X5_quarrels (nI t) (nI s) (nI v - 1) (nI o) (nI w - 1) M = some (pv_i (pa_q a t s v o w), M) := by
  have hb := hw.1
  have l1 := hw.2.2.1 t ht
  have d1 := hw.2.1 _ hs
  have d2 := hw.2.1 _ ho
  unfold f_X5_quarrels pa_q
  rw [if_pos (show zz_in (nI t) 6 from pn_in (by omega) (by omega)), nI_clamp (show t < 2 ^ 31 by omega), r_law h ht]
  simp only [nI_eq (show s < 2 ^ 31 by omega) (show o < 2 ^ 31 by omega), pn_neg (show v < 2 ^ 30 by omega), pn_nn (show w < 2 ^ 30 by omega), pn_e0 (show a 4 t < 2 ^ 31 by omega)]
  by_cases q1 : s = o
  · rw [if_pos q1, if_pos q1]; rfl
  · rw [if_neg q1, if_neg q1]
    by_cases q2 : v = 0
    · rw [if_pos q2, if_pos q2]; rfl
    · rw [if_neg q2, if_neg q2]
      by_cases q3 : w = 0
      · rw [if_neg (by simp [q3]), if_pos q3]; rfl
      · rw [if_pos q3, if_neg q3]
        by_cases q4 : a 4 t = 0
        · rw [if_pos q4, if_pos q4, if_pos (pn_in (by omega) (by omega)), if_pos (pn_in (by omega) (by omega)), nI_clamp (by omega), nI_clamp (by omega), r_day h hs, r_day h ho]
          simp only [nI_eq (show a 1 s < 2 ^ 31 by omega) (show a 1 o < 2 ^ 31 by omega), pn_e1 (show v < 2 ^ 30 by omega) (show w < 2 ^ 30 by omega)]
          by_cases q5 : a 1 s = a 1 o <;> by_cases q6 : v = w <;> simp only [q5, q6, if_true, if_false, decide_true, decide_false] <;> rfl
        · rw [if_neg q4, if_neg q4, r_ahead h hw hs ho, zb2, pv_ift, r_ahead h hw ho hs, zb2, pv_ift]
          obtain ⟨v, rfl⟩ : ∃ x, v = x + 1 := ⟨v - 1, by omega⟩
          obtain ⟨w, rfl⟩ : ∃ x, w = x + 1 := ⟨w - 1, by omega⟩
          simp only [nI_pred, Nat.add_sub_cancel]
          rw [if_pos (show zz_in (nI o) 6 from pn_in (by omega) (by omega)), if_pos (show zz_in (nI s) 6 from pn_in (by omega) (by omega)), if_pos (show zz_in (nI s) 6 from pn_in (by omega) (by omega)), if_pos (show zz_in (nI o) 6 from pn_in (by omega) (by omega)), nI_clamp (show s < 2 ^ 31 by omega), nI_clamp (show o < 2 ^ 31 by omega), r_day h hs, r_day h ho]
          cases q5 : pa_ah a s o with
          | true =>
            have hd := pa_ah_day q5
            simp only [if_true]
            rw [pn_subN hd, r_brk h hw ht (by omega) (by omega) (by omega), zb2, if_pos (pv_i1 _)]
          | false =>
            simp only [Bool.false_eq_true, if_false]
            cases q6 : pa_ah a o s with
            | true =>
              have hd := pa_ah_day q6
              simp only [if_true]
              rw [pn_subN hd, r_brk h hw ht (by omega) (by omega) (by omega), zb2, pv_ift]
              cases pa_brk a t (a 1 s - a 1 o) w v <;> rfl
            | false => rfl
theorem r_clash {M : zz_Mem} {a : pv_A} (h : pv_St (pv_rn M) a) (hw : pv_W a) {k j t : Nat} (hk : k < a 0 2) (hj : j < a 0 2) (ht : t < a 0 1) : f_X5_doClash (nI k) (nI j) (nI t) M = some (pv_i (pa_cl a k j t), M) := by
  have hb := hw.1
  have s1 := hw.2.2.2.1 k hk
  have s2 := hw.2.2.2.1 j hj
  have m1 := hw.2.2.2.2.1 (6 * k + t) (by omega)
  have m2 := hw.2.2.2.2.1 (6 * j + t) (by omega)
  unfold f_X5_doClash
  rw [pn_ix', pn_ix', if_pos (pn_in (by omega) (by omega)), if_pos (pn_in (by omega) (by omega)), if_pos (pn_in (by omega) (by omega)), if_pos (pn_in (by omega) (by omega)), nI_clamp (show k < 2 ^ 31 by omega), nI_clamp (show j < 2 ^ 31 by omega), nI_clamp (show 6 * k + t < 2 ^ 31 by omega), nI_clamp (show 6 * j + t < 2 ^ 31 by omega), r_sce h hk, r_sce h hj, r_mea h (by omega), r_mea h (by omega), r_quar h hw ht s1.1 s2.1 m1 m2, zb2, if_pos (pv_i1 _)]
  rfl
theorem r_noise {M : zz_Mem} {a : pv_A} (h : pv_St (pv_rn M) a) (hw : pv_W a) {k j : Nat} (hk : k < a 0 2) (hj : j < a 0 2) : f_X5_noiseOf (nI k) (nI j) M = some (nI (pa_no a k j), M) := by
  have hb := hw.1
  have key := zz_iter (fun n (x : Int32 × Int32 × zz_Mem) => f_X5_noiseOf_5 (nI k) (nI j) n x.1 x.2.1 x.2.2) (fun i => (nI (zz_S (fun t => if pa_cl a k j t = true then a 6 t else 0) i), nI i, M)) (a 0 1) (some (nI (pa_no a k j), nI (a 0 1), M)) ?_ ?_ 5000 (by omega)
  · unfold f_X5_noiseOf
    dsimp only [zz_S] at key
    rw [nI_0] at key
    rw [key, zb3]
  · intro n i hi
    dsimp only
    rw [f_X5_noiseOf_5, r_n1 h, if_neg (nI_ge hi (by omega)), r_clash h hw hk hj hi, zb2, pv_ift, pn_1, zz_S]
    cases pa_cl a k j i with
    | true =>
      simp only [if_true]
      rw [if_pos (pn_in (by omega) (by omega)), nI_clamp (by omega), r_lou h hi, nI_add]
    | false =>
      simp only [Bool.false_eq_true, if_false]
      rw [Int32.add_zero]
      rfl
  · intro n
    dsimp only
    rw [f_X5_noiseOf_5, r_n1 h, if_pos (Int32.le_refl _)]
    rfl
