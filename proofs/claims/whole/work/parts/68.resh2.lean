theorem r_quIn {M : zz_Mem} {a : pv_A} (h : pv_St (pv_rn M) a) (hw : pv_W a) (hn : ∀ i j, i < a 0 2 → j < a 0 2 → M 15 (16 * i + j) = nI (pa_no a i j)) {n s : Nat} (h64 : n < 64) (hs : s < a 0 0) (b : Bool) : f_X5_areQuiet_15 (nI n) (nI s) 5000 (pv_i b) 0 M = some (pv_i (ph_r1 a n s b s), nI s, M) := by
  have hb := hw.1
  have e1 := pv_ch hw hs
  have key := zz_iter (fun k (x : Int32 × Int32 × zz_Mem) => f_X5_areQuiet_15 (nI n) (nI s) k x.1 x.2.1 x.2.2) (fun i => (pv_i (ph_r1 a n s b i), nI i, M)) s (some (pv_i (ph_r1 a n s b s), nI s, M)) ?_ ?_ 5000 (by omega)
  · exact key
  · intro k i hi
    dsimp only
    have e2 := pv_ch hw (show i < a 0 0 by omega)
    have e3 := ph_twoF ⟨n, h64⟩ ⟨s, by omega⟩ ⟨i, by omega⟩
    dsimp only at e3
    rw [f_X5_areQuiet_15, if_neg (nI_ge hi (by omega)), e3, pv_ift, if_pos (show zz_in (nI s) 6 from pn_in (by omega) (by omega)), if_pos (show zz_in (nI i) 6 from pn_in (by omega) (by omega)), nI_clamp (by omega), nI_clamp (by omega), r_cho h hs, r_cho h (show i < a 0 0 by omega)]
    simp only [pn_1, pv_ift, pn_neg (show a 3 s < 2 ^ 30 by omega), pn_neg (show a 3 i < 2 ^ 30 by omega)]
    rw [ph_r1]
    unfold ph_p
    cases hbb : (n.testBit s || n.testBit i) with
    | true =>
      cases ph_r1 a n s b i <;> rfl
    | false =>
      unfold pa_prow
      by_cases q1 : a 3 s = 0
      · simp only [q1, if_true]
        cases ph_r1 a n s b i <;> rfl
      · by_cases q2 : a 3 i = 0
        · simp only [q1, q2, if_true, if_false]
          cases ph_r1 a n s b i <;> rfl
        · obtain ⟨x, ex⟩ : ∃ x, a 3 s = x + 1 := ⟨a 3 s - 1, by omega⟩
          obtain ⟨y, ey⟩ : ∃ y, a 3 i = y + 1 := ⟨a 3 i - 1, by omega⟩
          have hno := pa_no_le hw x y
          rw [if_neg q1, if_neg q2, if_neg q1, if_neg q2, ex, ey, nI_pred, nI_pred, show (16 : Int32) * nI x + nI y = nI (16 * x + y) by rw [show (16 : Int32) = nI 16 from rfl, pk_mul, nI_add], if_pos (show zz_in (nI (16 * x + y)) 256 from pn_in (by omega) (by omega)), nI_clamp (by omega), hn x y (by omega) (by omega), Nat.add_sub_cancel, Nat.add_sub_cancel]
          by_cases q3 : pa_no a x y = 0
          · rw [if_pos (show nI (pa_no a x y) = 0 by rw [q3]; rfl), decide_eq_true q3]
            cases ph_r1 a n s b i <;> rfl
          · rw [if_neg (show ¬ nI (pa_no a x y) = 0 by rw [pn_e0 (by omega)]; exact q3), decide_eq_false q3]
            cases ph_r1 a n s b i <;> rfl
  · intro k
    dsimp only
    rw [f_X5_areQuiet_15, if_pos (Int32.le_refl _)]
theorem r_quiet {M : zz_Mem} {a : pv_A} (h : pv_St (pv_rn M) a) (hw : pv_W a) (hn : ∀ i j, i < a 0 2 → j < a 0 2 → M 15 (16 * i + j) = nI (pa_no a i j)) {n : Nat} (h64 : n < 64) : f_X5_areQuiet (nI n) M = some (pv_i (ph_r2 a n (a 0 0)), M) := by
  have hb := hw.1
  have key := zz_iter (fun k (x : Int32 × Int32 × zz_Mem) => f_X5_areQuiet_4 (nI n) k x.1 x.2.1 x.2.2) (fun i => (pv_i (ph_r2 a n i), nI i, M)) (a 0 0) (some (pv_i (ph_r2 a n (a 0 0)), nI (a 0 0), M)) ?_ ?_ 5000 (by omega)
  · unfold f_X5_areQuiet
    dsimp only at key
    rw [show pv_i (ph_r2 a n 0) = 1 from rfl, nI_0] at key
    rw [key, zb3, if_pos (by cases ph_r2 a n (a 0 0) <;> decide)]
  · intro k i hi
    dsimp only
    rw [f_X5_areQuiet_4, r_n0 h, if_neg (nI_ge hi (by omega)), r_quIn h hw hn h64 hi, zb3, pn_1]
    rfl
  · intro k
    dsimp only
    rw [f_X5_areQuiet_4, r_n0 h, if_pos (Int32.le_refl _)]
theorem ph_and0 {F m : Nat} (hF : F < 64) (hm : m < 64) : (nI F &&& nI m) = 0 ↔ ∀ j, j < 6 → F.testBit j = true → m.testBit j = false := by
  have e : (nI F &&& nI m) = nI (F &&& m) := ph_andF ⟨F, hF⟩ ⟨m, hm⟩
  have hl : F &&& m < 64 := Nat.and_lt_two_pow (n := 6) F hm
  rw [e, pn_e0 (by omega)]
  constructor
  · intro h j hj hb
    have h1 : (F &&& m).testBit j = false := by rw [h]; exact Nat.zero_testBit j
    rw [Nat.testBit_and, hb] at h1
    simpa using h1
  · intro h
    refine pe_0 hl (fun s hs => ?_)
    rw [Nat.testBit_and]
    cases hb : F.testBit s with
    | false => rfl
    | true => rw [h s hs hb]; rfl
/-- the class's walk: no foe of one of them is among them -/
theorem c_peaIn {M : zz_Mem} {a : pv_A} (hw : pv_W a) (hF : ∀ s, s < a 0 0 → M 30 s = nI (ph_f (pa_prow a (a 3) s) (a 0 0))) {m : Nat} (hm : m < 2 ^ a 0 0) : ∀ (d i k : Nat), i + d = 6 → d < k → (f_X1_isPeaceful_2 (nI m) k (nI i) M = some (.inl (0, M)) ∧ ∃ s o, s < a 0 0 ∧ o < a 0 0 ∧ m.testBit s = true ∧ m.testBit o = true ∧ ¬ pa_prow a (a 3) s o = 0) ∨ (f_X1_isPeaceful_2 (nI m) k (nI i) M = some (.inr (nI 6, M)) ∧ ∀ s o, i ≤ s → s < a 0 0 → o < a 0 0 → m.testBit s = true → m.testBit o = true → pa_prow a (a 3) s o = 0) := by
  have hb := hw.1
  have h64 := pe_64 hb.1 hm
  intro d
  induction d with
  | zero =>
    intro i k h1 h2
    obtain ⟨k, rfl⟩ : ∃ j, k = j + 1 := ⟨k - 1, by omega⟩
    have e : i = 6 := by omega
    subst e
    refine Or.inr ⟨?_, fun s o h1 h2 => absurd h2 (by omega)⟩
    rw [f_X1_isPeaceful_2, if_pos (show (6 : Int32) ≤ nI 6 from Int32.le_refl _)]
  | succ d ih =>
    intro i k h1 h2
    obtain ⟨k, rfl⟩ : ∃ j, k = j + 1 := ⟨k - 1, by omega⟩
    have hi6 : i < 6 := by omega
    rw [f_X1_isPeaceful_2, if_neg (show ¬ (6 : Int32) ≤ nI i from nI_ge (b := 6) hi6 (by omega)), c_isIn M h64 hi6, zb2, pv_ift, if_pos (show zz_in (nI i) 6 from pn_in (by omega) (by omega)), nI_clamp (by omega), pn_1]
    have hrec := ih (i + 1) k (by omega) (by omega)
    by_cases q : m.testBit i = true
    · rw [if_pos q]
      have hi0 : i < a 0 0 := by
        rcases Nat.lt_or_ge i (a 0 0) with z | z
        · exact z
        · rw [pe_hi hb.1 hm hi6 z] at q
          cases q
      have hl := ph_f_lt (pa_prow a (a 3) i) (a 0 0) (by omega)
      have hz := ph_and0 (pe_64 hb.1 hl) h64
      rw [hF i hi0]
      by_cases z : (nI (ph_f (pa_prow a (a 3) i) (a 0 0)) &&& nI m) = 0
      · rw [if_pos z]
        rcases hrec with ⟨e, w⟩ | ⟨e, w⟩
        · exact Or.inl ⟨e, w⟩
        · refine Or.inr ⟨e, fun s o g1 g2 g3 g4 g5 => ?_⟩
          by_cases es : s = i
          · subst es
            by_cases e0 : pa_prow a (a 3) s o = 0
            · exact e0
            · have h3 := hz.mp z o (by omega) (by rw [ph_f_bit _ _ (by omega) o (by omega), decide_eq_true g3, decide_eq_false e0]; rfl)
              rw [h3] at g5
              cases g5
          · exact w s o (by omega) g2 g3 g4 g5
      · rw [if_neg z]
        refine Or.inl ⟨rfl, ?_⟩
        by_cases w : ∃ s o, s < a 0 0 ∧ o < a 0 0 ∧ m.testBit s = true ∧ m.testBit o = true ∧ ¬ pa_prow a (a 3) s o = 0
        · exact w
        · refine absurd (hz.mpr (fun j hj hbit => ?_)) z
          rw [ph_f_bit _ _ (by omega) j hj, Bool.and_eq_true, decide_eq_true_iff, Bool.not_eq_true', decide_eq_false_iff_not] at hbit
          cases hm2 : m.testBit j with
          | false => rfl
          | true => exact absurd ⟨i, j, hi0, hbit.1, q, hm2, hbit.2⟩ w
    · rw [if_neg q]
      rcases hrec with ⟨e, w⟩ | ⟨e, w⟩
      · exact Or.inl ⟨e, w⟩
      · refine Or.inr ⟨e, fun s o g1 g2 g3 g4 g5 => ?_⟩
        by_cases es : s = i
        · subst es
          exact absurd g4 q
        · exact w s o (by omega) g2 g3 g4 g5
theorem c_peace {M : zz_Mem} {a : pv_A} (hw : pv_W a) (hF : ∀ s, s < a 0 0 → M 30 s = nI (ph_f (pa_prow a (a 3) s) (a 0 0))) {n : Nat} (hn : n < 2 ^ a 0 0) : f_X1_isPeaceful (nI (2 ^ a 0 0 - 1) &&& (nI n ^^^ (-1))) M = some (pv_i (ph_r2 a n (a 0 0)), M) := by
  have hb := hw.1
  have h64 := pe_64 hb.1 hn
  have e1 := ph_cmF ⟨a 0 0, by omega⟩ ⟨n, h64⟩ hn
  have e2 := ph_cmB ⟨a 0 0, by omega⟩ ⟨n, h64⟩ hn
  dsimp only at e1 e2
  rw [e1]
  have bit : ∀ s, s < a 0 0 → ((2 ^ a 0 0 - 1 - n).testBit s = true ↔ n.testBit s = false) := fun s hs => by
    have := e2 ⟨s, by omega⟩
    dsimp only at this
    rw [this, decide_eq_true hs]
    cases n.testBit s <;> simp
  unfold f_X1_isPeaceful
  have K := c_peaIn hw hF (m := 2 ^ a 0 0 - 1 - n) (by omega) 6 0 5000 (by omega) (by omega)
  rw [nI_0] at K
  rcases K with ⟨e, s, o, h1, h2, h3, h4, h5⟩ | ⟨e, w⟩
  · have : ph_r2 a n (a 0 0) = false := by
      cases hq : ph_r2 a n (a 0 0) with
      | false => rfl
      | true => exact absurd ((ph_Q_iff a n).mp hq s o h1 h2 ((bit s h1).mp h3) ((bit o h2).mp h4)) h5
    rw [e, this]
    rfl
  · have : ph_r2 a n (a 0 0) = true := (ph_Q_iff a n).mpr (fun s o h1 h2 h3 h4 => w s o (by omega) h1 h2 ((bit s h1).mpr h3) ((bit o h2).mpr h4))
    rw [e, this]
    rfl
/-- both searches -/
def ph_c (a : pv_A) : Nat → Nat
  | 0 => 2 ^ a 0 0 - 1
  | i + 1 => if pe_pc i < pe_pc (ph_c a i) ∧ ph_r2 a i (a 0 0) = true then i else ph_c a i
def ph_s (a : pv_A) : Nat → Nat × Nat
  | 0 => (0, 7)
  | i + 1 => if pe_pc i < (ph_s a i).2 ∧ ph_r2 a i (a 0 0) = true then (i, pe_pc i) else ph_s a i
theorem ph_c_le (a : pv_A) : ∀ i, i ≤ 2 ^ a 0 0 - 1 → ph_c a i ≤ 2 ^ a 0 0 - 1
  | 0, _ => Nat.le_refl _
  | i + 1, h => by
    have ih := ph_c_le a i (by omega)
    rw [ph_c]
    split <;> omega
theorem ph_s_le {a : pv_A} (ha : a 0 0 ≤ 6) : ∀ i, i ≤ 2 ^ a 0 0 → (ph_s a i).1 < 64 ∧ (ph_s a i).2 ≤ 7
  | 0, _ => ⟨by rw [ph_s]; decide, by rw [ph_s]; decide⟩
  | i + 1, h => by
    have ih := ph_s_le ha i (by omega)
    have := pe_p ha
    have hp := ph_pc (show i < 64 by omega)
    rw [ph_s]
    split
    · exact ⟨by dsimp only; omega, by dsimp only; omega⟩
    · exact ih
theorem ph_same {a : pv_A} (ha : a 0 0 ≤ 6) : ∀ i, i ≤ 2 ^ a 0 0 - 1 → (ph_c a i = 2 ^ a 0 0 - 1 ∧ ph_s a i = (0, 7)) ∨ ∃ f, f < 2 ^ a 0 0 - 1 ∧ ph_c a i = f ∧ ph_s a i = (f, pe_pc f)
  | 0, _ => Or.inl ⟨rfl, rfl⟩
  | i + 1, h => by
    have hp := pe_p ha
    have h1 := ph_pc (show i < 64 by omega)
    have h2 : pe_pc i < pe_pc (2 ^ a 0 0 - 1) := ph_alF ⟨a 0 0, by omega⟩ ⟨i, by omega⟩ (by dsimp only; omega)
    rw [ph_c, ph_s]
    rcases ph_same ha i (by omega) with ⟨e1, e2⟩ | ⟨f, hf, e1, e2⟩
    · rw [e1, e2]
      by_cases q : ph_r2 a i (a 0 0) = true
      · rw [if_pos ⟨h2, q⟩, if_pos ⟨by dsimp only; omega, q⟩]
        exact Or.inr ⟨i, by omega, rfl, rfl⟩
      · rw [if_neg (fun z => q z.2), if_neg (fun z => q z.2)]
        exact Or.inl ⟨rfl, rfl⟩
    · rw [e1, e2]
      dsimp only
      by_cases q : pe_pc i < pe_pc f ∧ ph_r2 a i (a 0 0) = true
      · rw [if_pos q, if_pos q]
        exact Or.inr ⟨i, by omega, rfl, rfl⟩
      · rw [if_neg q, if_neg q]
        exact Or.inr ⟨f, hf, rfl, rfl⟩
theorem ph_pow (k : Nat) : 1 ≤ 2 ^ k := Nat.one_le_two_pow
theorem ph_last {a : pv_A} (ha : a 0 0 ≤ 6) : (ph_s a (2 ^ a 0 0)).1 = ph_c a (2 ^ a 0 0 - 1) := by
  have hp := pe_p ha
  have h1 := ph_pow (a 0 0)
  have h2 := ph_pc (show 2 ^ a 0 0 - 1 < 64 by omega)
  have e : ph_s a (2 ^ a 0 0) = ph_s a ((2 ^ a 0 0 - 1) + 1) := by rw [Nat.sub_add_cancel h1]
  have hq : ph_r2 a (2 ^ a 0 0 - 1) (a 0 0) = true := (ph_Q_iff a _).mpr (fun s o hs _ hb _ => by
    have h3 : (2 ^ a 0 0 - 1).testBit s = true := ph_alB ⟨a 0 0, by omega⟩ ⟨s, by omega⟩ hs
    rw [h3] at hb
    cases hb)
  rw [e, ph_s]
  rcases ph_same ha (2 ^ a 0 0 - 1) (Nat.le_refl _) with ⟨e1, e2⟩ | ⟨f, hf, e1, e2⟩
  · rw [e1, e2, if_pos ⟨by dsimp only; omega, hq⟩]
  · have h3 : pe_pc f < pe_pc (2 ^ a 0 0 - 1) := ph_alF ⟨a 0 0, by omega⟩ ⟨f, by omega⟩ hf
    rw [e1, e2, if_neg (fun z => by have := z.1; dsimp only at this; omega)]
theorem c_least {M : zz_Mem} {a : pv_A} (hw : pv_W a) (hF : ∀ s, s < a 0 0 → M 30 s = nI (ph_f (pa_prow a (a 3) s) (a 0 0))) : f_X1_leastReshoots (nI (a 0 0)) M = some (nI (ph_c a (2 ^ a 0 0 - 1)), M) := by
  have hb := hw.1
  have hp := pe_p hb.1
  have h1 := ph_pow (a 0 0)
  have e0 : (1 <<< (nI (a 0 0) &&& 31)) - 1 = nI (2 ^ a 0 0 - 1) := by
    have := pe_shlF ⟨a 0 0, by omega⟩
    dsimp only at this
    rw [this, show (1 : Int32) = nI 1 from rfl, pk_sub h1]
  unfold f_X1_leastReshoots
  rw [e0]
  have key := zz_iter (fun k (x : Int32 × Int32 × zz_Mem) => f_X1_leastReshoots_11 (nI (a 0 0)) (nI (2 ^ a 0 0 - 1)) k x.1 x.2.1 x.2.2) (fun i => (nI (ph_c a i), nI i, M)) (2 ^ a 0 0 - 1) (some (nI (ph_c a (2 ^ a 0 0 - 1)), nI (2 ^ a 0 0 - 1), M)) ?_ ?_ 5000 (by omega)
  · dsimp only at key
    rw [show ph_c a 0 = 2 ^ a 0 0 - 1 from rfl, nI_0] at key
    rw [key, zb3]
  · intro k i hi
    dsimp only
    have hc := ph_c_le a i (by omega)
    have p1 := ph_pc (show i < 64 by omega)
    have p2 := ph_pc (show ph_c a i < 64 by omega)
    rw [f_X1_leastReshoots_11, if_neg (nI_ge hi (by omega)), c_bc M (by omega), zb2, c_bc M (by omega), zb2, pn_1, ph_c]
    by_cases q : pe_pc i < pe_pc (ph_c a i)
    · rw [if_neg (nI_ge q (by omega)), c_peace hw hF (by omega), zb2, pv_ift]
      by_cases z : ph_r2 a i (a 0 0) = true
      · rw [if_pos z, if_pos ⟨q, z⟩]
      · rw [if_neg z, if_neg (fun w => z w.2)]
    · rw [if_pos (nI_le (by omega) (by omega)), if_neg (fun w => q w.1)]
  · intro k
    dsimp only
    rw [f_X1_leastReshoots_11, if_pos (Int32.le_refl _)]
theorem r_least {M : zz_Mem} {a : pv_A} (h : pv_St (pv_rn M) a) (hw : pv_W a) (hn : ∀ i j, i < a 0 2 → j < a 0 2 → M 15 (16 * i + j) = nI (pa_no a i j)) : f_X5_reshoot_11 5000 0 7 0 M = some (nI (ph_s a (2 ^ a 0 0)).1, nI (ph_s a (2 ^ a 0 0)).2, nI (2 ^ a 0 0), M) := by
  have hb := hw.1
  have hp := pe_p hb.1
  have e0 : (1 <<< (nI (a 0 0) &&& 31) : Int32) = nI (2 ^ a 0 0) := pe_shlF ⟨a 0 0, by omega⟩
  have key := zz_iter (fun k (x : Int32 × Int32 × Int32 × zz_Mem) => f_X5_reshoot_11 k x.1 x.2.1 x.2.2.1 x.2.2.2) (fun i => (nI (ph_s a i).1, nI (ph_s a i).2, nI i, M)) (2 ^ a 0 0) (some (nI (ph_s a (2 ^ a 0 0)).1, nI (ph_s a (2 ^ a 0 0)).2, nI (2 ^ a 0 0), M)) ?_ ?_ 5000 (by omega)
  · exact key
  · intro k i hi
    dsimp only
    have p1 := ph_pc (show i < 64 by omega)
    have p2 := ph_s_le hb.1 i (by omega)
    rw [f_X5_reshoot_11, r_n0 h, e0, if_neg (nI_ge hi (by omega)), r_mo M (by omega), zb2, pn_1, ph_s]
    by_cases q : pe_pc i < (ph_s a i).2
    · rw [if_neg (nI_ge q (by omega)), r_quiet h hw hn (by omega), zb2, pv_ift]
      by_cases z : ph_r2 a i (a 0 0) = true
      · rw [if_pos z, if_pos ⟨q, z⟩, r_mo M (by omega), zb2]
      · rw [if_neg z, if_neg (fun w => z w.2)]
    · rw [if_pos (nI_le (by omega) (by omega)), if_neg (fun w => q w.1)]
  · intro k
    dsimp only
    rw [f_X5_reshoot_11, r_n0 h, e0, if_pos (Int32.le_refl _)]
theorem st_reshoot : zz_Step_reshoot pv_Rel := by
  intro MC MR hR
  obtain ⟨⟨a, hw, hc, hx, hr⟩, hk⟩ := id hR
  have hb := hw.1
  obtain ⟨g, hg⟩ : ∃ g : Nat → Int32, g = fun x => if x < a 0 0 then nI (ph_f (pa_prow a (a 3) x) (a 0 0)) else MC 30 x := ⟨_, rfl⟩
  have hF : ∀ s, s < a 0 0 → (zz_set MC 30 g) 30 s = nI (ph_f (pa_prow a (a 3) s) (a 0 0)) := fun s hs => by rw [zz_set_self, hg]; exact if_pos hs
  obtain ⟨f, hf⟩ : ∃ f, f = pr_row a (MR 15) (a 0 2) 0 := ⟨_, rfl⟩
  have hn : ∀ i j, i < a 0 2 → j < a 0 2 → (zz_set MR 15 f) 15 (16 * i + j) = nI (pa_no a i j) := fun i j hi hj => by rw [zz_set_self, hf]; exact pr_row_at a _ hi hj hw
  have hr' : pv_St (pv_rn (zz_set MR 15 f)) a := by rw [pv_rn_15]; exact hr
  refine ⟨nI (ph_c a (2 ^ a 0 0 - 1)), zz_set MC 30 g, zz_set MR 15 f, ?_, ?_, hR.same (fun k hk => zz_set_ne _ _ (by omega)) (fun k h1 h2 => zz_set_ne _ _ (by omega)) (fun j _ => by rw [zz_set_ne _ _ (by omega)])⟩
  · unfold f_X4_reshoot
    rw [c_foes hc hw, zb1, ← hg, c_n0 (c_S30 hc g), c_least hw hF, zb2]
  · unfold f_X5_reshoot
    rw [r_noises hr hw, zb1, ← hf, r_least hr' hw hn, zb4, ph_last hb.1]
