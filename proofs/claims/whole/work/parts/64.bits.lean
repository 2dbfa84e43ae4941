/-! sets of scenes as bits, and the DOUBLES' search -/
def pe_clr (n s : Nat) : Nat := if n.testBit s = true then n - 2 ^ s else n
theorem pe_bitF : ∀ n : Fin 64, ∀ s : Fin 6, ((nI n.val >>> (nI s.val &&& 31)) &&& 1) = (if n.val.testBit s.val = true then 1 else 0) := by decide +kernel
theorem pe_clrF : ∀ n : Fin 64, ∀ s : Fin 6, (nI n.val &&& ((1 <<< (nI s.val &&& 31)) ^^^ (-1))) = nI (pe_clr n.val s.val) := by decide +kernel
theorem pe_clrB : ∀ n : Fin 64, ∀ s : Fin 6, pe_clr n.val s.val < 64 ∧ ∀ j : Fin 6, (pe_clr n.val s.val).testBit j.val = (n.val.testBit j.val && !decide (j.val = s.val)) := by decide +kernel
theorem pe_0F : ∀ n : Fin 64, (∀ s : Fin 6, n.val.testBit s.val = false) → n.val = 0 := by decide +kernel
theorem pe_shlF : ∀ s : Fin 7, (1 : Int32) <<< (nI s.val &&& 31) = nI (2 ^ s.val) := by decide +kernel
theorem pe_hiF : ∀ k : Fin 7, ∀ n : Fin 64, n.val < 2 ^ k.val → ∀ s : Fin 6, k.val ≤ s.val → n.val.testBit s.val = false := by decide +kernel
theorem pe_bit {n s : Nat} (hn : n < 64) (hs : s < 6) : ((nI n >>> (nI s &&& 31)) &&& 1) = (if n.testBit s = true then 1 else 0) := pe_bitF ⟨n, hn⟩ ⟨s, hs⟩
theorem pe_clrE {n s : Nat} (hn : n < 64) (hs : s < 6) : (nI n &&& ((1 <<< (nI s &&& 31)) ^^^ (-1))) = nI (pe_clr n s) := pe_clrF ⟨n, hn⟩ ⟨s, hs⟩
theorem pe_clr_lt {n s : Nat} (hn : n < 64) (hs : s < 6) : pe_clr n s < 64 := (pe_clrB ⟨n, hn⟩ ⟨s, hs⟩).1
theorem pe_clr_bit {n s j : Nat} (hn : n < 64) (hs : s < 6) (hj : j < 6) : (pe_clr n s).testBit j = (n.testBit j && !decide (j = s)) := (pe_clrB ⟨n, hn⟩ ⟨s, hs⟩).2 ⟨j, hj⟩
theorem pe_0 {n : Nat} (hn : n < 64) (h : ∀ s, s < 6 → n.testBit s = false) : n = 0 := pe_0F ⟨n, hn⟩ (fun s => h s.val s.isLt)
theorem pe_hi {n k s : Nat} (hk : k ≤ 6) (hn : n < 2 ^ k) (hs : s < 6) (hks : k ≤ s) : n.testBit s = false := by
  have h64 : n < 64 := Nat.lt_of_lt_of_le hn (Nat.le_trans (Nat.pow_le_pow_right (by omega) hk) (by decide))
  exact pe_hiF ⟨k, by omega⟩ ⟨n, h64⟩ hn ⟨s, hs⟩ hks
theorem pe_64 {n k : Nat} (hk : k ≤ 6) (hn : n < 2 ^ k) : n < 64 := Nat.lt_of_lt_of_le hn (Nat.le_trans (Nat.pow_le_pow_right (by omega) hk) (by decide))
def pe_ok (x : Int32) (k : Nat) : Bool := !decide (x < 0) && !decide (nI (2 ^ k) ≤ x)
theorem pe_p {k : Nat} (hk : k ≤ 6) : 2 ^ k ≤ 64 := Nat.le_trans (Nat.pow_le_pow_right (by omega) hk) (by decide)
theorem pe_ok_of {x : Int32} {k : Nat} (hk : k ≤ 6) (h : pe_ok x k = true) : ∃ n, n < 2 ^ k ∧ x = nI n := by
  simp only [pe_ok, Bool.and_eq_true, Bool.not_eq_true', decide_eq_false_iff_not] at h
  exact pn_val (by have := pe_p hk; omega) h.1 h.2
theorem c_isSet {M : zz_Mem} {a : pv_A} (h : pv_St (pv_cn M) a) (hw : pv_W a) (x : Int32) : f_X3_isSetOfScenes x M = some (pv_i (pe_ok x (a 0 0)), M) := by
  have hb := hw.1
  unfold f_X3_isSetOfScenes pe_ok
  rw [c_n0 h, pe_shlF ⟨a 0 0, by omega⟩]
  by_cases h1 : x < 0 <;> by_cases h2 : nI (2 ^ a 0 0) ≤ x <;> simp only [h1, h2, if_true, if_false, decide_true, decide_false] <;> rfl
theorem r_isSet {M : zz_Mem} {a : pv_A} (h : pv_St (pv_rn M) a) (hw : pv_W a) (x : Int32) : f_X5_isSet x M = some (pv_i (pe_ok x (a 0 0)), M) := by
  have hb := hw.1
  unfold f_X5_isSet pe_ok
  rw [r_n0 h, pe_shlF ⟨a 0 0, by omega⟩]
  by_cases h1 : x < 0 <;> by_cases h2 : nI (2 ^ a 0 0) ≤ x <;> simp only [h1, h2, if_true, if_false, decide_true, decide_false] <;> rfl
theorem c_isIn (M : zz_Mem) {n s : Nat} (hn : n < 64) (hs : s < 6) : f_X4_isIn (nI n) (nI s) M = some (pv_i (n.testBit s), M) := by
  unfold f_X4_isIn
  rw [pe_bit hn hs]
  cases n.testBit s <;> rfl
def pe_lh (base : Nat) (hi : Nat → Nat) (n : Nat) : Nat → Nat
  | 0 => base
  | k + 1 => if n.testBit k = true then min (pe_lh base hi n k) (hi k) else pe_lh base hi n k
def pe_ws (lo : Nat → Nat) (n m : Nat) : Nat → Nat
  | 0 => n
  | k + 1 => if n.testBit k = true ∧ lo k ≤ m then pe_clr (pe_ws lo n m k) k else pe_ws lo n m k
theorem pe_lh_le {base : Nat} {hi : Nat → Nat} {n : Nat} : ∀ k, pe_lh base hi n k ≤ base
  | 0 => Nat.le_refl _
  | k + 1 => by
    have := pe_lh_le (base := base) (hi := hi) (n := n) k
    rw [pe_lh]
    split <;> omega
theorem pe_lh_bit {base : Nat} {hi : Nat → Nat} {n : Nat} : ∀ {k s : Nat}, s < k → n.testBit s = true → pe_lh base hi n k ≤ hi s
  | 0, s, h, _ => absurd h (by omega)
  | k + 1, s, h, hb => by
    rw [pe_lh]
    by_cases e : s = k
    · subst e
      rw [if_pos hb]
      omega
    · have := pe_lh_bit (base := base) (hi := hi) (show s < k by omega) hb
      split <;> omega
theorem pe_lh_ex {base : Nat} {hi : Nat → Nat} {n : Nat} : ∀ {k : Nat}, pe_lh base hi n k = base ∨ ∃ s, s < k ∧ n.testBit s = true ∧ pe_lh base hi n k = hi s
  | 0 => Or.inl rfl
  | k + 1 => by
    rw [pe_lh]
    have ih := pe_lh_ex (base := base) (hi := hi) (n := n) (k := k)
    split
    · rename_i hb
      by_cases q : pe_lh base hi n k ≤ hi k
      · rw [Nat.min_eq_left q]
        rcases ih with ih | ⟨s, h1, h2, h3⟩
        · exact Or.inl ih
        · exact Or.inr ⟨s, by omega, h2, h3⟩
      · rw [Nat.min_eq_right (by omega)]
        exact Or.inr ⟨k, by omega, hb, rfl⟩
    · rcases ih with ih | ⟨s, h1, h2, h3⟩
      · exact Or.inl ih
      · exact Or.inr ⟨s, by omega, h2, h3⟩
theorem pe_lh_99 {hi : Nat → Nat} {n : Nat} (hh : ∀ s, s < 6 → n.testBit s = true → hi s ≤ 99) : ∀ {k : Nat}, k ≤ 6 → pe_lh 99 hi n k = min 99 (pe_lh 100 hi n k)
  | 0, _ => rfl
  | k + 1, h => by
    rw [pe_lh, pe_lh, pe_lh_99 hh (show k ≤ 6 by omega)]
    split <;> omega
theorem pe_lh_up {base : Nat} {hi : Nat → Nat} {n k : Nat} (h : ∀ s, k ≤ s → s < 6 → n.testBit s = false) : ∀ d, k + d ≤ 6 → pe_lh base hi n (k + d) = pe_lh base hi n k
  | 0, _ => rfl
  | d + 1, hd => by
    rw [show k + (d + 1) = (k + d) + 1 by omega, pe_lh, if_neg (by rw [h (k + d) (by omega) (by omega)]; decide), pe_lh_up h d (by omega)]
theorem pe_ws_up {lo : Nat → Nat} {n m k : Nat} (h : ∀ s, k ≤ s → s < 6 → n.testBit s = false) : ∀ d, k + d ≤ 6 → pe_ws lo n m (k + d) = pe_ws lo n m k
  | 0, _ => rfl
  | d + 1, hd => by
    rw [show k + (d + 1) = (k + d) + 1 by omega, pe_ws, if_neg (by rw [h (k + d) (by omega) (by omega)]; simp), pe_ws_up h d (by omega)]
theorem pe_ws_lt {lo : Nat → Nat} {n m : Nat} (hn : n < 64) : ∀ k, k ≤ 6 → pe_ws lo n m k < 64
  | 0, _ => hn
  | k + 1, h => by
    rw [pe_ws]
    split
    · exact pe_clr_lt (pe_ws_lt hn k (by omega)) (by omega)
    · exact pe_ws_lt hn k (by omega)
theorem pe_ws_bit {lo : Nat → Nat} {n m : Nat} (hn : n < 64) : ∀ k, k ≤ 6 → ∀ j, j < 6 → (pe_ws lo n m k).testBit j = (n.testBit j && !(decide (j < k) && decide (lo j ≤ m)))
  | 0, _, j, hj => by rw [pe_ws, decide_eq_false (by omega)]; simp
  | k + 1, h, j, hj => by
    have ih := pe_ws_bit (lo := lo) (m := m) hn k (by omega) j hj
    rw [pe_ws]
    split
    · rename_i hb
      rw [pe_clr_bit (pe_ws_lt hn k (by omega)) (by omega) hj, ih]
      by_cases e : j = k
      · subst e
        simp [hb.1, hb.2]
      · have : (decide (j < k)) = decide (j < k + 1) := decide_eq_decide.mpr (by omega)
        rw [this, decide_eq_false e]
        simp
    · rename_i hb
      rw [ih]
      by_cases e : j = k
      · subst e
        by_cases q : n.testBit j = true
        · have : ¬ lo j ≤ m := fun z => hb ⟨q, z⟩
          simp [this]
        · simp [q]
      · have : (decide (j < k)) = decide (j < k + 1) := decide_eq_decide.mpr (by omega)
        rw [this]
/-- how many bits -/
def pe_pc (n : Nat) : Nat := zz_S (fun s => if n.testBit s = true then 1 else 0) 6
theorem zz_S_mono {g h : Nat → Nat} : ∀ {n : Nat}, (∀ i, i < n → g i ≤ h i) → zz_S g n ≤ zz_S h n
  | 0, _ => Nat.le_refl _
  | n + 1, e => by
    have h1 := zz_S_mono (fun i hi => e i (by omega) : ∀ i, i < n → g i ≤ h i)
    have h2 := e n (by omega)
    rw [zz_S, zz_S]
    omega
theorem zz_S_lt {g h : Nat → Nat} : ∀ {n k : Nat}, (∀ i, i < n → g i ≤ h i) → k < n → g k < h k → zz_S g n < zz_S h n
  | 0, k, _, hk, _ => absurd hk (by omega)
  | n + 1, k, e, hk, hl => by
    rw [zz_S, zz_S]
    by_cases q : k = n
    · subst q
      have h1 := zz_S_mono (fun i hi => e i (by omega) : ∀ i, i < k → g i ≤ h i)
      omega
    · have h1 := zz_S_lt (fun i hi => e i (by omega) : ∀ i, i < n → g i ≤ h i) (show k < n by omega) hl
      have h2 := e n (by omega)
      omega
/-- a step of the search: what is open falls -/
theorem pe_step {lo hi : Nat → Nat} {n : Nat} (hn : n < 64) (h0 : ¬ n = 0) (hg : ∀ s, s < 6 → n.testBit s = true → lo s ≤ hi s ∧ hi s ≤ 99) : pe_pc (pe_ws lo n (pe_lh 99 hi n 6) 6) < pe_pc n ∧ pe_lh 99 hi n 6 ≤ 99 ∧ ∀ s, s < 6 → (pe_ws lo n (pe_lh 99 hi n 6) 6).testBit s = true → n.testBit s = true := by
  have sub : ∀ s, s < 6 → (pe_ws lo n (pe_lh 99 hi n 6) 6).testBit s = true → n.testBit s = true := fun s hs h => by
    rw [pe_ws_bit hn 6 (by omega) s hs, Bool.and_eq_true] at h
    exact h.1
  refine ⟨?_, pe_lh_le 6, sub⟩
  obtain ⟨s, hs, hb, hm⟩ : ∃ s, s < 6 ∧ n.testBit s = true ∧ lo s ≤ pe_lh 99 hi n 6 := by
    rcases pe_lh_ex (base := 99) (hi := hi) (n := n) (k := 6) with e | ⟨s, h1, h2, h3⟩
    · by_cases q : ∃ s, s < 6 ∧ n.testBit s = true
      · obtain ⟨s, h1, h2⟩ := q
        have := hg s h1 h2
        exact ⟨s, h1, h2, by omega⟩
      · exact absurd (pe_0 hn (fun s hs => by
          cases e2 : n.testBit s with
          | true => exact absurd ⟨s, hs, e2⟩ q
          | false => rfl)) h0
    · exact ⟨s, h1, h2, by rw [h3]; exact (hg s h1 h2).1⟩
  unfold pe_pc
  refine zz_S_lt (k := s) (fun i hi6 => ?_) hs ?_
  · by_cases q : (pe_ws lo n (pe_lh 99 hi n 6) 6).testBit i = true
    · rw [if_pos q, if_pos (sub i hi6 q)]
      exact Nat.le_refl _
    · rw [if_neg q]
      exact Nat.zero_le _
  · rw [if_pos hb, if_neg]
    · omega
    · rw [pe_ws_bit hn 6 (by omega) s hs]
      simp [hs, hm]
def pe_it (lo hi : Nat → Nat) (n : Nat) : Nat → Nat
  | 0 => n
  | j + 1 => pe_ws lo (pe_it lo hi n j) (pe_lh 99 hi (pe_it lo hi n j) 6) 6
theorem pe_it_ok {lo hi : Nat → Nat} {n : Nat} (hn : n < 64) (hg : ∀ s, s < 6 → n.testBit s = true → lo s ≤ hi s ∧ hi s ≤ 99) : ∀ j, pe_it lo hi n j < 64 ∧ (∀ s, s < 6 → (pe_it lo hi n j).testBit s = true → n.testBit s = true)
  | 0 => ⟨hn, fun _ _ h => h⟩
  | j + 1 => by
    obtain ⟨h1, h2⟩ := pe_it_ok hn hg j
    refine ⟨pe_ws_lt h1 6 (by omega), fun s hs h => ?_⟩
    rw [pe_it, pe_ws_bit h1 6 (by omega) s hs, Bool.and_eq_true] at h
    exact h2 s hs h.1
theorem pe_end {lo hi : Nat → Nat} {n : Nat} (hn : n < 64) (hg : ∀ s, s < 6 → n.testBit s = true → lo s ≤ hi s ∧ hi s ≤ 99) : ∃ T, T ≤ 6 ∧ pe_it lo hi n T = 0 ∧ ∀ j, j < T → ¬ pe_it lo hi n j = 0 := by
  have hpc : pe_pc n ≤ 6 := by
    have := zz_S_le (g := fun s => if n.testBit s = true then 1 else 0) (c := 1) (n := 6) (fun i _ => by split <;> omega)
    unfold pe_pc
    omega
  have key : ∀ j, j ≤ 6 → (∃ T, T ≤ j ∧ pe_it lo hi n T = 0 ∧ ∀ i, i < T → ¬ pe_it lo hi n i = 0) ∨ ((∀ i, i ≤ j → ¬ pe_it lo hi n i = 0) ∧ pe_pc (pe_it lo hi n j) + j ≤ 6) := by
    intro j
    induction j with
    | zero =>
      intro _
      by_cases q : n = 0
      · exact Or.inl ⟨0, Nat.le_refl _, q, fun i hi => absurd hi (by omega)⟩
      · refine Or.inr ⟨fun i hi => ?_, hpc⟩
        have : i = 0 := by omega
        subst this
        exact q
    | succ j ih =>
      intro hj
      rcases ih (by omega) with ⟨T, h1, h2, h3⟩ | ⟨h1, h2⟩
      · exact Or.inl ⟨T, by omega, h2, h3⟩
      · obtain ⟨i1, i2⟩ := pe_it_ok hn hg j
        have hst := pe_step i1 (h1 j (Nat.le_refl _)) (fun s hs hb => hg s hs (i2 s hs hb))
        have hst1 : pe_pc (pe_it lo hi n (j + 1)) < pe_pc (pe_it lo hi n j) := hst.1
        by_cases q : pe_it lo hi n (j + 1) = 0
        · exact Or.inl ⟨j + 1, Nat.le_refl _, q, fun i hi => h1 i (by omega)⟩
        · refine Or.inr ⟨fun i hi => ?_, by omega⟩
          by_cases e : i = j + 1
          · rw [e]; exact q
          · exact h1 i (by omega)
  rcases key 6 (Nat.le_refl _) with h | ⟨h1, h2⟩
  · exact h
  · exfalso
    have h3 : pe_pc (pe_it lo hi n 6) = 0 := by omega
    apply h1 6 (Nat.le_refl _)
    refine pe_0 (pe_it_ok hn hg 6).1 (fun s hs => ?_)
    cases e : (pe_it lo hi n 6).testBit s with
    | false => rfl
    | true =>
      have := zz_S_pos (g := fun s => if (pe_it lo hi n 6).testBit s = true then 1 else 0) hs
      unfold pe_pc at h3
      rw [h3] at this
      rw [if_pos e] at this
      omega
