/-! THE PURE PART: views of the state, what they mean, the relation -/
abbrev pv_V : Type := Nat → Nat → Int32
abbrev pv_A : Type := Nat → Nat → Nat
def pv_up (X : pv_V) (k i : Nat) (x : Int32) : pv_V := fun k' i' => if k' = k ∧ i' = i then x else X k' i'
def pv_au (a : pv_A) (k i x : Nat) : pv_A := fun k' i' => if k' = k ∧ i' = i then x else a k' i'
/-- 3 (chosen take) and 9 (measures) are told by one more: 0 is none -/
def pv_e (k x : Nat) : Int32 := if k = 3 ∨ k = 9 then nI x - 1 else nI x
def pv_r (a : pv_A) (k i : Nat) : Prop := (k = 0 ∧ i < 3) ∨ ((k = 1 ∨ k = 2 ∨ k = 3) ∧ i < a 0 0) ∨ ((k = 4 ∨ k = 5 ∨ k = 6) ∧ i < a 0 1) ∨ ((k = 7 ∨ k = 8) ∧ i < a 0 2) ∨ (k = 9 ∧ i < 6 * a 0 2)
def pv_St (X : pv_V) (a : pv_A) : Prop := ∀ k i, pv_r a k i → X k i = pv_e k (a k i)
def pv_cn (M : zz_Mem) : pv_V := fun k => if k = 0 then (fun j => M 1 (4 * j)) else if k ≤ 9 then M (k + 5) else fun _ => 0
def pv_ck (M : zz_Mem) : pv_V := fun k => if k = 0 then (fun j => M 2 (4 * j)) else if k ≤ 9 then M (k + 14) else fun _ => 0
def pv_rn (M : zz_Mem) : pv_V := fun k => if k = 0 then (fun j => if j < 3 then M 0 (4 * j) else 0) else if k ≤ 9 then M k else fun _ => 0
def pv_rk (M : zz_Mem) : pv_V := fun k => if k = 0 then M 10 else if k ≤ 6 then (fun j => M 11 (6 * (k - 1) + j)) else if k = 7 then M 12 else if k = 8 then (fun j => M 12 (16 + j)) else if k = 9 then (fun j => M 12 (32 + j)) else fun _ => 0
def zz_S (g : Nat → Nat) : Nat → Nat
  | 0 => 0
  | n + 1 => zz_S g n + g n
theorem zz_S_congr {g h : Nat → Nat} : ∀ {n : Nat}, (∀ i, i < n → g i = h i) → zz_S g n = zz_S h n
  | 0, _ => rfl
  | n + 1, e => by rw [zz_S, zz_S, zz_S_congr (fun i hi => e i (by omega)), e n (by omega)]
theorem zz_S_le {g : Nat → Nat} {c : Nat} : ∀ {n : Nat}, (∀ i, i < n → g i ≤ c) → zz_S g n ≤ c * n
  | 0, _ => Nat.zero_le _
  | n + 1, e => by
    have h1 := zz_S_le (fun i hi => e i (by omega) : ∀ i, i < n → g i ≤ c)
    have h2 := e n (by omega)
    rw [zz_S, Nat.mul_add]
    omega
theorem zz_S_0 {g : Nat → Nat} : ∀ {n : Nat}, (∀ i, i < n → g i = 0) → zz_S g n = 0
  | 0, _ => rfl
  | n + 1, e => by rw [zz_S, zz_S_0 (fun i hi => e i (by omega)), e n (by omega)]
theorem zz_S_pos {g : Nat → Nat} : ∀ {n i : Nat}, i < n → g i ≤ zz_S g n
  | 0, i, h => absurd h (by omega)
  | n + 1, i, h => by
    rw [zz_S]
    by_cases e : i = n
    · subst e; omega
    · have := zz_S_pos (g := g) (n := n) (i := i) (by omega)
      omega
def pv_cnt (a : pv_A) (s : Nat) : Nat := zz_S (fun k => if a 7 k = s then 1 else 0) (a 0 2)
def pv_W (a : pv_A) : Prop := (a 0 0 ≤ 6 ∧ a 0 1 ≤ 6 ∧ a 0 2 ≤ 16) ∧ (∀ s, s < a 0 0 → a 1 s ≤ 99 ∧ a 2 s ≤ 99 ∧ (a 3 s = 0 ∨ (a 3 s ≤ a 0 2 ∧ a 7 (a 3 s - 1) = s))) ∧ (∀ t, t < a 0 1 → a 4 t ≤ 3 ∧ a 5 t ≤ 9 ∧ 1 ≤ a 6 t ∧ a 6 t ≤ 9) ∧ (∀ k, k < a 0 2 → a 7 k < a 0 0 ∧ a 8 k ≤ 20) ∧ (∀ i, i < 6 * a 0 2 → a 9 i ≤ 100) ∧ (∀ k t, k < a 0 2 → t < 6 → a 0 1 ≤ t → a 9 (6 * k + t) = 0) ∧ (∀ s, s < a 0 0 → pv_cnt a s ≤ 4)
/-- the class's rows of what hasn't come yet -/
def pv_X (X : pv_V) (a : pv_A) : Prop := (∀ s, a 0 0 ≤ s → s < 6 → X 3 s = -1) ∧ ∀ i, i < 96 → (6 * a 0 2 ≤ i ∨ a 0 1 ≤ i % 6) → X 9 i = -1
def pv_R (X Y : pv_V) : Prop := ∃ a, pv_W a ∧ pv_St X a ∧ pv_X X a ∧ pv_St Y a
def pv_Rel (MC MR : zz_Mem) : Prop := pv_R (pv_cn MC) (pv_rn MR) ∧ ((MC 0 2 = 0 ∧ MR 0 12 = 0) ∨ (MC 0 2 = 1 ∧ MR 0 12 = 1 ∧ pv_R (pv_ck MC) (pv_rk MR)))
/-! numbers -/
theorem pn_1 (n : Nat) : nI n + 1 = nI (n + 1) := nI_1 n
theorem pn_m1 {x : Nat} (h : x < 2 ^ 30) : (nI x - 1).toInt = (x : Int) - 1 := by
  cases x with
  | zero => decide
  | succ x => rw [nI_pred, nI_toInt (by omega)]; omega
theorem pn_neg {x : Nat} (h : x < 2 ^ 30) : nI x - 1 < 0 ↔ x = 0 := by
  rw [Int32.lt_iff_toInt_lt, pn_m1 h, show (0 : Int32).toInt = 0 from rfl]
  omega
theorem pn_nn {x : Nat} (h : x < 2 ^ 30) : 0 ≤ nI x - 1 ↔ ¬ x = 0 := by
  rw [Int32.le_iff_toInt_le, pn_m1 h, show (0 : Int32).toInt = 0 from rfl]
  omega
theorem pn_em1 {x : Nat} (h : x < 2 ^ 30) : nI x - 1 = -1 ↔ x = 0 := by
  rw [← Int32.toInt_inj, pn_m1 h, show (-1 : Int32).toInt = -1 from by decide]
  omega
theorem pn_e1 {x y : Nat} (h : x < 2 ^ 30) (h' : y < 2 ^ 30) : nI x - 1 = nI y - 1 ↔ x = y := by
  rw [← Int32.toInt_inj, pn_m1 h, pn_m1 h']
  omega
theorem pn_cl1 {x : Nat} (h : x < 2 ^ 30) : (nI x - 1).toNatClampNeg = x - 1 := by
  cases x with
  | zero => decide
  | succ x => rw [nI_pred, nI_clamp (by omega)]; rfl
theorem pn_in {i N : Nat} (h : i < N) (hN : N < 2 ^ 31) : zz_in (nI i) N := nI_in h hN
theorem pn_e0 {x : Nat} (h : x < 2 ^ 31) : nI x = 0 ↔ x = 0 := by rw [← nI_0, nI_eq h (by omega)]
theorem pn_lit (n : Nat) : (OfNat.ofNat n : Int32) = nI n := rfl
theorem pn_val {x : Int32} {n : Nat} (hn : n < 2 ^ 31) (h1 : ¬ x < 0) (h2 : ¬ nI n ≤ x) : ∃ j, j < n ∧ x = nI j := by
  obtain ⟨j, hj, rfl⟩ := nI_of h1
  exact ⟨j, by rw [nI_leI hn hj] at h2; omega, rfl⟩
/-! binds -/
theorem zb1 {α : Type} (M : zz_Mem) (g : zz_Mem → Option α) : zz_b1 (some M) g = g M := rfl
theorem zb2 {α : Type} (x : Int32) (M : zz_Mem) (g : Int32 → zz_Mem → Option α) : zz_b2 (some (x, M)) g = g x M := rfl
theorem zb3 {α : Type} (x y : Int32) (M : zz_Mem) (g : Int32 → Int32 → zz_Mem → Option α) : zz_b3 (some (x, y, M)) g = g x y M := rfl
theorem zb4 {α : Type} (x y z : Int32) (M : zz_Mem) (g : Int32 → Int32 → Int32 → zz_Mem → Option α) : zz_b4 (some (x, y, z, M)) g = g x y z M := rfl
/-- a loop that goes through a row of states -/
theorem zz_iter {τ ρ : Type} (F : Nat → τ → ρ) (σ : Nat → τ) (N : Nat) (res : ρ) (hstep : ∀ n i, i < N → F (n + 1) (σ i) = F n (σ (i + 1))) (hend : ∀ n, F (n + 1) (σ N) = res) : ∀ n, N < n → F n (σ 0) = res := by
  have key : ∀ d i n, i + d = N → d < n → F n (σ i) = res := by
    intro d
    induction d with
    | zero =>
      intro i n h1 h2
      obtain ⟨n, rfl⟩ : ∃ k, n = k + 1 := ⟨n - 1, by omega⟩
      have e : i = N := by omega
      subst e
      exact hend n
    | succ d ih =>
      intro i n h1 h2
      obtain ⟨n, rfl⟩ : ∃ k, n = k + 1 := ⟨n - 1, by omega⟩
      rw [hstep n i (by omega)]
      exact ih (i + 1) n (by omega) (by omega)
  intro n hn
  exact key N 0 n (by omega) hn
/-! reading and changing views -/
theorem pv_St.at {X : pv_V} {a : pv_A} (h : pv_St X a) {k i : Nat} (hr : pv_r a k i) : X k i = pv_e k (a k i) := h k i hr
theorem pv_up_at (X : pv_V) (k i : Nat) (x : Int32) : pv_up X k i x k i = x := by simp [pv_up]
theorem pv_up_ne (X : pv_V) {k i k' i' : Nat} (x : Int32) (h : ¬ (k' = k ∧ i' = i)) : pv_up X k i x k' i' = X k' i' := by simp only [pv_up, if_neg h]
theorem pv_au_at (a : pv_A) (k i x : Nat) : pv_au a k i x k i = x := by simp [pv_au]
theorem pv_au_ne (a : pv_A) {k i k' i' : Nat} (x : Nat) (h : ¬ (k' = k ∧ i' = i)) : pv_au a k i x k' i' = a k' i' := by simp only [pv_au, if_neg h]
theorem pv_St.up {X : pv_V} {a : pv_A} (h : pv_St X a) {k i y : Nat} (hk : k ≠ 0) {x : Int32} (hx : x = pv_e k y) : pv_St (pv_up X k i x) (pv_au a k i y) := by
  intro k' i' hr
  have e0 : ∀ j, pv_au a k i y 0 j = a 0 j := fun j => pv_au_ne a y (by omega)
  simp only [pv_r, e0] at hr
  by_cases he : k' = k ∧ i' = i
  · obtain ⟨rfl, rfl⟩ := he
    rw [pv_up_at, pv_au_at, hx]
  · rw [pv_up_ne X x he, pv_au_ne a y he]
    exact h k' i' hr
/-- a count grows by one: the new rows must hold already -/
theorem pv_St.grow {X : pv_V} {a : pv_A} (h : pv_St X a) {j : Nat} (hj : j < 3) (hn : ∀ k i, pv_r (pv_au a 0 j (a 0 j + 1)) k i → ¬ pv_r a k i → X k i = pv_e k (a k i)) : pv_St (pv_up X 0 j (nI (a 0 j + 1))) (pv_au a 0 j (a 0 j + 1)) := by
  intro k' i' hr
  by_cases he : k' = 0 ∧ i' = j
  · obtain ⟨rfl, rfl⟩ := he
    rw [pv_up_at, pv_au_at]
    rfl
  · rw [pv_up_ne X _ he, pv_au_ne a _ he]
    by_cases h0 : pv_r a k' i'
    · exact h k' i' h0
    · exact hn k' i' hr h0
