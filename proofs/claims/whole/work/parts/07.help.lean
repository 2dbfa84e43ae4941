abbrev zz_in (i : Int32) (n : Nat) : Prop := ¬ (i < 0 ∨ n ≤ i.toNatClampNeg)
theorem zz_chk {α : Type} {c : Prop} [Decidable c] {a : Option α} {r : α} (h : (if c then a else none) = some r) : c ∧ a = some r := by
  by_cases hc : c
  · rw [if_pos hc] at h
    exact ⟨hc, h⟩
  · rw [if_neg hc] at h
    cases h
theorem zz_hR {dd d maxL : Nat} (h : dd + 1 ≤ d) (hm : maxL ≤ 40) : dd + 1 ≤ (zz_rm d).frames ∧ 8 + (maxL + 11) + 64 * dd ≤ (zz_rm d).locals := ⟨h, by show 8 + (maxL + 11) + 64 * dd ≤ 64 * d; omega⟩
theorem zz_hcp {d : Nat} (h : 1 ≤ d) : 1 ≤ (zz_rm d).frames ∧ (([] : List Value).map fun v => v.category).sum + (nativeFrameWords "java/lang/System" "arraycopy" 5 + 11) ≤ (zz_rm d).locals := ⟨h, by
  have e : nativeFrameWords "java/lang/System" "arraycopy" 5 = 7 := by decide +kernel
  rw [e]
  show 0 + (7 + 11) ≤ 64 * d
  omega⟩
def zz_b1 {α : Type} (o : Option zz_Mem) (g : zz_Mem → Option α) : Option α := match o with
  | some M => g M
  | none => none
theorem zz_b1E {α : Type} {o : Option zz_Mem} {g : zz_Mem → Option α} {r : α} (h : zz_b1 o g = some r) : ∃ M, o = some M ∧ g M = some r := by
  cases o with
  | none => cases h
  | some M => exact ⟨M, rfl, h⟩
def zz_b2 {α : Type} (o : Option (Int32 × zz_Mem)) (g : Int32 → zz_Mem → Option α) : Option α := match o with
  | some (a1, M) => g a1 M
  | none => none
theorem zz_b2E {α : Type} {o : Option (Int32 × zz_Mem)} {g : Int32 → zz_Mem → Option α} {r : α} (h : zz_b2 o g = some r) : ∃ a1 M, o = some (a1, M) ∧ g a1 M = some r := by
  cases o with
  | none => cases h
  | some z =>
    obtain ⟨a1, M⟩ := z
    exact ⟨a1, M, rfl, h⟩
def zz_bs2 (o : Option (Sum (Int32 × zz_Mem) (Int32 × zz_Mem))) (g : Int32 → zz_Mem → Option (Int32 × zz_Mem)) : Option (Int32 × zz_Mem) := match o with
  | some (.inl z) => some z
  | some (.inr (a1, M)) => g a1 M
  | none => none
theorem zz_bs2E {o : Option (Sum (Int32 × zz_Mem) (Int32 × zz_Mem))} {g : Int32 → zz_Mem → Option (Int32 × zz_Mem)} {r : Int32} {Mf : zz_Mem} (h : zz_bs2 o g = some (r, Mf)) : ∃ z, o = some z ∧ (∀ r0 M0, z = .inl (r0, M0) → some (Value.int r) = some (Value.int r0) ∧ Mf = M0) ∧ (∀ a1 M, z = .inr (a1, M) → g a1 M = some (r, Mf)) := by
  cases o with
  | none => cases h
  | some z =>
    refine ⟨z, rfl, ?_, ?_⟩
    · rintro r0 M0 rfl
      cases h
      exact ⟨rfl, rfl⟩
    · rintro a1 M rfl
      exact h
def zz_b3 {α : Type} (o : Option (Int32 × Int32 × zz_Mem)) (g : Int32 → Int32 → zz_Mem → Option α) : Option α := match o with
  | some (a1, a2, M) => g a1 a2 M
  | none => none
theorem zz_b3E {α : Type} {o : Option (Int32 × Int32 × zz_Mem)} {g : Int32 → Int32 → zz_Mem → Option α} {r : α} (h : zz_b3 o g = some r) : ∃ a1 a2 M, o = some (a1, a2, M) ∧ g a1 a2 M = some r := by
  cases o with
  | none => cases h
  | some z =>
    obtain ⟨a1, a2, M⟩ := z
    exact ⟨a1, a2, M, rfl, h⟩
def zz_bs3 (o : Option (Sum (Int32 × zz_Mem) (Int32 × Int32 × zz_Mem))) (g : Int32 → Int32 → zz_Mem → Option (Int32 × zz_Mem)) : Option (Int32 × zz_Mem) := match o with
  | some (.inl z) => some z
  | some (.inr (a1, a2, M)) => g a1 a2 M
  | none => none
theorem zz_bs3E {o : Option (Sum (Int32 × zz_Mem) (Int32 × Int32 × zz_Mem))} {g : Int32 → Int32 → zz_Mem → Option (Int32 × zz_Mem)} {r : Int32} {Mf : zz_Mem} (h : zz_bs3 o g = some (r, Mf)) : ∃ z, o = some z ∧ (∀ r0 M0, z = .inl (r0, M0) → some (Value.int r) = some (Value.int r0) ∧ Mf = M0) ∧ (∀ a1 a2 M, z = .inr (a1, a2, M) → g a1 a2 M = some (r, Mf)) := by
  cases o with
  | none => cases h
  | some z =>
    refine ⟨z, rfl, ?_, ?_⟩
    · rintro r0 M0 rfl
      cases h
      exact ⟨rfl, rfl⟩
    · rintro a1 a2 M rfl
      exact h
def zz_b4 {α : Type} (o : Option (Int32 × Int32 × Int32 × zz_Mem)) (g : Int32 → Int32 → Int32 → zz_Mem → Option α) : Option α := match o with
  | some (a1, a2, a3, M) => g a1 a2 a3 M
  | none => none
theorem zz_b4E {α : Type} {o : Option (Int32 × Int32 × Int32 × zz_Mem)} {g : Int32 → Int32 → Int32 → zz_Mem → Option α} {r : α} (h : zz_b4 o g = some r) : ∃ a1 a2 a3 M, o = some (a1, a2, a3, M) ∧ g a1 a2 a3 M = some r := by
  cases o with
  | none => cases h
  | some z =>
    obtain ⟨a1, a2, a3, M⟩ := z
    exact ⟨a1, a2, a3, M, rfl, h⟩
def zz_bs4 (o : Option (Sum (Int32 × zz_Mem) (Int32 × Int32 × Int32 × zz_Mem))) (g : Int32 → Int32 → Int32 → zz_Mem → Option (Int32 × zz_Mem)) : Option (Int32 × zz_Mem) := match o with
  | some (.inl z) => some z
  | some (.inr (a1, a2, a3, M)) => g a1 a2 a3 M
  | none => none
theorem zz_bs4E {o : Option (Sum (Int32 × zz_Mem) (Int32 × Int32 × Int32 × zz_Mem))} {g : Int32 → Int32 → Int32 → zz_Mem → Option (Int32 × zz_Mem)} {r : Int32} {Mf : zz_Mem} (h : zz_bs4 o g = some (r, Mf)) : ∃ z, o = some z ∧ (∀ r0 M0, z = .inl (r0, M0) → some (Value.int r) = some (Value.int r0) ∧ Mf = M0) ∧ (∀ a1 a2 a3 M, z = .inr (a1, a2, a3, M) → g a1 a2 a3 M = some (r, Mf)) := by
  cases o with
  | none => cases h
  | some z =>
    refine ⟨z, rfl, ?_, ?_⟩
    · rintro r0 M0 rfl
      cases h
      exact ⟨rfl, rfl⟩
    · rintro a1 a2 a3 M rfl
      exact h
def zz_b5 {α : Type} (o : Option (Int32 × Int32 × Int32 × Int32 × zz_Mem)) (g : Int32 → Int32 → Int32 → Int32 → zz_Mem → Option α) : Option α := match o with
  | some (a1, a2, a3, a4, M) => g a1 a2 a3 a4 M
  | none => none
theorem zz_b5E {α : Type} {o : Option (Int32 × Int32 × Int32 × Int32 × zz_Mem)} {g : Int32 → Int32 → Int32 → Int32 → zz_Mem → Option α} {r : α} (h : zz_b5 o g = some r) : ∃ a1 a2 a3 a4 M, o = some (a1, a2, a3, a4, M) ∧ g a1 a2 a3 a4 M = some r := by
  cases o with
  | none => cases h
  | some z =>
    obtain ⟨a1, a2, a3, a4, M⟩ := z
    exact ⟨a1, a2, a3, a4, M, rfl, h⟩
def zz_bs5 (o : Option (Sum (Int32 × zz_Mem) (Int32 × Int32 × Int32 × Int32 × zz_Mem))) (g : Int32 → Int32 → Int32 → Int32 → zz_Mem → Option (Int32 × zz_Mem)) : Option (Int32 × zz_Mem) := match o with
  | some (.inl z) => some z
  | some (.inr (a1, a2, a3, a4, M)) => g a1 a2 a3 a4 M
  | none => none
theorem zz_bs5E {o : Option (Sum (Int32 × zz_Mem) (Int32 × Int32 × Int32 × Int32 × zz_Mem))} {g : Int32 → Int32 → Int32 → Int32 → zz_Mem → Option (Int32 × zz_Mem)} {r : Int32} {Mf : zz_Mem} (h : zz_bs5 o g = some (r, Mf)) : ∃ z, o = some z ∧ (∀ r0 M0, z = .inl (r0, M0) → some (Value.int r) = some (Value.int r0) ∧ Mf = M0) ∧ (∀ a1 a2 a3 a4 M, z = .inr (a1, a2, a3, a4, M) → g a1 a2 a3 a4 M = some (r, Mf)) := by
  cases o with
  | none => cases h
  | some z =>
    refine ⟨z, rfl, ?_, ?_⟩
    · rintro r0 M0 rfl
      cases h
      exact ⟨rfl, rfl⟩
    · rintro a1 a2 a3 a4 M rfl
      exact h
def zz_b6 {α : Type} (o : Option (Int32 × Int32 × Int32 × Int32 × Int32 × zz_Mem)) (g : Int32 → Int32 → Int32 → Int32 → Int32 → zz_Mem → Option α) : Option α := match o with
  | some (a1, a2, a3, a4, a5, M) => g a1 a2 a3 a4 a5 M
  | none => none
theorem zz_b6E {α : Type} {o : Option (Int32 × Int32 × Int32 × Int32 × Int32 × zz_Mem)} {g : Int32 → Int32 → Int32 → Int32 → Int32 → zz_Mem → Option α} {r : α} (h : zz_b6 o g = some r) : ∃ a1 a2 a3 a4 a5 M, o = some (a1, a2, a3, a4, a5, M) ∧ g a1 a2 a3 a4 a5 M = some r := by
  cases o with
  | none => cases h
  | some z =>
    obtain ⟨a1, a2, a3, a4, a5, M⟩ := z
    exact ⟨a1, a2, a3, a4, a5, M, rfl, h⟩
def zz_bs6 (o : Option (Sum (Int32 × zz_Mem) (Int32 × Int32 × Int32 × Int32 × Int32 × zz_Mem))) (g : Int32 → Int32 → Int32 → Int32 → Int32 → zz_Mem → Option (Int32 × zz_Mem)) : Option (Int32 × zz_Mem) := match o with
  | some (.inl z) => some z
  | some (.inr (a1, a2, a3, a4, a5, M)) => g a1 a2 a3 a4 a5 M
  | none => none
theorem zz_bs6E {o : Option (Sum (Int32 × zz_Mem) (Int32 × Int32 × Int32 × Int32 × Int32 × zz_Mem))} {g : Int32 → Int32 → Int32 → Int32 → Int32 → zz_Mem → Option (Int32 × zz_Mem)} {r : Int32} {Mf : zz_Mem} (h : zz_bs6 o g = some (r, Mf)) : ∃ z, o = some z ∧ (∀ r0 M0, z = .inl (r0, M0) → some (Value.int r) = some (Value.int r0) ∧ Mf = M0) ∧ (∀ a1 a2 a3 a4 a5 M, z = .inr (a1, a2, a3, a4, a5, M) → g a1 a2 a3 a4 a5 M = some (r, Mf)) := by
  cases o with
  | none => cases h
  | some z =>
    refine ⟨z, rfl, ?_, ?_⟩
    · rintro r0 M0 rfl
      cases h
      exact ⟨rfl, rfl⟩
    · rintro a1 a2 a3 a4 a5 M rfl
      exact h
def zz_b7 {α : Type} (o : Option (Int32 × Int32 × Int32 × Int32 × Int32 × Int32 × zz_Mem)) (g : Int32 → Int32 → Int32 → Int32 → Int32 → Int32 → zz_Mem → Option α) : Option α := match o with
  | some (a1, a2, a3, a4, a5, a6, M) => g a1 a2 a3 a4 a5 a6 M
  | none => none
theorem zz_b7E {α : Type} {o : Option (Int32 × Int32 × Int32 × Int32 × Int32 × Int32 × zz_Mem)} {g : Int32 → Int32 → Int32 → Int32 → Int32 → Int32 → zz_Mem → Option α} {r : α} (h : zz_b7 o g = some r) : ∃ a1 a2 a3 a4 a5 a6 M, o = some (a1, a2, a3, a4, a5, a6, M) ∧ g a1 a2 a3 a4 a5 a6 M = some r := by
  cases o with
  | none => cases h
  | some z =>
    obtain ⟨a1, a2, a3, a4, a5, a6, M⟩ := z
    exact ⟨a1, a2, a3, a4, a5, a6, M, rfl, h⟩
def zz_bs7 (o : Option (Sum (Int32 × zz_Mem) (Int32 × Int32 × Int32 × Int32 × Int32 × Int32 × zz_Mem))) (g : Int32 → Int32 → Int32 → Int32 → Int32 → Int32 → zz_Mem → Option (Int32 × zz_Mem)) : Option (Int32 × zz_Mem) := match o with
  | some (.inl z) => some z
  | some (.inr (a1, a2, a3, a4, a5, a6, M)) => g a1 a2 a3 a4 a5 a6 M
  | none => none
theorem zz_bs7E {o : Option (Sum (Int32 × zz_Mem) (Int32 × Int32 × Int32 × Int32 × Int32 × Int32 × zz_Mem))} {g : Int32 → Int32 → Int32 → Int32 → Int32 → Int32 → zz_Mem → Option (Int32 × zz_Mem)} {r : Int32} {Mf : zz_Mem} (h : zz_bs7 o g = some (r, Mf)) : ∃ z, o = some z ∧ (∀ r0 M0, z = .inl (r0, M0) → some (Value.int r) = some (Value.int r0) ∧ Mf = M0) ∧ (∀ a1 a2 a3 a4 a5 a6 M, z = .inr (a1, a2, a3, a4, a5, a6, M) → g a1 a2 a3 a4 a5 a6 M = some (r, Mf)) := by
  cases o with
  | none => cases h
  | some z =>
    refine ⟨z, rfl, ?_, ?_⟩
    · rintro r0 M0 rfl
      cases h
      exact ⟨rfl, rfl⟩
    · rintro a1 a2 a3 a4 a5 a6 M rfl
      exact h
def zz_b8 {α : Type} (o : Option (Int32 × Int32 × Int32 × Int32 × Int32 × Int32 × Int32 × zz_Mem)) (g : Int32 → Int32 → Int32 → Int32 → Int32 → Int32 → Int32 → zz_Mem → Option α) : Option α := match o with
  | some (a1, a2, a3, a4, a5, a6, a7, M) => g a1 a2 a3 a4 a5 a6 a7 M
  | none => none
theorem zz_b8E {α : Type} {o : Option (Int32 × Int32 × Int32 × Int32 × Int32 × Int32 × Int32 × zz_Mem)} {g : Int32 → Int32 → Int32 → Int32 → Int32 → Int32 → Int32 → zz_Mem → Option α} {r : α} (h : zz_b8 o g = some r) : ∃ a1 a2 a3 a4 a5 a6 a7 M, o = some (a1, a2, a3, a4, a5, a6, a7, M) ∧ g a1 a2 a3 a4 a5 a6 a7 M = some r := by
  cases o with
  | none => cases h
  | some z =>
    obtain ⟨a1, a2, a3, a4, a5, a6, a7, M⟩ := z
    exact ⟨a1, a2, a3, a4, a5, a6, a7, M, rfl, h⟩
def zz_bs8 (o : Option (Sum (Int32 × zz_Mem) (Int32 × Int32 × Int32 × Int32 × Int32 × Int32 × Int32 × zz_Mem))) (g : Int32 → Int32 → Int32 → Int32 → Int32 → Int32 → Int32 → zz_Mem → Option (Int32 × zz_Mem)) : Option (Int32 × zz_Mem) := match o with
  | some (.inl z) => some z
  | some (.inr (a1, a2, a3, a4, a5, a6, a7, M)) => g a1 a2 a3 a4 a5 a6 a7 M
  | none => none
theorem zz_bs8E {o : Option (Sum (Int32 × zz_Mem) (Int32 × Int32 × Int32 × Int32 × Int32 × Int32 × Int32 × zz_Mem))} {g : Int32 → Int32 → Int32 → Int32 → Int32 → Int32 → Int32 → zz_Mem → Option (Int32 × zz_Mem)} {r : Int32} {Mf : zz_Mem} (h : zz_bs8 o g = some (r, Mf)) : ∃ z, o = some z ∧ (∀ r0 M0, z = .inl (r0, M0) → some (Value.int r) = some (Value.int r0) ∧ Mf = M0) ∧ (∀ a1 a2 a3 a4 a5 a6 a7 M, z = .inr (a1, a2, a3, a4, a5, a6, a7, M) → g a1 a2 a3 a4 a5 a6 a7 M = some (r, Mf)) := by
  cases o with
  | none => cases h
  | some z =>
    refine ⟨z, rfl, ?_, ?_⟩
    · rintro r0 M0 rfl
      cases h
      exact ⟨rfl, rfl⟩
    · rintro a1 a2 a3 a4 a5 a6 a7 M rfl
      exact h
