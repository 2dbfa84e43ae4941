/-! the start -/
theorem pv_zero : pv_Rel zz_MC0 zz_MR0 := by
  obtain ⟨a, ha⟩ : ∃ a : pv_A, ∀ k i, a k i = 0 := ⟨fun _ _ => 0, fun _ _ => rfl⟩
  have h0 := ha 0 0
  have h1 := ha 0 1
  have h2 := ha 0 2
  have no : ∀ k i, pv_r a k i → k = 0 ∧ i < 3 := fun k i h => by
    unfold pv_r at h
    omega
  refine ⟨⟨a, ⟨⟨by omega, by omega, by omega⟩, fun s hs => absurd hs (by omega), fun s hs => absurd hs (by omega), fun s hs => absurd hs (by omega), fun s hs => absurd hs (by omega), fun s t hs => absurd hs (by omega), fun s hs => absurd hs (by omega)⟩, ?_, ⟨?_, ?_⟩, ?_⟩, Or.inl ⟨rfl, rfl⟩⟩
  · intro k i h
    obtain ⟨rfl, hi⟩ := no k i h
    rw [ha]
    rfl
  · intro s _ hs
    show zz_m1 6 s = -1
    unfold zz_m1
    rw [if_pos hs]
  · intro s hs _
    show zz_m1 96 s = -1
    unfold zz_m1
    rw [if_pos hs]
  · intro k i h
    obtain ⟨rfl, hi⟩ := no k i h
    rw [ha]
    show (if i < 3 then (0 : Int32) else 0) = 0
    rw [if_pos hi]
theorem pv_steps : zz_Step pv_Rel := ⟨st_scene, st_shift, st_thing, st_loud, st_take, st_show, st_like, st_of, st_told, st_thingOf, st_ahead, st_clash, st_noise, st_cost, st_cut, st_choose, st_adopt, st_chosen, st_span, st_twin, st_doubles, st_reshoot, st_clashes, st_many, st_keep, st_back⟩
