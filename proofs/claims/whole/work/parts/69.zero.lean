/-! the start -/
theorem pv_zero : pv_Rel zz_MC0 zz_MR0 := by
  refine ⟨⟨fun _ _ => 0, ⟨⟨by omega, by omega, by omega⟩, fun s hs => absurd hs (by omega), fun s hs => absurd hs (by omega), fun s hs => absurd hs (by omega), fun s hs => absurd hs (by omega), fun s t hs => absurd hs (by omega), fun s hs => absurd hs (by omega)⟩, ?_, ⟨?_, ?_⟩, ?_⟩, Or.inl ⟨rfl, rfl⟩⟩
  · intro k i h
    rcases h with ⟨rfl, h⟩ | ⟨_, h⟩ | ⟨_, h⟩ | ⟨_, h⟩ | ⟨_, h⟩
    · rfl
    all_goals exact absurd h (by omega)
  · intro s _ hs
    show zz_m1 6 s = -1
    unfold zz_m1
    rw [if_pos hs]
  · intro s hs _
    show zz_m1 96 s = -1
    unfold zz_m1
    rw [if_pos hs]
  · intro k i h
    rcases h with ⟨rfl, h⟩ | ⟨_, h⟩ | ⟨_, h⟩ | ⟨_, h⟩ | ⟨_, h⟩
    · show (if i < 3 then (0 : Int32) else 0) = 0
      rw [if_pos h]
    all_goals exact absurd h (by omega)
theorem pv_steps : zz_Step pv_Rel := ⟨st_scene, st_shift, st_thing, st_loud, st_take, st_show, st_like, st_of, st_told, st_thingOf, st_ahead, st_clash, st_noise, st_cost, st_cut, st_choose, st_adopt, st_chosen, st_span, st_twin, st_doubles, st_reshoot, st_clashes, st_many, st_keep, st_back⟩
