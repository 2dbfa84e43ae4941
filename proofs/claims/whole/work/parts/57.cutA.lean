/-! THE BEST CUT: the search that both do, cuts in rising order -/
def pu (c : Nat → Nat) (s t : Nat) : Nat → Nat := fun x => if x = s then t else c x
def pb_ff {β : Type} (g : Nat → β → β) : Nat → Nat → β → β
  | 0, _, b => b
  | d + 1, i, b => pb_ff g d (i + 1) (g i b)
/-- the first take of a scene among d ones from k on, by one more; 0: none -/
def pb_nx (a : pv_A) (s : Nat) : Nat → Nat → Nat
  | 0, _ => 0
  | d + 1, k => if a 7 k = s then k + 1 else pb_nx a s d (k + 1)
abbrev pb_B : Type := Nat × (Nat → Nat)
def pb (a : pv_A) : Nat → Nat → (Nat → Nat) → pb_B → pb_B
  | 0, _, c, b => if pa_cost a c (a 0 0) < b.1 then (pa_cost a c (a 0 0), c) else b
  | r + 1, s, c, b => if pb_nx a s (a 0 2) 0 = 0 then pb a r (s + 1) (pu c s 0) b else pb_ff (fun t b => if a 7 t = s then pb a r (s + 1) (pu c s (t + 1)) b else b) (a 0 2) 0 b
theorem pu_at (c : Nat → Nat) (s t : Nat) : pu c s t s = t := by simp [pu]
theorem pu_ne (c : Nat → Nat) {s x : Nat} (t : Nat) (h : x ≠ s) : pu c s t x = c x := by simp [pu, h]
theorem pb_nx_0 {a : pv_A} {s : Nat} : ∀ {d k : Nat}, pb_nx a s d k = 0 → ∀ t, k ≤ t → t < k + d → ¬ a 7 t = s
  | 0, k, _, t, h1, h2 => absurd h2 (by omega)
  | d + 1, k, h, t, h1, h2 => by
    rw [pb_nx] at h
    by_cases e : a 7 k = s
    · rw [if_pos e] at h; omega
    · rw [if_neg e] at h
      by_cases q : t = k
      · rw [q]; exact e
      · exact pb_nx_0 h t (by omega) (by omega)
theorem pb_nx_s {a : pv_A} {s : Nat} : ∀ {d k u : Nat}, pb_nx a s d k = u → u ≠ 0 → k < u ∧ u ≤ k + d ∧ a 7 (u - 1) = s ∧ ∀ t, k ≤ t → t < u - 1 → ¬ a 7 t = s
  | 0, k, u, h, h0 => absurd h.symm h0
  | d + 1, k, u, h, h0 => by
    rw [pb_nx] at h
    by_cases e : a 7 k = s
    · rw [if_pos e] at h
      subst h
      exact ⟨by omega, by omega, by rw [Nat.add_sub_cancel]; exact e, fun t h1 h2 => absurd h2 (by omega)⟩
    · rw [if_neg e] at h
      obtain ⟨h1, h2, h3, h4⟩ := pb_nx_s h h0
      refine ⟨by omega, by omega, h3, fun t q1 q2 => ?_⟩
      by_cases q : t = k
      · rw [q]; exact e
      · exact h4 t (by omega) q2
theorem pa_row_congr {a : pv_A} {c c' : Nat → Nat} {s : Nat} (h : ∀ x, x ≤ s → c x = c' x) : pa_row a c s = pa_row a c' s := by
  unfold pa_row
  rw [h s (by omega)]
  congr 1
  refine zz_S_congr (fun o ho => ?_)
  unfold pa_prow
  rw [h s (by omega), h o (by omega)]
theorem pa_cost_congr {a : pv_A} {c c' : Nat → Nat} {n : Nat} (h : ∀ x, x < n → c x = c' x) : pa_cost a c n = pa_cost a c' n := zz_S_congr (fun s hs => pa_row_congr (fun x hx => h x (by omega)))
theorem pa_cost_pu (a : pv_A) (c : Nat → Nat) (s t : Nat) : pa_cost a (pu c s t) (s + 1) = pa_cost a c s + pa_row a (pu c s t) s := by
  have e : pa_cost a (pu c s t) (s + 1) = pa_cost a (pu c s t) s + pa_row a (pu c s t) s := rfl
  rw [e, pa_cost_congr (c' := c) (fun x hx => pu_ne c t (by omega))]
theorem pa_cost_le {a : pv_A} (hw : pv_W a) {c : Nat → Nat} {n : Nat} (hn : n ≤ 6) (hc : ∀ x, x < n → c x ≤ a 0 2) : pa_cost a c n ≤ 2064 := by
  have h := zz_S_le (g := pa_row a c) (c := 344) (n := n) (fun s hs => by
    have h1 := zz_S_le (g := pa_prow a c s) (c := 54) (n := s) (fun o ho => by
      have := pa_no_le hw (c s - 1) (c o - 1)
      unfold pa_prow
      split
      · omega
      · split
        · omega
        · exact this)
    unfold pa_row
    split
    · omega
    · have := hw.2.2.2.1 (c s - 1) (by have := hc s hs; omega)
      omega)
  unfold pa_cost
  omega
theorem pb_ff_id {β : Type} {g : Nat → β → β} {b : β} (h : ∀ i, g i b = b) : ∀ d i, pb_ff g d i b = b
  | 0, _ => rfl
  | d + 1, i => by rw [pb_ff, h, pb_ff_id h]
theorem pb_prune {a : pv_A} : ∀ (r s : Nat) (c : Nat → Nat) (b : pb_B), s + r = a 0 0 → b.1 ≤ pa_cost a c s → pb a r s c b = b := by
  intro r
  induction r with
  | zero =>
    intro s c b h1 h2
    have e : s = a 0 0 := by omega
    subst e
    rw [pb, if_neg (by omega)]
  | succ r ih =>
    intro s c b h1 h2
    have key : ∀ t, pb a r (s + 1) (pu c s t) b = b := fun t => ih (s + 1) (pu c s t) b (by omega) (by rw [pa_cost_pu]; omega)
    rw [pb]
    split
    · exact key 0
    · refine pb_ff_id (fun t => ?_) _ _
      split
      · exact key _
      · rfl
def pb_q (a : pv_A) (b b' : pb_B) : Prop := b.1 = b'.1 ∧ (b.1 < 1000000 → ∀ x, x < a 0 0 → b.2 x = b'.2 x)
theorem pb_congr {a : pv_A} : ∀ (r s : Nat) (c c' : Nat → Nat) (b b' : pb_B), s + r = a 0 0 → (∀ x, x < s → c x = c' x) → pb_q a b b' → pb_q a (pb a r s c b) (pb a r s c' b') := by
  intro r
  induction r with
  | zero =>
    intro s c c' b b' h1 h2 h3
    have e : s = a 0 0 := by omega
    subst e
    rw [pb, pb, pa_cost_congr h2, h3.1]
    split
    · exact ⟨rfl, fun _ => h2⟩
    · exact h3
  | succ r ih =>
    intro s c c' b b' h1 h2 h3
    have key : ∀ t b b', pb_q a b b' → pb_q a (pb a r (s + 1) (pu c s t) b) (pb a r (s + 1) (pu c' s t) b') := fun t b b' hq => ih (s + 1) _ _ b b' (by omega) (fun x hx => by
      by_cases e : x = s
      · subst e; rw [pu_at, pu_at]
      · rw [pu_ne _ _ e, pu_ne _ _ e]; exact h2 x (by omega)) hq
    rw [pb, pb]
    split
    · exact key 0 b b' h3
    · have ffq : ∀ (d i : Nat) (b b' : pb_B), pb_q a b b' → pb_q a (pb_ff (fun t b => if a 7 t = s then pb a r (s + 1) (pu c s (t + 1)) b else b) d i b) (pb_ff (fun t b => if a 7 t = s then pb a r (s + 1) (pu c' s (t + 1)) b else b) d i b') := by
        intro d
        induction d with
        | zero => intro i b b' hq; exact hq
        | succ d ihd =>
          intro i b b' hq
          rw [pb_ff, pb_ff]
          refine ihd (i + 1) _ _ ?_
          split
          · exact key _ b b' hq
          · exact hq
      exact ffq _ _ b b' h3
theorem pb_lt {a : pv_A} (hw : pv_W a) : ∀ (r s : Nat) (c : Nat → Nat) (b : pb_B), s + r = a 0 0 → (∀ x, x < s → c x ≤ a 0 2) → (pb a r s c b).1 < 1000000 := by
  intro r
  induction r with
  | zero =>
    intro s c b h1 h2
    have e : s = a 0 0 := by omega
    subst e
    have hb := hw.1
    have := pa_cost_le hw (c := c) (n := a 0 0) (by omega) h2
    rw [pb]
    split
    · show pa_cost a c (a 0 0) < _
      omega
    · omega
  | succ r ih =>
    intro s c b h1 h2
    have key : ∀ t b, t ≤ a 0 2 → (pb a r (s + 1) (pu c s t) b).1 < 1000000 := fun t b ht => ih (s + 1) _ b (by omega) (fun x hx => by
      by_cases e : x = s
      · subst e; rw [pu_at]; exact ht
      · rw [pu_ne _ _ e]; exact h2 x (by omega))
    rw [pb]
    split
    · exact key 0 b (by omega)
    · rename_i hne
      have ffq : ∀ (d i : Nat) (b : pb_B), i + d = a 0 2 → (b.1 < 1000000 ∨ ∃ t, i ≤ t ∧ t < i + d ∧ a 7 t = s) → (pb_ff (fun t b => if a 7 t = s then pb a r (s + 1) (pu c s (t + 1)) b else b) d i b).1 < 1000000 := by
        intro d
        induction d with
        | zero =>
          intro i b _ hq
          rcases hq with hq | ⟨t, h3, h4, -⟩
          · exact hq
          · omega
        | succ d ihd =>
          intro i b hi hq
          rw [pb_ff]
          refine ihd (i + 1) _ (by omega) ?_
          by_cases e : a 7 i = s
          · rw [if_pos e]
            exact Or.inl (key _ b (by omega))
          · rw [if_neg e]
            rcases hq with hq | ⟨t, h3, h4, h5⟩
            · exact Or.inl hq
            · refine Or.inr ⟨t, ?_, by omega, h5⟩
              by_cases q : t = i
              · subst q; exact absurd h5 e
              · omega
      obtain ⟨u, hu⟩ : ∃ u, pb_nx a s (a 0 2) 0 = u := ⟨_, rfl⟩
      have h5 := pb_nx_s hu (by rw [← hu]; exact hne)
      exact ffq _ _ b (by omega) (Or.inr ⟨u - 1, by omega, by omega, h5.2.2.1⟩)
