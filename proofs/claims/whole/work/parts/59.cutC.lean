/-! the reference's search -/
def pb_ct (a : pv_A) (s : Nat) : Nat → Nat → Nat
  | 0, _ => 0
  | d + 1, k => (if a 7 k = s then 1 else 0) + pb_ct a s d (k + 1)
theorem pb_ct_S (a : pv_A) (s : Nat) : ∀ d k, zz_S (fun t => if a 7 t = s then 1 else 0) (k + d) = zz_S (fun t => if a 7 t = s then 1 else 0) k + pb_ct a s d k
  | 0, k => rfl
  | d + 1, k => by
    rw [show k + (d + 1) = (k + 1) + d by omega, pb_ct_S a s d (k + 1), zz_S, pb_ct]
    omega
theorem pb_ct_nx {a : pv_A} {s : Nat} : ∀ {d k u : Nat}, pb_nx a s d k = u → u ≠ 0 → pb_ct a s d k = 1 + pb_ct a s (k + d - u) u
  | 0, k, u, h, h0 => absurd h.symm h0
  | d + 1, k, u, h, h0 => by
    rw [pb_nx] at h
    by_cases e : a 7 k = s
    · rw [if_pos e] at h
      subst h
      rw [pb_ct, if_pos e, show k + (d + 1) - (k + 1) = d by omega]
    · rw [if_neg e] at h
      rw [pb_ct, if_neg e, pb_ct_nx h h0, show k + 1 + d - u = k + (d + 1) - u by omega]
      omega
theorem pb_ff_0 {a : pv_A} {s : Nat} {β : Type} {h : Nat → β → β} : ∀ {d k : Nat} {b : β}, pb_nx a s d k = 0 → pb_ff (fun t b => if a 7 t = s then h t b else b) d k b = b
  | 0, _, _, _ => rfl
  | d + 1, k, b, e => by
    rw [pb_nx] at e
    by_cases q : a 7 k = s
    · rw [if_pos q] at e; omega
    · rw [if_neg q] at e
      rw [pb_ff, if_neg q, pb_ff_0 e]
theorem pb_ff_s {a : pv_A} {s : Nat} {β : Type} {h : Nat → β → β} : ∀ {d k u : Nat} {b : β}, pb_nx a s d k = u → u ≠ 0 → pb_ff (fun t b => if a 7 t = s then h t b else b) d k b = pb_ff (fun t b => if a 7 t = s then h t b else b) (k + d - u) u (h (u - 1) b)
  | 0, k, u, b, e, e0 => absurd e.symm e0
  | d + 1, k, u, b, e, e0 => by
    rw [pb_nx] at e
    by_cases q : a 7 k = s
    · rw [if_pos q] at e
      subst e
      rw [pb_ff, if_pos q, show k + (d + 1) - (k + 1) = d by omega, Nat.add_sub_cancel]
    · rw [if_neg q] at e
      rw [pb_ff, if_neg q, pb_ff_s e e0, show k + 1 + d - u = k + (d + 1) - u by omega]
theorem r_next4 {M : zz_Mem} {a : pv_A} (h : pv_St (pv_rn M) a) (hw : pv_W a) {s : Nat} (hs : s < a 0 0) (z : Int32) : ∀ (d k n : Nat), k + d = a 0 2 → d < n → f_X5_nextTake_4 (nI s) z n (nI k) M = if pb_nx a s d k = 0 then some (.inr (nI (a 0 2), M)) else some (.inl (nI (pb_nx a s d k) - 1, M)) := by
  have hb := hw.1
  intro d
  induction d with
  | zero =>
    intro k n h1 h2
    obtain ⟨n, rfl⟩ : ∃ j, n = j + 1 := ⟨n - 1, by omega⟩
    have e : k = a 0 2 := by omega
    subst e
    rw [f_X5_nextTake_4, r_n2 h, if_pos (Int32.le_refl _), pb_nx, if_pos rfl]
  | succ d ih =>
    intro k n h1 h2
    obtain ⟨n, rfl⟩ : ∃ j, n = j + 1 := ⟨n - 1, by omega⟩
    have hk := hw.2.2.2.1 k (by omega)
    rw [f_X5_nextTake_4, r_n2 h, if_neg (nI_ge (by omega) (by omega)), if_pos (pn_in (by omega) (by omega)), nI_clamp (by omega), r_sce h (by omega), pb_nx]
    by_cases e : a 7 k = s
    · rw [if_pos (by rw [e]), if_pos e, if_neg (by omega), nI_pred]
    · rw [if_neg (fun q => e (by rwa [nI_eq (by omega) (by omega)] at q)), if_neg e, pn_1]
      exact ih (k + 1) n (by omega) (by omega)
theorem r_next {M : zz_Mem} {a : pv_A} (h : pv_St (pv_rn M) a) (hw : pv_W a) {s k : Nat} (hs : s < a 0 0) {z : Int32} (hz : z + 1 = nI k) (hk : k ≤ a 0 2) : f_X5_nextTake (nI s) z M = some (nI (pb_nx a s (a 0 2 - k) k) - 1, M) := by
  have hb := hw.1
  unfold f_X5_nextTake
  rw [hz, r_next4 h hw hs z (a 0 2 - k) k 5000 (by omega) (by omega)]
  by_cases e : pb_nx a s (a 0 2 - k) k = 0
  · rw [if_pos e, e]
    rfl
  · rw [if_neg e]
    rfl
theorem r_next0 {M : zz_Mem} {a : pv_A} (h : pv_St (pv_rn M) a) (hw : pv_W a) {s : Nat} (hs : s < a 0 0) : f_X5_nextTake (nI s) (-1) M = some (nI (pb_nx a s (a 0 2) 0) - 1, M) := r_next h hw hs (k := 0) (by decide) (by omega)
theorem r107_ind (x1 x2 : Int32) : ∀ (n : Nat) (v : Int32) (M : zz_Mem), f_X5_findCut_107 x1 x2 n v M = f_X5_findCut_107 0 0 n v M
  | 0, _, _ => rfl
  | n + 1, v, M => by
    rw [f_X5_findCut_107, f_X5_findCut_107]
    simp only [r107_ind x1 x2 n]
def rb_inv (a : pv_A) (M : zz_Mem) (c : Nat → Nat) (b : pb_B) : Prop := pv_St (pv_rn M) a ∧ (∀ i j, i < a 0 2 → j < a 0 2 → M 15 (16 * i + j) = nI (pa_no a i j)) ∧ (∀ x, x < a 0 0 → M 13 x = nI (c x) - 1 ∧ c x ≤ a 0 2) ∧ ((b.1 = 1000000 ∧ M 0 19 = -1) ∨ (b.1 < 1000000 ∧ M 0 19 = nI b.1 ∧ ∀ x, x < a 0 0 → M 14 x = nI (b.2 x) - 1))
def rb_same (M M' : zz_Mem) : Prop := (∀ k, 1 ≤ k → k ≤ 12 → M' k = M k) ∧ ∀ j, j ≤ 12 → M' 0 j = M 0 j
theorem rb_same.rf (M : zz_Mem) : rb_same M M := ⟨fun _ _ _ => rfl, fun _ _ => rfl⟩
theorem rb_same.tr {M M' M'' : zz_Mem} (h : rb_same M M') (h' : rb_same M' M'') : rb_same M M'' := ⟨fun k h1 h2 => (h'.1 k h1 h2).trans (h.1 k h1 h2), fun j hj => (h'.2 j hj).trans (h.2 j hj)⟩
theorem zz_up_id (M : zz_Mem) (k i : Nat) (x : Int32) (h : M k i = x) : zz_up M k i x = M := by
  funext q j
  by_cases e : q = k
  · subst e
    by_cases e2 : j = i
    · subst e2; rw [zz_up_at, h]
    · rw [zz_up_ni _ _ _ e2]
  · rw [zz_up_ne _ _ _ e]
theorem rb_13 {a : pv_A} {M : zz_Mem} {c : Nat → Nat} {b : pb_B} (h : rb_inv a M c b) {s u : Nat} (hu : u ≤ a 0 2) : rb_inv a (zz_up M 13 s (nI u - 1)) (pu c s u) b ∧ rb_same M (zz_up M 13 s (nI u - 1)) := by
  have hs : rb_same M (zz_up M 13 s (nI u - 1)) := ⟨fun k h1 h2 => zz_up_ne _ _ _ (by omega), fun j hj => by rw [zz_up_ne _ _ _ (by omega)]⟩
  refine ⟨⟨?_, fun i j h1 h2 => ?_, fun x hx => ?_, ?_⟩, hs⟩
  · rw [(pv_sR hs.1 hs.2).1]
    exact h.1
  · rw [zz_up_ne _ _ _ (by omega)]; exact h.2.1 i j h1 h2
  · by_cases e : x = s
    · subst e
      rw [zz_up_at, pu_at]
      exact ⟨rfl, hu⟩
    · rw [zz_up_ni _ _ _ e, pu_ne _ _ e]
      exact h.2.2.1 x hx
  · rw [zz_up_ne _ _ _ (by omega), zz_up_ne _ _ _ (by omega)]
    exact h.2.2.2
theorem r_74 {M : zz_Mem} {a : pv_A} (h : pv_St (pv_rn M) a) (hw : pv_W a) (x1 x2 : Int32) : f_X5_findCut_74 x1 x2 5000 0 M = some (nI (a 0 0), zz_set M 14 (fun x => if x < a 0 0 then M 13 x else M 14 x)) := by
  have hb := hw.1
  have key := zz_iter (fun n (x : Int32 × zz_Mem) => f_X5_findCut_74 x1 x2 n x.1 x.2) (fun i => (nI i, zz_set M 14 (fun x => if x < i then M 13 x else M 14 x))) (a 0 0) (some (nI (a 0 0), zz_set M 14 (fun x => if x < a 0 0 then M 13 x else M 14 x))) ?_ ?_ 5000 (by omega)
  · have e : (fun x => if x < 0 then M 13 x else M 14 x) = M 14 := by
      funext x
      rw [if_neg (by omega)]
    dsimp only at key
    rw [e, zz_set_id M 14 _ rfl, nI_0] at key
    exact key
  · intro n i hi
    dsimp only
    rw [f_X5_findCut_74, zz_set_ne _ _ (show 0 ≠ 14 by omega), r_n0 h, if_neg (nI_ge hi (by omega)), if_pos (pn_in (by omega) (by omega)), nI_clamp (by omega), zz_up_set, zz_set_ne _ _ (show 13 ≠ 14 by omega), pn_1]
    congr 2
    funext x
    unfold upd
    by_cases q : x = i
    · subst q
      rw [if_pos rfl, if_pos (by omega)]
    · rw [if_neg q]
      dsimp only
      by_cases q2 : x < i
      · rw [if_pos q2, if_pos (by omega)]
      · rw [if_neg q2, if_neg (by omega)]
  · intro n
    dsimp only
    rw [f_X5_findCut_74, zz_set_ne _ _ (show 0 ≠ 14 by omega), r_n0 h, if_pos (Int32.le_refl _)]
def rc_go (n : Nat) (o : Option (Int32 × zz_Mem)) : Option (Int32 × zz_Mem) := zz_b2 o (fun w M35 => (if w < 0 then f_X5_findCut_39 n 0 M35 else (if zz_in w 6 then zz_b2 (f_X5_nextTake w (M35 13 w.toNatClampNeg) M35) (fun r41 M40 => f_X5_findCut_39 n 1 (zz_up M40 13 w.toNatClampNeg r41)) else none)))
def rc_at (a : pv_A) (n s : Nat) (M : zz_Mem) : Option (Int32 × zz_Mem) := rc_go n (f_X5_findCut_107 0 0 (5000 - (a 0 0 - s)) (nI s - 1) M)
theorem r_upd {a : pv_A} (hw : pv_W a) {M : zz_Mem} {c : Nat → Nat} {b : pb_B} (h : rb_inv a M c b) (hlt : pa_cost a c (a 0 0) < b.1) (hc : pa_cost a c (a 0 0) ≤ 2064) (x1 x2 : Int32) : ∃ M', f_X5_findCut_74 x1 x2 5000 0 (zz_up M 0 19 (nI (pa_cost a c (a 0 0)))) = some (nI (a 0 0), M') ∧ rb_inv a M' c (pa_cost a c (a 0 0), c) ∧ rb_same M M' := by
  have hs0 : rb_same M (zz_up M 0 19 (nI (pa_cost a c (a 0 0)))) := ⟨fun k h1 h2 => zz_up_ne _ _ _ (by omega), fun j hj => zz_up_ni _ _ _ (by omega)⟩
  have h0 : pv_St (pv_rn (zz_up M 0 19 (nI (pa_cost a c (a 0 0))))) a := by rw [(pv_sR hs0.1 hs0.2).1]; exact h.1
  have hs1 : rb_same (zz_up M 0 19 (nI (pa_cost a c (a 0 0)))) (zz_set (zz_up M 0 19 (nI (pa_cost a c (a 0 0)))) 14 (fun x => if x < a 0 0 then (zz_up M 0 19 (nI (pa_cost a c (a 0 0)))) 13 x else (zz_up M 0 19 (nI (pa_cost a c (a 0 0)))) 14 x)) := ⟨fun k h1 h2 => zz_set_ne _ _ (by omega), fun j hj => by rw [zz_set_ne _ _ (by omega)]⟩
  refine ⟨_, r_74 h0 hw x1 x2, ⟨?_, fun i j h1 h2 => ?_, fun x hx => ?_, Or.inr ⟨?_, ?_, fun x hx => ?_⟩⟩, hs0.tr hs1⟩
  · rw [(pv_sR (hs0.tr hs1).1 (hs0.tr hs1).2).1]
    exact h.1
  · rw [zz_set_ne _ _ (by omega), zz_up_ne _ _ _ (by omega)]; exact h.2.1 i j h1 h2
  · rw [zz_set_ne _ _ (by omega), zz_up_ne _ _ _ (by omega)]; exact h.2.2.1 x hx
  · show pa_cost a c (a 0 0) < _
    omega
  · rw [zz_set_ne _ _ (by omega), zz_up_at]
  · rw [zz_set_self]
    dsimp only
    rw [if_pos hx, zz_up_ne _ _ _ (by omega)]
    exact (h.2.2.1 x hx).1
