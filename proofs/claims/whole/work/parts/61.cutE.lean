def pb_R (a : pv_A) : pb_B := pb a (a 0 0) 0 (fun _ => 0) (1000000, fun _ => 0)
theorem r_first {M : zz_Mem} {a : pv_A} (h : pv_St (pv_rn M) a) (hw : pv_W a) : f_X5_findCut_6 5000 0 M = some (nI (a 0 0), zz_set M 13 (fun x => if x < a 0 0 then nI (pb_nx a x (a 0 2) 0) - 1 else M 13 x)) := by
  have hb := hw.1
  have hh : ∀ g, pv_St (pv_rn (zz_set M 13 g)) a := fun g => by
    rw [(pv_sR (M := M) (M' := zz_set M 13 g) (fun k h1 h2 => zz_set_ne _ _ (by omega)) (fun j hj => by rw [zz_set_ne _ _ (by omega)])).1]
    exact h
  have key := zz_iter (fun n (x : Int32 × zz_Mem) => f_X5_findCut_6 n x.1 x.2) (fun i => (nI i, zz_set M 13 (fun x => if x < i then nI (pb_nx a x (a 0 2) 0) - 1 else M 13 x))) (a 0 0) (some (nI (a 0 0), zz_set M 13 (fun x => if x < a 0 0 then nI (pb_nx a x (a 0 2) 0) - 1 else M 13 x))) ?_ ?_ 5000 (by omega)
  · have e : (fun x => if x < 0 then nI (pb_nx a x (a 0 2) 0) - 1 else M 13 x) = M 13 := by
      funext x
      rw [if_neg (by omega)]
    dsimp only at key
    rw [e, zz_set_id M 13 _ rfl, nI_0] at key
    exact key
  · intro n i hi
    dsimp only
    rw [f_X5_findCut_6, r_n0 (hh _), if_neg (nI_ge hi (by omega)), r_next0 (hh _) hw hi, zb2, if_pos (pn_in (by omega) (by omega)), nI_clamp (by omega), zz_up_set, pn_1]
    congr 2
    funext x
    unfold upd
    by_cases q : x = i
    · subst q
      rw [if_pos rfl, if_pos (by omega)]
    · rw [if_neg q]
      dsimp only
      by_cases q2 : x < i
      · rw [if_pos q2, if_pos (by omega)]
      · rw [if_neg q2, if_neg (by omega)]
  · intro n
    dsimp only
    rw [f_X5_findCut_6, r_n0 (hh _), if_pos (Int32.le_refl _)]
theorem pb_nx_le (a : pv_A) (s : Nat) : pb_nx a s (a 0 2) 0 ≤ a 0 2 := by
  by_cases h : pb_nx a s (a 0 2) 0 = 0
  · omega
  · have := (pb_nx_s (a := a) (s := s) (d := a 0 2) (k := 0) rfl h).2.1
    omega
theorem r_find {M : zz_Mem} {a : pv_A} (h : pv_St (pv_rn M) a) (hw : pv_W a) : ∃ M', f_X5_findCut M = some M' ∧ rb_same M M' ∧ M' 0 19 = nI (pb_R a).1 ∧ ∀ x, x < a 0 0 → M' 14 x = nI ((pb_R a).2 x) - 1 := by
  have hb := hw.1
  have hs0 : rb_same M (zz_set M 15 (pr_row a (M 15) (a 0 2) 0)) := ⟨fun k h1 h2 => zz_set_ne _ _ (by omega), fun j hj => by rw [zz_set_ne _ _ (by omega)]⟩
  obtain ⟨N0, hN0⟩ : ∃ N, N = zz_set M 15 (pr_row a (M 15) (a 0 2) 0) := ⟨_, rfl⟩
  rw [← hN0] at hs0
  have h0 : pv_St (pv_rn N0) a := by rw [(pv_sR hs0.1 hs0.2).1]; exact h
  obtain ⟨N1, hN1⟩ : ∃ N, N = zz_set N0 13 (fun x => if x < a 0 0 then nI (pb_nx a x (a 0 2) 0) - 1 else N0 13 x) := ⟨_, rfl⟩
  have hs1 : rb_same N0 (zz_up N1 0 19 (-1)) := ⟨fun k h1 h2 => by rw [zz_up_ne _ _ _ (by omega), hN1, zz_set_ne _ _ (by omega)], fun j hj => by rw [zz_up_ni _ _ _ (by omega), hN1, zz_set_ne _ _ (by omega)]⟩
  have hi : rb_inv a (zz_up N1 0 19 (-1)) (fun x => pb_nx a x (a 0 2) 0) (1000000, fun _ => 0) := by
    refine ⟨?_, fun i j h1 h2 => ?_, fun x hx => ⟨?_, pb_nx_le a x⟩, Or.inl ⟨rfl, zz_up_at _ _ _ _⟩⟩
    · rw [(pv_sR hs1.1 hs1.2).1]; exact h0
    · rw [zz_up_ne _ _ _ (by omega), hN1, zz_set_ne _ _ (by omega), hN0, zz_set_self]
      exact pr_row_at a _ h1 h2 hw
    · rw [zz_up_ne _ _ _ (by omega), hN1, zz_set_self]
      dsimp only
      rw [if_pos hx]
  obtain ⟨K, M1, k1, e1, i1, s1⟩ := r_cutP hw (a 0 0) 0 (by omega) _ _ _ hi (fun x _ _ => rfl)
  have hK : K ≤ 4096 := Nat.le_trans k1 (Nat.le_trans (Nat.pow_le_pow_right (by omega) hb.1) (by decide))
  obtain ⟨n, hn⟩ : ∃ n, 5000 - K = n + 1 := ⟨5000 - K - 1, by omega⟩
  have e2 : f_X5_findCut_39 5000 1 (zz_up N1 0 19 (-1)) = some (0, M1) := by
    have e3 := e1 (5000 - K)
    rw [show 5000 - K + K = 5000 by omega] at e3
    rw [e3, hn]
    unfold rc_at
    obtain ⟨f, hf⟩ : ∃ f, 5000 - (a 0 0 - 0) = f + 1 := ⟨5000 - (a 0 0 - 0) - 1, by omega⟩
    rw [hf, f_X5_findCut_107, if_pos (by decide)]
    unfold rc_go
    rw [zb2, if_pos (by decide), f_X5_findCut_39, if_pos rfl]
  have hlt := pb_lt hw (a 0 0) 0 (fun x => pb_nx a x (a 0 2) 0) (1000000, fun _ => 0) (by omega) (fun x hx => absurd hx (by omega))
  have hq := pb_congr (a := a) (a 0 0) 0 (fun x => pb_nx a x (a 0 2) 0) (fun _ => 0) (1000000, fun _ => 0) (1000000, fun _ => 0) (by omega) (fun x hx => absurd hx (by omega)) ⟨rfl, fun _ _ _ => rfl⟩
  unfold f_X5_findCut
  rw [r_noises h hw, zb1, ← hN0, r_first h0 hw, zb2, ← hN1, e2, zb2]
  refine ⟨M1, rfl, (hs0.tr hs1).tr s1, ?_, fun x hx => ?_⟩
  · rcases i1.2.2.2 with ⟨q1, q2⟩ | ⟨q1, q2, q3⟩
    · omega
    · rw [q2, hq.1]
      rfl
  · rcases i1.2.2.2 with ⟨q1, q2⟩ | ⟨q1, q2, q3⟩
    · omega
    · rw [q3 x hx, hq.2 hlt x hx]
      rfl
def pb_ok (a : pv_A) (x u : Nat) : Prop := u = 0 ∨ (u ≤ a 0 2 ∧ a 7 (u - 1) = x)
theorem pb_valid {a : pv_A} : ∀ (r s : Nat) (c : Nat → Nat) (b : pb_B), s + r = a 0 0 → (∀ x, x < s → pb_ok a x (c x)) → (∀ x, x < a 0 0 → pb_ok a x (b.2 x)) → ∀ x, x < a 0 0 → pb_ok a x ((pb a r s c b).2 x) := by
  intro r
  induction r with
  | zero =>
    intro s c b h1 h2 h3
    have e : s = a 0 0 := by omega
    subst e
    rw [pb]
    split
    · exact h2
    · exact h3
  | succ r ih =>
    intro s c b h1 h2 h3
    have key : ∀ t b, pb_ok a s t → (∀ x, x < a 0 0 → pb_ok a x (b.2 x)) → ∀ x, x < a 0 0 → pb_ok a x ((pb a r (s + 1) (pu c s t) b).2 x) := fun t b ht hb => ih (s + 1) _ b (by omega) (fun x hx => by
      by_cases e : x = s
      · subst e; rw [pu_at]; exact ht
      · rw [pu_ne _ _ e]; exact h2 x (by omega)) hb
    rw [pb]
    split
    · exact key 0 b (Or.inl rfl) h3
    · have ffq : ∀ (d i : Nat) (b : pb_B), i + d = a 0 2 → (∀ x, x < a 0 0 → pb_ok a x (b.2 x)) → ∀ x, x < a 0 0 → pb_ok a x ((pb_ff (fun t b => if a 7 t = s then pb a r (s + 1) (pu c s (t + 1)) b else b) d i b).2 x) := by
        intro d
        induction d with
        | zero => intro i b _ hb; exact hb
        | succ d ihd =>
          intro i b hi hb
          rw [pb_ff]
          refine ihd (i + 1) _ (by omega) ?_
          by_cases e : a 7 i = s
          · rw [if_pos e]
            exact key _ b (Or.inr ⟨by omega, by rw [Nat.add_sub_cancel]; exact e⟩) hb
          · rw [if_neg e]
            exact hb
      exact ffq _ _ b (by omega) h3
theorem pb_R_ok (a : pv_A) {x : Nat} (hx : x < a 0 0) : pb_ok a x ((pb_R a).2 x) := pb_valid (a 0 0) 0 _ _ (by omega) (fun x hx => absurd hx (by omega)) (fun x _ => Or.inl rfl) x hx
theorem st_cost : zz_Step_cost pv_Rel := by
  intro MC MR hR
  obtain ⟨⟨a, hw, hc, hx, hr⟩, hk⟩ := id hR
  obtain ⟨MC1, e1, s1, f1, g1⟩ := c_find hc hw
  obtain ⟨MR1, e2, s2, f2, g2⟩ := r_find hr hw
  unfold f_X4_cost f_X5_cost
  rw [e1, e2, zb1, zb1, f1, f2]
  exact ⟨_, MC1, MR1, rfl, rfl, hR.same s1 s2.1 s2.2⟩
theorem st_cut : zz_Step_cut pv_Rel := by
  intro MC MR hR x
  obtain ⟨⟨a, hw, hc, hx, hr⟩, hk⟩ := id hR
  have hb := hw.1
  obtain ⟨MC1, e1, s1, f1, g1⟩ := c_find hc hw
  obtain ⟨MR1, e2, s2, f2, g2⟩ := r_find hr hw
  unfold f_X4_cut f_X5_cut
  rw [c_isS hc, r_isS hr hw, zb2, zb2, pv_ift, pv_ift]
  cases h1 : pv_ok x (a 0 0) with
  | false => exact ⟨-1, MC, MR, rfl, rfl, hR⟩
  | true =>
    obtain ⟨s, hs, rfl⟩ := pv_ok_of (by omega) h1
    have ho := pb_R_ok a hs
    have hle : (pb_R a).2 s < 2 ^ 30 := by unfold pb_ok at ho; omega
    simp only [if_true]
    rw [e1, e2, zb1, zb1, if_pos (show zz_in (nI s) 6 from pn_in (by omega) (by omega)), if_pos (show zz_in (nI s) 6 from pn_in (by omega) (by omega)), nI_clamp (by omega), g1 s hs, g2 s hs, show (pb a (a 0 0) 0 (fun _ => 0) (1000000, fun _ => 0)) = pb_R a from rfl, c_orNone hle, zb2]
    simp only [pn_nn hle]
    by_cases q : (pb_R a).2 s = 0
    · exact ⟨-4, MC1, MR1, by simp [q], by simp [q], hR.same s1 s2.1 s2.2⟩
    · exact ⟨nI ((pb_R a).2 s) - 1, MC1, MR1, by simp [q], by simp [q], hR.same s1 s2.1 s2.2⟩
/-! adopt -/
def pd_a (a : pv_A) : pv_A := fun q x => if q = 3 ∧ x < a 0 0 then (pb_R a).2 x else a q x
def pd_n (a : pv_A) : Nat → Nat := zz_S (fun s => if a 3 s = (pb_R a).2 s then 0 else 1)
theorem pd_W {a : pv_A} (hw : pv_W a) : pv_W (pd_a a) := by
  have e0 : ∀ q, q ≠ 3 → pd_a a q = a q := fun q hq => by funext x; unfold pd_a; rw [if_neg (by omega)]
  unfold pv_W pv_cnt at hw ⊢
  simp only [e0 0 (by omega), e0 1 (by omega), e0 2 (by omega), e0 4 (by omega), e0 5 (by omega), e0 6 (by omega), e0 7 (by omega), e0 8 (by omega), e0 9 (by omega)]
  refine ⟨hw.1, fun s hs => ⟨(hw.2.1 s hs).1, (hw.2.1 s hs).2.1, ?_⟩, hw.2.2⟩
  have e : pd_a a 3 s = (pb_R a).2 s := by unfold pd_a; rw [if_pos ⟨rfl, hs⟩]
  rw [e]
  exact pb_R_ok a hs
theorem pd_St {X X' : pv_V} {a : pv_A} (h : pv_St X a) (hX : ∀ q, q ≠ 3 → X' q = X q) (h3 : ∀ x, x < a 0 0 → X' 3 x = nI ((pb_R a).2 x) - 1) : pv_St X' (pd_a a) := by
  have e0 : ∀ q, q ≠ 3 → pd_a a q = a q := fun q hq => by funext x; unfold pd_a; rw [if_neg (by omega)]
  intro q i hr
  have hr' : pv_r a q i := by
    unfold pv_r at hr ⊢
    rw [e0 0 (by omega)] at hr
    exact hr
  by_cases e : q = 3
  · subst e
    have hi : i < a 0 0 := by unfold pv_r at hr'; omega
    have e3 : pd_a a 3 i = (pb_R a).2 i := by unfold pd_a; rw [if_pos ⟨rfl, hi⟩]
    rw [h3 i hi, e3]
    rfl
  · rw [hX q e, e0 q e]
    exact h q i hr'
theorem c_adopt {M : zz_Mem} {a : pv_A} (h : pv_St (pv_cn M) a) (hw : pv_W a) (h24 : ∀ x, x < a 0 0 → M 24 x = nI ((pb_R a).2 x) - 1) : f_X4_adopt_15 5000 0 0 M = some (nI (pd_n a (a 0 0)), nI (a 0 0), zz_set M 8 (fun x => if x < a 0 0 then M 24 x else M 8 x)) := by
  have hb := hw.1
  have key := zz_iter (fun n (x : Int32 × Int32 × zz_Mem) => f_X4_adopt_15 n x.1 x.2.1 x.2.2) (fun i => (nI (pd_n a i), nI i, zz_set M 8 (fun x => if x < i then M 24 x else M 8 x))) (a 0 0) (some (nI (pd_n a (a 0 0)), nI (a 0 0), zz_set M 8 (fun x => if x < a 0 0 then M 24 x else M 8 x))) ?_ ?_ 5000 (by omega)
  · have e : (fun x => if x < 0 then M 24 x else M 8 x) = M 8 := by
      funext x
      rw [if_neg (by omega)]
    have e0 : pd_n a 0 = 0 := rfl
    dsimp only at key
    rw [e, e0, zz_set_id M 8 _ rfl, nI_0] at key
    exact key
  · intro n i hi
    dsimp only
    have ho := pb_R_ok a hi
    have hle : (pb_R a).2 i < 2 ^ 30 := by unfold pb_ok at ho; omega
    have hch := pv_chb hw hi
    have st : upd (fun x => if x < i then M 24 x else M 8 x) i (M 24 i) = fun x => if x < i + 1 then M 24 x else M 8 x := by
      funext x
      unfold upd
      by_cases q : x = i
      · subst q
        rw [if_pos rfl, if_pos (by omega)]
      · rw [if_neg q]
        dsimp only
        by_cases q2 : x < i
        · rw [if_pos q2, if_pos (by omega)]
        · rw [if_neg q2, if_neg (by omega)]
    have e5 : pd_n a (i + 1) = pd_n a i + (if a 3 i = (pb_R a).2 i then 0 else 1) := rfl
    rw [f_X4_adopt_15, zz_set_ne _ _ (show 1 ≠ 8 by omega), c_n0 h, if_neg (nI_ge hi (by omega)), if_pos (pn_in (by omega) (by omega)), nI_clamp (by omega), zz_set_self, zz_set_ne _ _ (show 24 ≠ 8 by omega), zz_up_set, st, if_neg (show ¬ i < i by omega), c_cho h hi, h24 i hi, e5]
    simp only [pn_1, pn_e1 (show a 3 i < 2 ^ 30 by omega) hle]
    by_cases q : a 3 i = (pb_R a).2 i
    · rw [if_pos q, if_pos q]; rfl
    · rw [if_neg q, if_neg q]
  · intro n
    dsimp only
    rw [f_X4_adopt_15, zz_set_ne _ _ (show 1 ≠ 8 by omega), c_n0 h, if_pos (Int32.le_refl _)]
theorem r_adopt {M : zz_Mem} {a : pv_A} (h : pv_St (pv_rn M) a) (hw : pv_W a) (h24 : ∀ x, x < a 0 0 → M 14 x = nI ((pb_R a).2 x) - 1) : f_X5_adopt_8 5000 0 0 M = some (nI (pd_n a (a 0 0)), nI (a 0 0), zz_set M 3 (fun x => if x < a 0 0 then M 14 x else M 3 x)) := by
  have hb := hw.1
  have key := zz_iter (fun n (x : Int32 × Int32 × zz_Mem) => f_X5_adopt_8 n x.1 x.2.1 x.2.2) (fun i => (nI (pd_n a i), nI i, zz_set M 3 (fun x => if x < i then M 14 x else M 3 x))) (a 0 0) (some (nI (pd_n a (a 0 0)), nI (a 0 0), zz_set M 3 (fun x => if x < a 0 0 then M 14 x else M 3 x))) ?_ ?_ 5000 (by omega)
  · have e : (fun x => if x < 0 then M 14 x else M 3 x) = M 3 := by
      funext x
      rw [if_neg (by omega)]
    have e0 : pd_n a 0 = 0 := rfl
    dsimp only at key
    rw [e, e0, zz_set_id M 3 _ rfl, nI_0] at key
    exact key
  · intro n i hi
    dsimp only
    have ho := pb_R_ok a hi
    have hle : (pb_R a).2 i < 2 ^ 30 := by unfold pb_ok at ho; omega
    have hch := pv_chb hw hi
    have st : upd (fun x => if x < i then M 14 x else M 3 x) i (M 14 i) = fun x => if x < i + 1 then M 14 x else M 3 x := by
      funext x
      unfold upd
      by_cases q : x = i
      · subst q
        rw [if_pos rfl, if_pos (by omega)]
      · rw [if_neg q]
        dsimp only
        by_cases q2 : x < i
        · rw [if_pos q2, if_pos (by omega)]
        · rw [if_neg q2, if_neg (by omega)]
    have e5 : pd_n a (i + 1) = pd_n a i + (if a 3 i = (pb_R a).2 i then 0 else 1) := rfl
    rw [f_X5_adopt_8, zz_set_ne _ _ (show 0 ≠ 3 by omega), r_n0 h, if_neg (nI_ge hi (by omega)), if_pos (pn_in (by omega) (by omega)), nI_clamp (by omega), zz_set_self, zz_set_ne _ _ (show 14 ≠ 3 by omega), zz_up_set, st, if_neg (show ¬ i < i by omega), r_cho h hi, h24 i hi, e5]
    simp only [pn_1, Int32.add_zero, pn_e1 (show a 3 i < 2 ^ 30 by omega) hle]
    by_cases q : a 3 i = (pb_R a).2 i
    · rw [if_pos q, if_pos q]; rfl
    · rw [if_neg q, if_neg q]
  · intro n
    dsimp only
    rw [f_X5_adopt_8, zz_set_ne _ _ (show 0 ≠ 3 by omega), r_n0 h, if_pos (Int32.le_refl _)]
theorem st_adopt : zz_Step_adopt pv_Rel := by
  intro MC MR hR
  obtain ⟨⟨a, hw, hc, hx, hr⟩, hk⟩ := id hR
  have hb := hw.1
  obtain ⟨MC1, e1, s1, f1, g1⟩ := c_find hc hw
  obtain ⟨MR1, e2, s2, f2, g2⟩ := r_find hr hw
  have hR1 := hR.same s1 s2.1 s2.2
  have hc1 : pv_St (pv_cn MC1) a := by rw [(pv_sC s1).1]; exact hc
  have hr1 : pv_St (pv_rn MR1) a := by rw [(pv_sR s2.1 s2.2).1]; exact hr
  have hx1 : pv_X (pv_cn MC1) a := by rw [(pv_sC s1).1]; exact hx
  unfold f_X4_adopt f_X5_adopt
  rw [e1, e2, zb1, zb1, c_adopt hc1 hw g1, r_adopt hr1 hw g2, zb3, zb3]
  refine ⟨_, _, _, rfl, rfl, hR1.now ?_ ?_ ?_ ?_ ?_⟩
  · have cq : ∀ q, q ≠ 3 → pv_cn (zz_set MC1 8 (fun x => if x < a 0 0 then MC1 24 x else MC1 8 x)) q = pv_cn MC1 q := fun q hq => by
      unfold pv_cn
      by_cases e : q = 0
      · simp only [e, if_true]; rw [zz_set_ne _ _ (by omega)]
      · by_cases e2 : q ≤ 9
        · simp only [e, e2, if_true, if_false]; rw [zz_set_ne _ _ (by omega)]
        · simp only [e, e2, if_false]
    have rq : ∀ q, q ≠ 3 → pv_rn (zz_set MR1 3 (fun x => if x < a 0 0 then MR1 14 x else MR1 3 x)) q = pv_rn MR1 q := fun q hq => by
      unfold pv_rn
      by_cases e : q = 0
      · simp only [e, if_true]; rw [zz_set_ne _ _ (by omega)]
      · by_cases e2 : q ≤ 9
        · simp only [e, e2, if_true, if_false]; rw [zz_set_ne _ _ (by omega)]
        · simp only [e, e2, if_false]
    have c3 : pv_cn (zz_set MC1 8 (fun x => if x < a 0 0 then MC1 24 x else MC1 8 x)) 3 = fun x => if x < a 0 0 then MC1 24 x else MC1 8 x := by unfold pv_cn; simp [zz_set]
    have r3 : pv_rn (zz_set MR1 3 (fun x => if x < a 0 0 then MR1 14 x else MR1 3 x)) 3 = fun x => if x < a 0 0 then MR1 14 x else MR1 3 x := by unfold pv_rn; simp [zz_set]
    have e0 : ∀ q, q ≠ 3 → pd_a a q = a q := fun q hq => by funext x; unfold pd_a; rw [if_neg (by omega)]
    refine ⟨pd_a a, pd_W hw, pd_St hc1 cq (fun x hx => by rw [c3]; dsimp only; rw [if_pos hx]; exact g1 x hx), ⟨fun s h1 h2 => ?_, fun i h1 h2 => ?_⟩, pd_St hr1 rq (fun x hx => by rw [r3]; dsimp only; rw [if_pos hx]; exact g2 x hx)⟩
    · rw [e0 0 (by omega)] at h1
      rw [c3]
      dsimp only
      rw [if_neg (by omega)]
      exact hx1.1 s h1 h2
    · rw [e0 0 (by omega)] at h2
      rw [cq 9 (by omega)]
      exact hx1.2 i h1 h2
  · unfold pv_ck
    funext k j
    by_cases e : k = 0
    · simp only [e, if_true]; rw [zz_set_ne _ _ (by omega)]
    · by_cases e2 : k ≤ 9
      · simp only [e, e2, if_true, if_false]; rw [zz_set_ne _ _ (by omega)]
      · simp only [e, e2, if_false]
  · unfold pv_rk
    rw [zz_set_ne _ _ (show 10 ≠ 3 by omega), zz_set_ne _ _ (show 11 ≠ 3 by omega), zz_set_ne _ _ (show 12 ≠ 3 by omega)]
  · rw [zz_set_ne _ _ (by omega)]
  · rw [zz_set_ne _ _ (by omega)]
