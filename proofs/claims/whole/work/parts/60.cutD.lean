theorem r_leaf {a : pv_A} (hw : pv_W a) {M : zz_Mem} {c : Nat → Nat} {b : pb_B} (h : rb_inv a M c b) : ∃ M', (∀ n, f_X5_findCut_39 (n + 1) 1 M = rc_at a n (a 0 0) M') ∧ rb_inv a M' c (pb a 0 (a 0 0) c b) ∧ rb_same M M' := by
  have hb := hw.1
  have hc := pa_cost_le hw (c := c) (n := a 0 0) (by omega) (fun x hx => (h.2.2.1 x hx).2)
  have ec := r_cost h.1 hw (ka := 13) (c := c) h.2.2.1 h.2.1
  have e5 : 5000 - (a 0 0 - a 0 0) = 5000 := by omega
  rw [pb]
  rcases h.2.2.2 with ⟨q1, q2⟩ | ⟨q1, q2, q3⟩
  · have hlt : pa_cost a c (a 0 0) < b.1 := by omega
    rw [if_pos hlt]
    obtain ⟨M1, e1, i1, s1⟩ := r_upd hw h hlt hc 1 (nI (pa_cost a c (a 0 0)))
    refine ⟨M1, fun n => ?_, i1, s1⟩
    rw [f_X5_findCut_39, if_neg (by decide), ec, zb2, q2, if_pos (by decide), e1, zb2, r107_ind, r_n0 i1.1]
    unfold rc_at rc_go
    rw [e5]
  · by_cases hlt : pa_cost a c (a 0 0) < b.1
    · rw [if_pos hlt]
      obtain ⟨M1, e1, i1, s1⟩ := r_upd hw h hlt hc 1 (nI (pa_cost a c (a 0 0)))
      refine ⟨M1, fun n => ?_, i1, s1⟩
      rw [f_X5_findCut_39, if_neg (by decide), ec, zb2, q2, if_neg (nI_pos (by omega)), if_neg (fun z => by rw [nI_leI (by omega) (by omega)] at z; omega), e1, zb2, r107_ind, r_n0 i1.1]
      unfold rc_at rc_go
      rw [e5]
    · rw [if_neg hlt]
      refine ⟨M, fun n => ?_, h, rb_same.rf M⟩
      rw [f_X5_findCut_39, if_neg (by decide), ec, zb2, q2, if_neg (nI_pos (by omega)), if_pos (by rw [nI_leI (by omega) (by omega)]; omega), r107_ind, r_n0 h.1]
      unfold rc_at rc_go
      rw [e5]
theorem pn_am1 (x : Int32) : x + (-1) = x - 1 := by
  rw [← Int32.toInt_inj, Int32.toInt_add, Int32.toInt_sub, show (-1 : Int32).toInt = -1 from by decide, show (1 : Int32).toInt = 1 from by decide]
  congr 1
theorem pu_pu (c : Nat → Nat) (s t u : Nat) : pu (pu c s t) s u = pu c s u := by
  funext x
  by_cases e : x = s
  · subst e; rw [pu_at, pu_at]
  · rw [pu_ne _ _ e, pu_ne _ _ e, pu_ne _ _ e]
theorem pu_id (c : Nat → Nat) {s t : Nat} (h : c s = t) : pu c s t = c := by
  funext x
  by_cases e : x = s
  · subst e; rw [pu_at, h]
  · rw [pu_ne _ _ e]
theorem r_cutP {a : pv_A} (hw : pv_W a) : ∀ (r s : Nat), s + r = a 0 0 → ∀ (M : zz_Mem) (c : Nat → Nat) (b : pb_B), rb_inv a M c b → (∀ x, s ≤ x → x < a 0 0 → c x = pb_nx a x (a 0 2) 0) → ∃ (K : Nat) (M' : zz_Mem), K ≤ 4 ^ r ∧ (∀ n, f_X5_findCut_39 (n + K) 1 M = rc_at a n s M') ∧ rb_inv a M' c (pb a r s c b) ∧ rb_same M M' := by
  have hb := hw.1
  intro r
  induction r with
  | zero =>
    intro s hs M c b h hf
    have e : s = a 0 0 := by omega
    subst e
    obtain ⟨M1, e1, i1, s1⟩ := r_leaf hw h
    exact ⟨1, M1, by decide, e1, i1, s1⟩
  | succ r ih =>
    intro s hs M c b h hf
    have hs6 : s < a 0 0 := by omega
    have fuel : 5000 - (a 0 0 - (s + 1)) = (5000 - (a 0 0 - s)) + 1 := by omega
    have hcs := hf s (Nat.le_refl _) hs6
    rw [pb]
    by_cases hn : pb_nx a s (a 0 2) 0 = 0
    · rw [if_pos hn]
      have c0 : c s = 0 := by rw [hcs, hn]
      rw [pu_id c c0]
      obtain ⟨K, M1, k1, e1, i1, s1⟩ := ih (s + 1) (by omega) M c b h (fun x h1 h2 => hf x (by omega) h2)
      refine ⟨K, M1, ?_, fun n => ?_, i1, s1⟩
      · have : 4 ^ r ≤ 4 ^ (r + 1) := Nat.pow_le_pow_right (by omega) (by omega)
        omega
      · rw [e1 n]
        unfold rc_at
        rw [fuel, nI_pred, f_X5_findCut_107, if_neg (nI_pos (by omega)), if_pos (show zz_in (nI s) 6 from pn_in (by omega) (by omega)), nI_clamp (by omega), (i1.2.2.1 s hs6).1, if_pos (by rw [pn_neg (by omega)]; exact c0), r_next0 i1.1 hw hs6, zb2, hn, pn_am1, zz_up_id M1 13 s (nI 0 - 1) (by rw [(i1.2.2.1 s hs6).1, c0])]
    · rw [if_neg hn]
      have inner : ∀ (d u : Nat), a 0 2 - u = d → 1 ≤ u → u ≤ a 0 2 → a 7 (u - 1) = s → ∀ (M : zz_Mem) (b : pb_B), rb_inv a M (pu c s u) b → ∃ (K : Nat) (M' : zz_Mem), K ≤ (1 + pb_ct a s (a 0 2 - u) u) * 4 ^ r ∧ (∀ n, f_X5_findCut_39 (n + K) 1 M = rc_at a n s M') ∧ rb_inv a M' c (pb_ff (fun t b => if a 7 t = s then pb a r (s + 1) (pu c s (t + 1)) b else b) (a 0 2 - u) u (pb a r (s + 1) (pu c s u) b)) ∧ rb_same M M' := by
        intro d
        induction d using Nat.strongRecOn with
        | ind d ihd =>
          intro u hd hu1 hu2 hu3 M b h
          obtain ⟨K1, M1, k1, e1, i1, s1⟩ := ih (s + 1) (by omega) M (pu c s u) b h (fun x h1 h2 => by rw [pu_ne _ _ (by omega)]; exact hf x (by omega) h2)
          have hcu := i1.2.2.1 s hs6
          rw [pu_at] at hcu
          have hz : nI u - 1 + 1 = nI u := by
            obtain ⟨u', rfl⟩ : ∃ j, u = j + 1 := ⟨u - 1, by omega⟩
            rw [nI_pred, pn_1]
          have hnx := r_next i1.1 hw hs6 (k := u) (z := nI u - 1) hz hu2
          by_cases q : pb_nx a s (a 0 2 - u) u = 0
          · have hfu : pb_nx a s (a 0 2) 0 ≤ a 0 2 := by
              have := (pb_nx_s (a := a) (s := s) (d := a 0 2) (k := 0) rfl hn).2.1
              omega
            obtain ⟨i2, s2⟩ := rb_13 i1 (s := s) hfu
            rw [pu_pu, ← hcs, pu_id c rfl] at i2
            refine ⟨K1, _, ?_, fun n => ?_, by rw [pb_ff_0 q]; exact i2, ?_⟩
            · have : 4 ^ r ≤ (1 + pb_ct a s (a 0 2 - u) u) * 4 ^ r := Nat.le_mul_of_pos_left _ (by omega)
              omega
            · rw [e1 n]
              unfold rc_at
              rw [fuel, nI_pred, f_X5_findCut_107, if_neg (nI_pos (by omega)), if_pos (show zz_in (nI s) 6 from pn_in (by omega) (by omega)), nI_clamp (by omega), hcu.1, if_neg (by rw [pn_neg (by omega)]; omega), hnx, zb2, q, if_neg (by decide), r_next0 i1.1 hw hs6, zb2, pn_am1, ← hcs]
            · rw [← hcs] at s2
              exact s1.tr s2
          · obtain ⟨u', hu'⟩ : ∃ u', pb_nx a s (a 0 2 - u) u = u' := ⟨_, rfl⟩
            have hs' := pb_nx_s hu' (by rw [← hu']; exact q)
            obtain ⟨i2, s2⟩ := rb_13 i1 (s := s) (u := u') (by omega)
            rw [pu_pu] at i2
            obtain ⟨K2, M2, k2, e2, i3, s3⟩ := ihd (a 0 2 - u') (by omega) u' rfl (by omega) (by omega) hs'.2.2.1 _ _ i2
            refine ⟨K2 + K1, M2, ?_, fun n => ?_, ?_, (s1.tr s2).tr s3⟩
            · rw [pb_ct_nx hu' (by rw [← hu']; exact q), show u + (a 0 2 - u) - u' = a 0 2 - u' by omega, Nat.add_mul]
              omega
            · rw [show n + (K2 + K1) = (n + K2) + K1 by omega, e1 (n + K2)]
              unfold rc_at
              rw [fuel, nI_pred, f_X5_findCut_107, if_neg (nI_pos (by omega)), if_pos (show zz_in (nI s) 6 from pn_in (by omega) (by omega)), nI_clamp (by omega), hcu.1, if_neg (by rw [pn_neg (by omega)]; omega), hnx, zb2, hu', if_pos (by rw [pn_nn (by omega)]; omega)]
              unfold rc_go
              rw [zb2, if_neg (nI_pos (by omega)), if_pos (show zz_in (nI s) 6 from pn_in (by omega) (by omega)), nI_clamp (by omega), hcu.1, hnx, zb2, hu']
              have := e2 n
              unfold rc_at rc_go at this
              exact this
            · rw [pb_ff_s hu' (by rw [← hu']; exact q), show u + (a 0 2 - u) - u' = a 0 2 - u' by omega, show u' - 1 + 1 = u' by omega]
              exact i3
      obtain ⟨u, hu⟩ : ∃ u, pb_nx a s (a 0 2) 0 = u := ⟨_, rfl⟩
      have hs' := pb_nx_s hu (by rw [← hu]; exact hn)
      have hcu : c s = u := by rw [hcs, hu]
      obtain ⟨K, M1, k1, e1, i1, s1⟩ := inner (a 0 2 - u) u rfl (by omega) (by omega) hs'.2.2.1 M b (by rw [pu_id c hcu]; exact h)
      refine ⟨K, M1, ?_, e1, ?_, s1⟩
      · have h1 := pb_ct_nx hu (by rw [← hu]; exact hn)
        have h2 := pb_ct_S a s (a 0 2) 0
        have h3 := hw.2.2.2.2.2.2 s hs6
        unfold pv_cnt at h3
        rw [Nat.zero_add] at h2
        rw [show 0 + a 0 2 - u = a 0 2 - u by omega] at h1
        have e0 : zz_S (fun t => if a 7 t = s then 1 else 0) 0 = 0 := rfl
        have h4 : 1 + pb_ct a s (a 0 2 - u) u ≤ 4 := by omega
        have h5 : (1 + pb_ct a s (a 0 2 - u) u) * 4 ^ r ≤ 4 * 4 ^ r := Nat.mul_le_mul_right _ h4
        rw [Nat.pow_succ]
        omega
      · rw [pb_ff_s hu (by rw [← hu]; exact hn), show 0 + a 0 2 - u = a 0 2 - u by omega, show u - 1 + 1 = u by omega]
        exact i1
