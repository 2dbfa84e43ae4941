/-! the class's search -/
def cb_inv (a : pv_A) (M : zz_Mem) (b : pb_B) : Prop := pv_St (pv_cn M) a ∧ (∀ i j, i < a 0 2 → j < a 0 2 → i ≠ j → M 26 (16 * i + j) = nI (pa_no a i j)) ∧ M 3 0 = nI b.1 ∧ (b.1 < 1000000 → ∀ x, x < a 0 0 → M 24 x = nI (b.2 x) - 1) ∧ b.1 ≤ 1000000
def cb_pre (a : pv_A) (M : zz_Mem) (c : Nat → Nat) (s : Nat) : Prop := ∀ x, x < s → M 25 x = nI (c x) - 1 ∧ (c x = 0 ∨ (c x ≤ a 0 2 ∧ a 7 (c x - 1) = x))
def cb_same (M M' : zz_Mem) : Prop := ∀ k, k ≠ 3 → k ≠ 24 → k ≠ 25 → M' k = M k
theorem cb_same.tr {M M' M'' : zz_Mem} (h : cb_same M M') (h' : cb_same M' M'') : cb_same M M'' := fun k h1 h2 h3 => (h' k h1 h2 h3).trans (h k h1 h2 h3)
theorem cb_inv_25 {a : pv_A} {M : zz_Mem} {b : pb_B} (h : cb_inv a M b) (i : Nat) (x : Int32) : cb_inv a (zz_up M 25 i x) b := by
  refine ⟨?_, fun i j h1 h2 h3 => ?_, ?_, fun h1 x hx => ?_, h.2.2.2.2⟩
  · unfold zz_up
    rw [pv_cn_hi M (by omega)]
    exact h.1
  · rw [zz_up_ne _ _ _ (by omega)]; exact h.2.1 i j h1 h2 h3
  · rw [zz_up_ne _ _ _ (by omega)]; exact h.2.2.1
  · rw [zz_up_ne _ _ _ (by omega)]; exact h.2.2.2.1 h1 x hx
theorem c_nwe {a : pv_A} (hw : pv_W a) {M : zz_Mem} {b : pb_B} (h : cb_inv a M b) {c : Nat → Nat} {s k : Nat} (hs : s < a 0 0) (hp : cb_pre a M c s) (hk : k < a 0 2) (hks : a 7 k = s) : f_X0_noiseWithEarlier (nI s) (nI k) M = some (nI (zz_S (pa_prow a (pu c s (k + 1)) s) s), M) := by
  have hb := hw.1
  have key := zz_iter (fun n (x : Int32 × Int32 × zz_Mem) => f_X0_noiseWithEarlier_5 (nI s) (nI k) n x.1 x.2.1 x.2.2) (fun i => (nI (zz_S (pa_prow a (pu c s (k + 1)) s) i), nI i, M)) s (some (nI (zz_S (pa_prow a (pu c s (k + 1)) s) s), nI s, M)) ?_ ?_ 5000 (by omega)
  · unfold f_X0_noiseWithEarlier
    dsimp only [zz_S] at key
    rw [nI_0] at key
    rw [key, zb3]
  · intro n i hi
    dsimp only
    obtain ⟨q1, q2⟩ := hp i hi
    have ep : pa_prow a (pu c s (k + 1)) s i = if c i = 0 then 0 else pa_no a k (c i - 1) := by
      unfold pa_prow
      rw [pu_at, pu_ne _ _ (by omega), if_neg (by omega), Nat.add_sub_cancel]
    rw [f_X0_noiseWithEarlier_5, if_neg (nI_ge hi (by omega)), if_pos (pn_in (by omega) (by omega)), nI_clamp (by omega), q1, zz_S, ep]
    by_cases q : c i = 0
    · rw [if_pos (by rw [pn_em1 (by omega)]; exact q), if_pos q, pn_1]
      rfl
    · obtain ⟨y, ey⟩ : ∃ y, c i = y + 1 := ⟨c i - 1, by omega⟩
      have hy : a 7 y = i := by
        rcases q2 with q2 | q2
        · exact absurd q2 q
        · rw [ey, Nat.add_sub_cancel] at q2; exact q2.2
      have hyk : y < a 0 2 := by omega
      rw [if_neg (by rw [pn_em1 (by omega)]; exact q), if_neg q, ey, nI_pred, show nI k * (16 : Int32) + nI y = nI (16 * k + y) by rw [show (16 : Int32) = nI 16 from rfl, pk_mul, nI_add, Nat.mul_comm], if_pos (pn_in (by omega) (by omega)), nI_clamp (by omega), h.2.1 k y hk hyk (fun e => by subst e; omega), nI_add, pn_1, Nat.add_sub_cancel]
  · intro n
    dsimp only
    rw [f_X0_noiseWithEarlier_5, if_pos (Int32.le_refl _)]
theorem c_try {a : pv_A} (hw : pv_W a) : ∀ (r s : Nat), s + r = a 0 0 → ∀ (k : Nat), r < k → ∀ (M : zz_Mem) (c : Nat → Nat) (b : pb_B), cb_inv a M b → cb_pre a M c s → ∃ M', f_X0_tryFrom k (nI s) (nI (pa_cost a c s)) M = some M' ∧ cb_inv a M' (pb a r s c b) ∧ cb_same M M' ∧ ∀ x, x < s → M' 25 x = M 25 x := by
  have hb := hw.1
  intro r
  induction r with
  | zero =>
    intro s hs k hk M c b hi hp
    obtain ⟨k, rfl⟩ : ∃ j, k = j + 1 := ⟨k - 1, by omega⟩
    have e : s = a 0 0 := by omega
    subst e
    have hc := pa_cost_le hw (c := c) (n := a 0 0) (by omega) (fun x hx => by have := (hp x hx).2; omega)
    rw [f_X0_tryFrom, f_X0_tryFrom_b, hi.2.2.1, c_n0 hi.1, pb]
    by_cases q : pa_cost a c (a 0 0) < b.1
    · rw [if_pos ((nI_ltI (by omega) (by have := hi.2.2.2.2; omega)).mpr q), if_pos (Int32.le_refl _), if_pos q, zc0, zc6]
      refine ⟨_, rfl, ⟨?_, fun i j h1 h2 h3 => ?_, ?_, fun h1 x hx => ?_, ?_⟩, fun k h1 h2 h3 => ?_, fun x hx => ?_⟩
      · unfold zz_cp
        rw [pv_cn_hi _ (by omega)]
        have e3 : pv_cn (zz_up M 3 0 (nI (pa_cost a c (a 0 0)))) = pv_cn M := (pv_sC (fun k hk => zz_up_ne _ _ _ (by omega))).1
        rw [e3]
        exact hi.1
      · rw [zz_cp_ne _ _ _ _ (by omega), zz_up_ne _ _ _ (by omega)]; exact hi.2.1 i j h1 h2 h3
      · rw [zz_cp_ne _ _ _ _ (by omega), zz_up_at]
      · rw [zz_cp_at _ _ _ _ (by omega), zz_up_ne _ _ _ (by omega)]
        exact (hp x hx).1
      · show pa_cost a c (a 0 0) ≤ _
        omega
      · rw [zz_cp_ne _ _ _ _ h2, zz_up_ne _ _ _ h1]
      · rw [zz_cp_ne _ _ _ _ (by omega), zz_up_ne _ _ _ (by omega)]
    · rw [if_neg (fun z => q ((nI_ltI (by omega) (by have := hi.2.2.2.2; omega)).mp z)), if_neg q]
      exact ⟨M, rfl, hi, fun _ _ _ _ => rfl, fun _ _ => rfl⟩
  | succ r ih =>
    intro s hs k hk M c b hi hp
    obtain ⟨k, rfl⟩ : ∃ j, k = j + 1 := ⟨k - 1, by omega⟩
    have hc := pa_cost_le hw (c := c) (n := s) (by omega) (fun x hx => by have := (hp x hx).2; omega)
    rw [f_X0_tryFrom, f_X0_tryFrom_b, hi.2.2.1, c_n0 hi.1]
    by_cases q : pa_cost a c s < b.1
    · rw [if_pos ((nI_ltI (by omega) (by have := hi.2.2.2.2; omega)).mpr q), if_neg (nI_ge (by omega) (by omega)), if_pos (show nI s < 6 from nI_lt (b := 6) (by omega) (by omega))]
      have loop : ∀ (d i n : Nat) (v : Int32) (M : zz_Mem) (b : pb_B), i + d = a 0 2 → d < n → cb_inv a M b → cb_pre a M c s → ∃ (M' : zz_Mem) (v' : Int32), f_X0_tryFrom_50 (f_X0_tryFrom k) (nI s) (nI (pa_cost a c s)) n v (nI i) M = some (v', nI (a 0 2), M') ∧ cb_inv a M' (pb_ff (fun t b => if a 7 t = s then pb a r (s + 1) (pu c s (t + 1)) b else b) d i b) ∧ cb_same M M' ∧ (∀ x, x < s → M' 25 x = M 25 x) ∧ (v' = 0 ↔ v = 0 ∧ ∀ t, i ≤ t → t < i + d → ¬ a 7 t = s) := by
        intro d
        induction d with
        | zero =>
          intro i n v M b h1 h2 hi hp
          obtain ⟨n, rfl⟩ : ∃ j, n = j + 1 := ⟨n - 1, by omega⟩
          have e : i = a 0 2 := by omega
          subst e
          refine ⟨M, v, ?_, hi, fun _ _ _ _ => rfl, fun _ _ => rfl, ⟨fun h => ⟨h, fun t h1 h2 => absurd h2 (by omega)⟩, fun h => h.1⟩⟩
          rw [f_X0_tryFrom_50, c_n2 hi.1, if_pos (Int32.le_refl _)]
        | succ d ihd =>
          intro i n v M b h1 h2 hi hp
          obtain ⟨n, rfl⟩ : ∃ j, n = j + 1 := ⟨n - 1, by omega⟩
          have hs7 := hw.2.2.2.1 i (by omega)
          rw [f_X0_tryFrom_50, c_n2 hi.1, if_neg (nI_ge (by omega) (by omega)), if_pos (show zz_in (nI i) 16 from pn_in (by omega) (by omega)), if_pos (show zz_in (nI s) 6 from pn_in (by omega) (by omega)), nI_clamp (show i < 2 ^ 31 by omega), nI_clamp (show s < 2 ^ 31 by omega), c_sce hi.1 (by omega), pb_ff, pn_1, pn_1]
          by_cases e : a 7 i = s
          · have hi1 := cb_inv_25 hi s (nI i)
            have hp1 : cb_pre a (zz_up M 25 s (nI i)) c s := fun x hx => ⟨by rw [zz_up_ni _ _ _ (by omega)]; exact (hp x hx).1, (hp x hx).2⟩
            have hp2 : cb_pre a (zz_up M 25 s (nI i)) (pu c s (i + 1)) (s + 1) := fun x hx => by
              by_cases ex : x = s
              · subst ex
                rw [zz_up_at, pu_at, nI_pred, Nat.add_sub_cancel]
                exact ⟨rfl, Or.inr ⟨by omega, e⟩⟩
              · rw [pu_ne _ _ ex]
                exact hp1 x (by omega)
            have ef : (zz_up M 25 s (nI i)) 13 i = nI (a 8 i) := c_fla hi1.1 (by omega)
            have er : pa_row a (pu c s (i + 1)) s = a 8 i + zz_S (pa_prow a (pu c s (i + 1)) s) s := by
              unfold pa_row
              rw [pu_at, if_neg (by omega), Nat.add_sub_cancel]
            obtain ⟨M1, e1, i1, s1, p1⟩ := ih (s + 1) (by omega) k (by omega) (zz_up M 25 s (nI i)) (pu c s (i + 1)) b hi1 hp2
            rw [if_pos (by rw [e]), c_nwe hw hi1 (by omega) hp1 (by omega) e, zb2, ef, nI_add, nI_add, show pa_cost a c s + a 8 i + zz_S (pa_prow a (pu c s (i + 1)) s) s = pa_cost a (pu c s (i + 1)) (s + 1) by rw [pa_cost_pu, er]; omega, e1, zb1]
            have hpM1 : cb_pre a M1 c s := fun x hx => ⟨by rw [p1 x (by omega)]; exact (hp1 x hx).1, (hp x hx).2⟩
            obtain ⟨M2, v2, e2, i2, s2, p2, w2⟩ := ihd (i + 1) n 1 M1 _ (by omega) (by omega) i1 hpM1
            refine ⟨M2, v2, e2, by rw [if_pos e]; exact i2, ?_, fun x hx => ?_, ?_⟩
            · intro q h1 h2 h3
              rw [s2 q h1 h2 h3, s1 q h1 h2 h3, zz_up_ne _ _ _ h3]
            · rw [p2 x hx, p1 x (by omega), zz_up_ni _ _ _ (by omega)]
            · rw [w2]
              exact ⟨fun h => absurd h.1 (by decide), fun h => absurd e (h.2 i (by omega) (by omega))⟩
          · rw [if_neg (fun z => e (by rwa [nI_eq (by omega) (by omega)] at z))]
            obtain ⟨M2, v2, e2, i2, s2, p2, w2⟩ := ihd (i + 1) n v M b (by omega) (by omega) hi hp
            refine ⟨M2, v2, e2, by rw [if_neg e]; exact i2, s2, p2, ?_⟩
            rw [w2]
            refine ⟨fun h => ⟨h.1, fun t h1 h2 => ?_⟩, fun h => ⟨h.1, fun t h1 h2 => h.2 t (by omega) (by omega)⟩⟩
            by_cases et : t = i
            · rw [et]; exact e
            · exact h.2 t (by omega) (by omega)
      obtain ⟨M1, v1, e1, i1, s1, p1, w1⟩ := loop (a 0 2) 0 5000 0 M b (by omega) (by omega) hi hp
      rw [nI_0] at e1
      rw [e1, zb3, pb]
      by_cases hn : pb_nx a s (a 0 2) 0 = 0
      · have hno := pb_nx_0 hn
        have hv : v1 = 0 := w1.mpr ⟨rfl, hno⟩
        have hff : ∀ (d i : Nat) (b : pb_B), i + d ≤ a 0 2 → pb_ff (fun t b => if a 7 t = s then pb a r (s + 1) (pu c s (t + 1)) b else b) d i b = b := by
          intro d
          induction d with
          | zero => intro i b _; rfl
          | succ d ihd =>
            intro i b h
            rw [pb_ff, if_neg (hno i (by omega) (by omega))]
            exact ihd (i + 1) b (by omega)
        rw [hff _ _ b (by omega)] at i1
        have hi2 := cb_inv_25 i1 s (-1)
        have hp2 : cb_pre a (zz_up M1 25 s (-1)) (pu c s 0) (s + 1) := fun x hx => by
          by_cases ex : x = s
          · subst ex
            rw [zz_up_at, pu_at]
            exact ⟨by decide, Or.inl rfl⟩
          · rw [pu_ne _ _ ex, zz_up_ni _ _ _ (by omega), p1 x (by omega)]
            exact hp x (by omega)
        have er : pa_cost a (pu c s 0) (s + 1) = pa_cost a c s := by
          have e0 : zz_S (pa_prow a (pu c s 0) s) s = 0 := zz_S_0 (fun o _ => by unfold pa_prow; rw [pu_at, if_pos rfl])
          rw [pa_cost_pu]
          unfold pa_row
          rw [pu_at, if_pos rfl, e0]
          omega
        obtain ⟨M2, e2, i2, s2, p2⟩ := ih (s + 1) (by omega) k (by omega) (zz_up M1 25 s (-1)) (pu c s 0) b hi2 hp2
        rw [er] at e2
        rw [if_pos hv, if_pos (show zz_in (nI s) 6 from pn_in (by omega) (by omega)), nI_clamp (by omega), pn_1, e2, zb1, if_pos hn]
        refine ⟨M2, rfl, i2, ?_, fun x hx => ?_⟩
        · intro q h1 h2 h3
          rw [s2 q h1 h2 h3, zz_up_ne _ _ _ h3, s1 q h1 h2 h3]
        · rw [p2 x (by omega), zz_up_ni _ _ _ (by omega), p1 x hx]
      · have hv : ¬ v1 = 0 := fun z => by
          have h5 := (w1.mp z).2
          obtain ⟨u, hu⟩ : ∃ u, pb_nx a s (a 0 2) 0 = u := ⟨_, rfl⟩
          have h6 := pb_nx_s hu (by rw [← hu]; exact hn)
          exact h5 (u - 1) (by omega) (by omega) h6.2.2.1
        rw [if_neg hv, if_neg hn]
        exact ⟨M1, rfl, i1, s1, p1⟩
    · rw [if_neg (fun z => q ((nI_ltI (by omega) (by have := hi.2.2.2.2; omega)).mp z)), pb_prune (r + 1) s c b hs (by omega)]
      exact ⟨M, rfl, hi, fun _ _ _ _ => rfl, fun _ _ => rfl⟩
theorem c_find {M : zz_Mem} {a : pv_A} (h : pv_St (pv_cn M) a) (hw : pv_W a) : ∃ M', f_X0_find M = some M' ∧ (∀ k, k ≤ 2 ∨ (6 ≤ k ∧ k ≤ 23) → M' k = M k) ∧ M' 3 0 = nI (pb a (a 0 0) 0 (fun _ => 0) (1000000, fun _ => 0)).1 ∧ ∀ x, x < a 0 0 → M' 24 x = nI ((pb a (a 0 0) 0 (fun _ => 0) (1000000, fun _ => 0)).2 x) - 1 := by
  have hb := hw.1
  have hi : cb_inv a (zz_up (zz_set M 26 (pc_row a (M 26) (a 0 2) 0)) 3 0 1000000) (1000000, fun _ => 0) := by
    refine ⟨?_, fun i j h1 h2 h3 => ?_, ?_, fun h1 => absurd h1 (by omega), Nat.le_refl _⟩
    · have e3 : ∀ N : zz_Mem, pv_cn (zz_up N 3 0 1000000) = pv_cn N := fun N => (pv_sC (fun k hk => zz_up_ne _ _ _ (by omega))).1
      rw [e3, pv_cn_hi _ (by omega)]
      exact h
    · rw [zz_up_ne _ _ _ (by omega), zz_set_self]
      unfold pc_row
      rw [show (16 * i + j) / 16 = i by omega, show (16 * i + j) % 16 = j by omega, if_pos (by omega)]
    · rw [zz_up_at]; rfl
  obtain ⟨M1, e1, i1, s1, p1⟩ := c_try hw (a 0 0) 0 (by omega) 8 (by omega) _ (fun _ => 0) _ hi (fun x hx => absurd hx (by omega))
  have e0 : pa_cost a (fun _ => 0) 0 = 0 := rfl
  rw [e0, nI_0] at e1
  unfold f_X0_find
  rw [c_noises h hw, zb1, e1, zb1]
  refine ⟨M1, rfl, fun k hk => ?_, i1.2.2.1, i1.2.2.2.1 (pb_lt hw _ _ _ _ (by omega) (fun x hx => absurd hx (by omega)))⟩
  rw [s1 k (by omega) (by omega) (by omega), zz_up_ne _ _ _ (by omega), zz_set_ne _ _ (by omega)]
