theorem zz_18 (M : zz_Mem) (g : Nat → Int32) (j : Nat) (v x y : Int32) : zz_up (zz_up (zz_up (zz_set M 18 g) 0 25 y) 18 j v) 0 25 x = zz_up (zz_set M 18 (upd g j v)) 0 25 x := by
  funext k i
  by_cases e : k = 0
  · subst e
    by_cases e2 : i = 25
    · subst e2; rw [zz_up_at, zz_up_at]
    · rw [zz_up_ni _ _ _ e2, zz_up_ni _ _ _ e2, zz_up_ne _ _ _ (by omega), zz_up_ni _ _ _ e2, zz_set_ne _ _ (by omega), zz_set_ne _ _ (by omega)]
  · rw [zz_up_ne _ _ _ e, zz_up_ne _ _ _ e]
    by_cases e3 : k = 18
    · subst e3
      rw [zz_set_self]
      by_cases e4 : i = j
      · subst e4; rw [zz_up_at]; simp [upd]
      · rw [zz_up_ni _ _ _ e4, zz_up_ne _ _ _ (by omega), zz_set_self]; simp [upd, e4]
    · rw [zz_up_ne _ _ _ e3, zz_up_ne _ _ _ e, zz_set_ne _ _ e3, zz_set_ne _ _ e3]
theorem r_fill {M : zz_Mem} {a : pv_A} (h : pv_St (pv_rn M) a) (hw : pv_W a) {lo hi : Nat → Nat} {n T : Nat} (hn : n < 2 ^ a 0 0) (hl : ∀ s, s < 6 → n.testBit s = true → M 16 s = nI (lo s) ∧ lo s ≤ 990) (hh : ∀ s, s < 6 → n.testBit s = true → M 17 s = nI (hi s) ∧ hi s ≤ 99) (hg : ∀ s, s < 6 → n.testBit s = true → lo s ≤ hi s ∧ hi s ≤ 99) (hT : T ≤ 6) (h0 : pe_it lo hi n T = 0) (h1 : ∀ j, j < T → ¬ pe_it lo hi n j = 0) (h25 : M 0 25 = 0) (x1 x2 w : Int32) : ∃ z, f_X5_findDoubles_73 x1 x2 5000 (nI n) w M = some (nI 0, z, zz_up (zz_set M 18 (fun x => if x < T then nI (pe_lh 99 hi (pe_it lo hi n x) 6) else M 18 x)) 0 25 (nI T)) := by
  have hb := hw.1
  have h64 := pe_64 hb.1 hn
  have hbit : ∀ j s, s < 6 → (pe_it lo hi n j).testBit s = true → n.testBit s = true := fun j => (pe_it_ok h64 hg j).2
  have hz : ∀ j s, a 0 0 ≤ s → s < 6 → (pe_it lo hi n j).testBit s = false := fun j s h1 h2 => by
    cases e : (pe_it lo hi n j).testBit s with
    | false => rfl
    | true =>
      have := hbit j s h2 e
      rw [pe_hi hb.1 hn h2 h1] at this
      cases this
  have hSt : ∀ g x, pv_St (pv_rn (zz_up (zz_set M 18 g) 0 25 x)) a := fun g x => by
    rw [(pv_sR (M := M) (M' := zz_up (zz_set M 18 g) 0 25 x) (fun k h1 h2 => by rw [zz_up_ne _ _ _ (by omega), zz_set_ne _ _ (by omega)]) (fun j hj => by rw [zz_up_ni _ _ _ (by omega), zz_set_ne _ _ (by omega)])).1]
    exact h
  refine ⟨if T = 0 then w else nI (pe_lh 99 hi (pe_it lo hi n (T - 1)) 6), ?_⟩
  have key := zz_iter (fun k (x : Int32 × Int32 × zz_Mem) => f_X5_findDoubles_73 x1 x2 k x.1 x.2.1 x.2.2) (fun j => (nI (pe_it lo hi n j), (if j = 0 then w else nI (pe_lh 99 hi (pe_it lo hi n (j - 1)) 6)), zz_up (zz_set M 18 (fun x => if x < j then nI (pe_lh 99 hi (pe_it lo hi n x) 6) else M 18 x)) 0 25 (nI j))) T (some (nI 0, (if T = 0 then w else nI (pe_lh 99 hi (pe_it lo hi n (T - 1)) 6)), zz_up (zz_set M 18 (fun x => if x < T then nI (pe_lh 99 hi (pe_it lo hi n x) 6) else M 18 x)) 0 25 (nI T))) ?_ ?_ 5000 (by omega)
  · dsimp only at key
    rw [pe_row0 (M 18) (fun x => pe_lh 99 hi (pe_it lo hi n x) 6), zz_set_id M 18 _ rfl, if_pos (show (0 : Nat) = 0 from rfl), zz_up_id M 0 25 (nI 0) (by rw [h25]; rfl)] at key
    exact key
  · intro k j hj
    dsimp only
    obtain ⟨i1, i2⟩ := pe_it_ok h64 hg j
    have hne := h1 j hj
    have hle := pe_lh_le (base := 99) (hi := hi) (n := pe_it lo hi n j) 6
    have z16 : ∀ g x, (zz_up (zz_set M 18 g) 0 25 x) 16 = M 16 := fun g x => by rw [zz_up_ne _ _ _ (by omega), zz_set_ne _ _ (by omega)]
    have z17 : ∀ g x, (zz_up (zz_set M 18 g) 0 25 x) 17 = M 17 := fun g x => by rw [zz_up_ne _ _ _ (by omega), zz_set_ne _ _ (by omega)]
    have elh : pe_lh 100 hi (pe_it lo hi n j) (a 0 0) = pe_lh 99 hi (pe_it lo hi n j) 6 := by
      have e1 := pe_lh_up (base := 100) (hi := hi) (hz j) (6 - a 0 0) (by omega)
      rw [show a 0 0 + (6 - a 0 0) = 6 by omega] at e1
      rw [← e1, pe_lh_99 (fun s hs hb => (hg s hs (i2 s hs hb)).2) (Nat.le_refl 6)]
      have : ∃ s, s < 6 ∧ (pe_it lo hi n j).testBit s = true := by
        by_cases q : ∃ s, s < 6 ∧ (pe_it lo hi n j).testBit s = true
        · exact q
        · exact absurd (pe_0 i1 (fun s hs => by
            cases e2 : (pe_it lo hi n j).testBit s with
            | true => exact absurd ⟨s, hs, e2⟩ q
            | false => rfl)) hne
      obtain ⟨s, hs, hbs⟩ := this
      have h2 := pe_lh_bit (base := 100) (hi := hi) hs hbs
      have h3 := (hg s hs (i2 s hs hbs)).2
      omega
    have ews : pe_ws lo (pe_it lo hi n j) (pe_lh 99 hi (pe_it lo hi n j) 6) (a 0 0) = pe_it lo hi n (j + 1) := by
      have e1 := pe_ws_up (lo := lo) (m := pe_lh 99 hi (pe_it lo hi n j) 6) (hz j) (6 - a 0 0) (by omega)
      rw [show a 0 0 + (6 - a 0 0) = 6 by omega] at e1
      exact e1.symm
    rw [f_X5_findDoubles_73, if_neg (fun z => hne (by rwa [pn_e0 (by omega)] at z)), r_lh (hSt _ _) hw i1 (fun s hs hb => by rw [z17]; exact hh s hs (i2 s hs hb)), zb3, elh, zz_up_at, if_pos (pn_in (by omega) (by omega)), nI_clamp (by omega), zz_up_ne _ _ _ (show 0 ≠ 18 by omega), zz_up_at, pn_1, zz_18, pe_row (M 18) (fun x => pe_lh 99 hi (pe_it lo hi n x) 6) j, r_ws (hSt _ _) hw i1 hle (fun s hs hb => by rw [z16]; exact hl s hs (i2 s hs hb)), zb3, ews, if_neg (show ¬ j + 1 = 0 by omega), Nat.add_sub_cancel]
  · intro k
    dsimp only
    rw [f_X5_findDoubles_73, h0, if_pos (show nI 0 = 0 from rfl)]
theorem r_dbl1 {a : pv_A} (hw : pv_W a) {t n : Nat} (ht : t < a 0 1) (hn : n < 64) (x3 : Int32) : ∀ (d i k : Nat) (M : zz_Mem), i + d = a 0 0 → d < k → pv_St (pv_rn M) a → M 0 25 = 0 → (∀ s, s < i → n.testBit s = true → M 16 s = nI (pw_lo a t s (a 0 0)) ∧ M 17 s = nI (pw_hi a t s (a 0 0))) → (∃ M', f_X5_findDoubles_10 (nI t) (nI n) x3 k (nI i) M = some (.inl (0, M')) ∧ rb_same M M' ∧ ∃ s, i ≤ s ∧ s < a 0 0 ∧ n.testBit s = true ∧ ¬ pw_lo a t s (a 0 0) ≤ pw_hi a t s (a 0 0)) ∨ (∃ M', f_X5_findDoubles_10 (nI t) (nI n) x3 k (nI i) M = some (.inr (nI (a 0 0), M')) ∧ rb_same M M' ∧ M' 0 25 = 0 ∧ (∀ s, s < a 0 0 → n.testBit s = true → M' 16 s = nI (pw_lo a t s (a 0 0)) ∧ M' 17 s = nI (pw_hi a t s (a 0 0))) ∧ ∀ s, i ≤ s → s < a 0 0 → n.testBit s = true → pw_lo a t s (a 0 0) ≤ pw_hi a t s (a 0 0)) := by
  have hb := hw.1
  intro d
  induction d with
  | zero =>
    intro i k M h1 h2 hS h25 hI
    obtain ⟨k, rfl⟩ : ∃ j, k = j + 1 := ⟨k - 1, by omega⟩
    have e : i = a 0 0 := by omega
    subst e
    refine Or.inr ⟨M, ?_, rb_same.rf M, h25, hI, fun s h1 h2 => absurd h2 (by omega)⟩
    rw [f_X5_findDoubles_10, r_n0 hS, if_pos (Int32.le_refl _)]
  | succ d ih =>
    intro i k M h1 h2 hS h25 hI
    obtain ⟨k, rfl⟩ : ∃ j, k = j + 1 := ⟨k - 1, by omega⟩
    have hi6 : i < a 0 0 := by omega
    have hlo := pw_lo_le hw ht hi6 (a 0 0) (by omega)
    have hhi := pw_hi_le a t i (a 0 0)
    obtain ⟨L, hL⟩ : ∃ L, L = pw_lo a t i (a 0 0) := ⟨_, rfl⟩
    obtain ⟨H, hH⟩ : ∃ H, H = pw_hi a t i (a 0 0) := ⟨_, rfl⟩
    rw [f_X5_findDoubles_10, r_n0 hS, if_neg (nI_ge hi6 (by omega)), r_span hS hw ht hi6, zb1, if_pos (pn_in (by omega) (by omega)), nI_clamp (by omega), pe_bit hn (by omega), pn_1, ← hL, ← hH]
    rw [← hL] at hlo
    rw [← hH] at hhi
    rw [pf_100 M hhi, pf_M_20, zz_up_ne _ _ _ (show 0 ≠ 16 by omega), pf_M_21, zz_up_ne _ _ _ (show 0 ≠ 17 by omega), zz_up_ne _ _ _ (show 0 ≠ 16 by omega), pf_M_22]
    obtain ⟨N, hN⟩ : ∃ N, N = zz_up (zz_up (pf_M M (nI (if L ≤ H then L + 1 else 0) - 1) (nI (if L ≤ H then H + 1 else 0) - 1) (nI (H + 1 - L))) 16 i (nI (if L ≤ H then L + 1 else 0) - 1)) 17 i (nI (if L ≤ H then H + 1 else 0) - 1) := ⟨_, rfl⟩
    rw [← hN]
    have sN : rb_same M N := ⟨fun q h1 h2 => by rw [hN, zz_up_ne _ _ _ (by omega), zz_up_ne _ _ _ (by omega), pf_M_ne _ _ _ _ (by omega)], fun j hj => by rw [hN, zz_up_ne _ _ _ (by omega), zz_up_ne _ _ _ (by omega), pf_M_0 _ _ _ _ (by omega) (by omega) (by omega)]⟩
    have SN : pv_St (pv_rn N) a := by rw [(pv_sR sN.1 sN.2).1]; exact hS
    have N25 : N 0 25 = 0 := by rw [hN, zz_up_ne _ _ _ (by omega), zz_up_ne _ _ _ (by omega), pf_M_0 _ _ _ _ (by omega) (by omega) (by omega)]; exact h25
    have NI : (n.testBit i = true → L ≤ H) → ∀ s, s < i + 1 → n.testBit s = true → N 16 s = nI (pw_lo a t s (a 0 0)) ∧ N 17 s = nI (pw_hi a t s (a 0 0)) := fun hz s hs hbit => by
      by_cases e : s = i
      · subst e
        have z := hz hbit
        rw [← hL, ← hH, hN, zz_up_at, zz_up_ne _ _ _ (show 16 ≠ 17 by omega), zz_up_at, if_pos z, if_pos z, nI_pred, nI_pred]
        exact ⟨rfl, rfl⟩
      · rw [hN, zz_up_ni _ _ _ e, zz_up_ne _ _ _ (show 16 ≠ 17 by omega), zz_up_ni _ _ _ e, zz_up_ne _ _ _ (show 17 ≠ 16 by omega), pf_M_ne _ _ _ _ (by omega), pf_M_ne _ _ _ _ (by omega)]
        exact hI s (by omega) hbit
    have go : (n.testBit i = true → L ≤ H) → (∃ M', f_X5_findDoubles_10 (nI t) (nI n) x3 k (nI (i + 1)) N = some (.inl (0, M')) ∧ rb_same M M' ∧ ∃ s, i ≤ s ∧ s < a 0 0 ∧ n.testBit s = true ∧ ¬ pw_lo a t s (a 0 0) ≤ pw_hi a t s (a 0 0)) ∨ (∃ M', f_X5_findDoubles_10 (nI t) (nI n) x3 k (nI (i + 1)) N = some (.inr (nI (a 0 0), M')) ∧ rb_same M M' ∧ M' 0 25 = 0 ∧ (∀ s, s < a 0 0 → n.testBit s = true → M' 16 s = nI (pw_lo a t s (a 0 0)) ∧ M' 17 s = nI (pw_hi a t s (a 0 0))) ∧ ∀ s, i ≤ s → s < a 0 0 → n.testBit s = true → pw_lo a t s (a 0 0) ≤ pw_hi a t s (a 0 0)) := fun hz => by
      rcases ih (i + 1) k N (by omega) (by omega) SN N25 (NI hz) with ⟨M', e1, s1, s, g1, g2, g3, g4⟩ | ⟨M', e1, s1, f25, f1, g1⟩
      · exact Or.inl ⟨M', e1, sN.tr s1, s, by omega, g2, g3, g4⟩
      · refine Or.inr ⟨M', e1, sN.tr s1, f25, f1, fun s h1 h2 h3 => ?_⟩
        by_cases e : s = i
        · subst e
          rw [← hL, ← hH]
          exact hz h3
        · exact g1 s (by omega) h2 h3
    by_cases q : n.testBit i = true
    · rw [if_pos q, if_pos (show (1 : Int32) = 1 from rfl)]
      by_cases z : L ≤ H
      · rw [if_neg (fun w => by rw [pn_e0 (by omega)] at w; omega)]
        exact go (fun _ => z)
      · rw [if_pos (by rw [pn_e0 (by omega)]; omega)]
        exact Or.inl ⟨N, rfl, sN, i, Nat.le_refl _, hi6, q, by rw [← hL, ← hH]; exact z⟩
    · rw [if_neg q, if_neg (by decide)]
      exact go (fun z => absurd z q)
/-- what both find: none, or the row -/
theorem x_doubles {MC MR : zz_Mem} {a : pv_A} (hw : pv_W a) (hc : pv_St (pv_cn MC) a) (hr : pv_St (pv_rn MR) a) {t n : Nat} (ht : t < a 0 1) (hn : n < 2 ^ a 0 0) : ∃ MC1 MR1, (∀ k, k ≤ 2 ∨ (6 ≤ k ∧ k ≤ 23) → MC1 k = MC k) ∧ rb_same MR MR1 ∧ ((f_X2_findDoubles (nI t) (nI n) MC = some (-4, MC1) ∧ f_X5_findDoubles (nI t) (nI n) MR = some (0, MR1)) ∨ ∃ T, T ≤ 6 ∧ f_X2_findDoubles (nI t) (nI n) MC = some (nI T, MC1) ∧ f_X5_findDoubles (nI t) (nI n) MR = some (1, MR1) ∧ MR1 0 25 = nI T ∧ ∀ i, i < T → MC1 29 i = MR1 18 i) := by
  have hb := hw.1
  have h64 := pe_64 hb.1 hn
  have s25 : rb_same MR (zz_up MR 0 25 0) := ⟨fun k _ _ => zz_up_ne _ _ _ (by omega), fun j _ => zz_up_ni _ _ _ (by omega)⟩
  have S25 : pv_St (pv_rn (zz_up MR 0 25 0)) a := by rw [(pv_sR s25.1 s25.2).1]; exact hr
  have C := c_dbl1 hw ht h64 (a 0 0) 0 5000 MC (by omega) (by omega) hc (fun s hs => absurd hs (by omega))
  have D := r_dbl1 hw ht h64 (nI n) (a 0 0) 0 5000 (zz_up MR 0 25 0) (by omega) (by omega) S25 (zz_up_at _ _ _ _) (fun s hs => absurd hs (by omega))
  rw [nI_0] at C D
  have bits : ∀ s, s < 6 → n.testBit s = true → s < a 0 0 := fun s hs hbit => by
    rcases Nat.lt_or_ge s (a 0 0) with q | q
    · exact q
    · rw [pe_hi hb.1 hn hs q] at hbit
      cases hbit
  rcases C with ⟨M1, e1, s1, s, c1, c2, c3, c4⟩ | ⟨M1, e1, s1, f1, g1⟩
  · rcases D with ⟨N1, d1, d2, -⟩ | ⟨N1, d1, d2, d3, d4, d5⟩
    · refine ⟨M1, N1, fun k hk => s1 k (by omega) (by omega), s25.tr d2, Or.inl ⟨?_, ?_⟩⟩
      · unfold f_X2_findDoubles
        rw [e1]
        rfl
      · unfold f_X5_findDoubles
        rw [d1]
        rfl
    · exact absurd (d5 s (by omega) c2 c3) c4
  · rcases D with ⟨N1, d1, d2, s, c1, c2, c3, c4⟩ | ⟨N1, d1, d2, d3, d4, d5⟩
    · exact absurd (g1 s (by omega) c2 c3) c4
    · have hg : ∀ s, s < 6 → n.testBit s = true → pw_lo a t s (a 0 0) ≤ pw_hi a t s (a 0 0) ∧ pw_hi a t s (a 0 0) ≤ 99 := fun s hs hbit => ⟨g1 s (by omega) (bits s hs hbit) hbit, pw_hi_le a t s _⟩
      obtain ⟨T, hT, t0, t1⟩ := pe_end (lo := fun s => pw_lo a t s (a 0 0)) (hi := fun s => pw_hi a t s (a 0 0)) h64 hg
      have SN : pv_St (pv_rn N1) a := by rw [(pv_sR d2.1 d2.2).1]; exact S25
      have ec := c_fill (M := M1) (T := T) h64 (fun s hs hbit => ⟨(f1 s (bits s hs hbit) hbit).1, pw_lo_le hw ht (bits s hs hbit) _ (by omega)⟩) (fun s hs hbit => ⟨(f1 s (bits s hs hbit) hbit).2, pw_hi_le a t s _⟩) hg hT t0 t1
      obtain ⟨z, er⟩ := r_fill SN hw (T := T) hn (fun s hs hbit => ⟨(d4 s (bits s hs hbit) hbit).1, pw_lo_le hw ht (bits s hs hbit) _ (by omega)⟩) (fun s hs hbit => ⟨(d4 s (bits s hs hbit) hbit).2, pw_hi_le a t s _⟩) hg hT t0 t1 d3 (nI t) (nI n) (nI (a 0 0))
      refine ⟨zz_set M1 29 (fun x => if x < T then nI (pe_lh 99 (fun s => pw_hi a t s (a 0 0)) (pe_it (fun s => pw_lo a t s (a 0 0)) (fun s => pw_hi a t s (a 0 0)) n x) 6) else M1 29 x), zz_up (zz_set N1 18 (fun x => if x < T then nI (pe_lh 99 (fun s => pw_hi a t s (a 0 0)) (pe_it (fun s => pw_lo a t s (a 0 0)) (fun s => pw_hi a t s (a 0 0)) n x) 6) else N1 18 x)) 0 25 (nI T), fun k hk => ?_, ?_, Or.inr ⟨T, hT, ?_, ?_, zz_up_at _ _ _ _, fun i hi => ?_⟩⟩
      · rw [zz_set_ne _ _ (by omega), s1 k (by omega) (by omega)]
      · exact s25.tr (d2.tr ⟨fun k h1 h2 => by rw [zz_up_ne _ _ _ (by omega), zz_set_ne _ _ (by omega)], fun j hj => by rw [zz_up_ni _ _ _ (by omega), zz_set_ne _ _ (by omega)]⟩)
      · unfold f_X2_findDoubles
        rw [e1]
        show zz_b2 (f_X2_fillDoublesRow (nI n) M1) _ = _
        rw [ec, zb2]
      · unfold f_X5_findDoubles
        rw [d1]
        show zz_b3 (f_X5_findDoubles_73 (nI t) (nI n) 5000 (nI n) (nI (a 0 0)) N1) _ = _
        rw [er, zb3]
      · rw [zz_set_self, zz_up_ne _ _ _ (by omega), zz_set_self, if_pos hi, if_pos hi]
theorem st_doubles : zz_Step_doubles pv_Rel := by
  intro MC MR hR x y
  obtain ⟨⟨a, hw, hc, hx, hr⟩, hk⟩ := id hR
  have hb := hw.1
  unfold f_X4_doubles f_X5_doubles
  simp only [c_isT hc, r_isT hr hw, c_isSet hc hw, r_isSet hr hw, zb2, pv_ift]
  cases h1 : pv_ok x (a 0 1) with
  | false => exact ⟨-1, MC, MR, rfl, rfl, hR⟩
  | true =>
    cases h2 : pe_ok y (a 0 0) with
    | false => exact ⟨-1, MC, MR, rfl, rfl, hR⟩
    | true =>
      obtain ⟨t, ht, rfl⟩ := pv_ok_of (by omega) h1
      obtain ⟨n, hn, rfl⟩ := pe_ok_of hb.1 h2
      obtain ⟨MC1, MR1, s1, s2, ⟨e1, e2⟩ | ⟨T, hT, e1, e2, e3, e4⟩⟩ := x_doubles hw hc hr ht hn
      · simp only [if_true, e1, e2, zb2]
        exact ⟨-4, MC1, MR1, rfl, rfl, hR.same s1 s2.1 s2.2⟩
      · simp only [if_true, e1, e2, zb2, e3]
        exact ⟨nI T, MC1, MR1, rfl, rfl, hR.same s1 s2.1 s2.2⟩
theorem st_twin : zz_Step_twin pv_Rel := by
  intro MC MR hR x y z
  obtain ⟨⟨a, hw, hc, hx, hr⟩, hk⟩ := id hR
  have hb := hw.1
  unfold f_X4_twin f_X5_twin
  simp only [c_isT hc, r_isT hr hw, c_isSet hc hw, r_isSet hr hw, zb2, pv_ift]
  cases h1 : pv_ok x (a 0 1) with
  | false => exact ⟨-1, MC, MR, rfl, rfl, hR⟩
  | true =>
    cases h2 : pe_ok y (a 0 0) with
    | false => exact ⟨-1, MC, MR, rfl, rfl, hR⟩
    | true =>
      obtain ⟨t, ht, rfl⟩ := pv_ok_of (by omega) h1
      obtain ⟨n, hn, rfl⟩ := pe_ok_of hb.1 h2
      obtain ⟨MC1, MR1, s1, s2, ⟨e1, e2⟩ | ⟨T, hT, e1, e2, e3, e4⟩⟩ := x_doubles hw hc hr ht hn
      · simp only [if_true, e1, e2, zb2]
        have hR1 := hR.same s1 s2.1 s2.2
        refine ⟨-4, MC1, MR1, ?_, rfl, hR1⟩
        by_cases q : z < 0
        · rw [if_pos q]
        · rw [if_neg q, if_neg (fun w => by
            rw [Int32.lt_iff_toInt_lt] at q w
            rw [show (-4 : Int32).toInt = -4 from by decide] at w
            rw [show (0 : Int32).toInt = 0 from rfl] at q
            omega)]
      · have hR1 := hR.same s1 s2.1 s2.2
        have eb : pv_bt z 0 (nI T - 1) = pv_ok z T := by unfold pv_bt pv_ok; simp only [pn_lt1 (show T < 2 ^ 30 by omega)]
        simp only [if_true, e1, e2, zb2, e3, r_in, eb, pv_ift]
        rw [if_neg (show ¬ (1 : Int32) = 0 by decide)]
        cases h3 : pv_ok z T with
        | true =>
          obtain ⟨i, hi, rfl⟩ := pv_ok_of (by omega) h3
          rw [if_neg (nI_pos (by omega)), if_pos (nI_lt hi (by omega)), if_pos (show zz_in (nI i) 6 from pn_in (by omega) (by omega)), if_pos (show true = true from rfl), if_pos (show zz_in (nI i) 6 from pn_in (by omega) (by omega)), nI_clamp (by omega), e4 i hi]
          exact ⟨_, MC1, MR1, rfl, rfl, hR1⟩
        | false =>
          refine ⟨-4, MC1, MR1, ?_, rfl, hR1⟩
          by_cases q : z < 0
          · rw [if_pos q]
          · rw [if_neg q, if_neg (fun w => by
              have : pv_ok z T = true := by
                simp only [pv_ok, Bool.and_eq_true, Bool.not_eq_true', decide_eq_false_iff_not]
                exact ⟨q, fun w2 => Int32.lt_irrefl (Int32.lt_of_lt_of_le w w2)⟩
              rw [this] at h3
              cases h3)]
