theorem pu_rng {v : Int32} {hi : Nat} (h1 : ¬ v < 1) (h2 : ¬ nI hi < v) (hh : hi < 2 ^ 31) : ∃ k, 1 ≤ k ∧ k ≤ hi ∧ v = nI k := by
  rcases pu_int v with hv | ⟨k, rfl, hk⟩
  · exact absurd (Int32.lt_trans hv (by decide)) h1
  · refine ⟨k, ?_, ?_, rfl⟩
    · apply Nat.lt_of_not_le
      intro h
      exact h1 (by rw [show (1 : Int32) = nI 1 from by decide +kernel]; exact nI_lt (by omega) (by decide))
    · apply Nat.le_of_not_lt
      intro h
      exact h2 (nI_lt h hk)
theorem st_duel : lw_S6 II C_duel R_duel := by
  intro j q r v1 v2 v3 v4 v5 v6 _ h
  rw [du_eq]
  simp only [C_duel, pp_lj]
  obtain ⟨q2, r2, n3, -, -, n4, hI2⟩ := pi_no h (Or.inr (Or.inl rfl))
  obtain ⟨q4, r4, n7, -, -, n8, hI4⟩ := pi_no h (Or.inr (Or.inr (Or.inr (Or.inl rfl))))
  obtain ⟨q6, r6, n9, -, -, n10, hI6⟩ := pi_no h (Or.inr (Or.inr (Or.inr (Or.inr rfl))))
  have w2 : duD r v1 v2 v3 v4 v5 v6 (-2) = some (4000000000000000000 - Int32.toInt64 (-2), r2) := (if_neg (by decide)).trans (pp_ob_e n4 _)
  have w4 : duD r v1 v2 v3 v4 v5 v6 (-4) = some (4000000000000000000 - Int32.toInt64 (-4), r4) := (if_neg (by decide)).trans (pp_ob_e n8 _)
  have w6 : duD r v1 v2 v3 v4 v5 v6 (-6) = some (4000000000000000000 - Int32.toInt64 (-6), r6) := (if_neg (by decide)).trans (pp_ob_e n10 _)
  have w0 : duD r v1 v2 v3 v4 v5 v6 0 = pp_it (du6 v1 v2 v3 v4 v5 v6) 200 (r, (0 : Int32)) := if_pos rfl
  rw [w2, w4, w6, w0, n3, n7, n9]
  simp only [pp_ob_s]
  by_cases k1 : v1 < 1
  · rw [if_pos k1, if_pos k1]; exact ⟨_, _, _, rfl, rfl, hI4⟩
  rw [if_neg k1, if_neg k1]
  by_cases k2 : v2 < 1
  · rw [if_pos k2, if_pos k2]; exact ⟨_, _, _, rfl, rfl, hI4⟩
  rw [if_neg k2, if_neg k2]
  by_cases k3 : v3 < 1
  · rw [if_pos k3, if_pos k3]; exact ⟨_, _, _, rfl, rfl, hI4⟩
  rw [if_neg k3, if_neg k3]
  by_cases k4 : v4 < 1
  · rw [if_pos k4, if_pos k4]; exact ⟨_, _, _, rfl, rfl, hI4⟩
  rw [if_neg k4, if_neg k4]
  by_cases k5 : 1 ≤ v5
  rotate_left
  · rw [if_neg k5, if_neg k5]; exact ⟨_, _, _, rfl, rfl, hI4⟩
  rw [if_pos k5, if_pos k5]
  by_cases l1 : 4 < v1
  · rw [if_pos l1, if_pos l1]; exact ⟨_, _, _, rfl, rfl, hI6⟩
  rw [if_neg l1, if_neg l1]
  by_cases l2 : 4 < v2
  · rw [if_pos l2, if_pos l2]; exact ⟨_, _, _, rfl, rfl, hI6⟩
  rw [if_neg l2, if_neg l2]
  by_cases l3 : 19 < v3
  · rw [if_pos l3, if_pos l3]; exact ⟨_, _, _, rfl, rfl, hI6⟩
  rw [if_neg l3, if_neg l3]
  by_cases l4 : 19 < v4
  · rw [if_pos l4, if_pos l4]; exact ⟨_, _, _, rfl, rfl, hI6⟩
  rw [if_neg l4, if_neg l4]
  by_cases l5 : v5 ≤ 9
  rotate_left
  · rw [if_neg l5, if_neg l5]; exact ⟨_, _, _, rfl, rfl, hI6⟩
  rw [if_pos l5, if_pos l5]
  have h6 : (v6 < 0 ∧ R_isIn v6 0 3 = some 0) ∨ (¬ v6 < 0 ∧ ¬ v6 ≤ 3 ∧ R_isIn v6 0 3 = some 0) ∨ (¬ v6 < 0 ∧ v6 ≤ 3 ∧ R_isIn v6 0 3 = some 1 ∧ ∃ s, s < 2 ∧ v6 / 2 = nI s ∧ ((s = 0 ∧ ¬ 2 ≤ v6) ∨ (s = 1 ∧ 2 ≤ v6))) := by
    rcases pu_int v6 with hv | ⟨k, rfl, hk⟩
    · left
      refine ⟨hv, ?_⟩
      simp only [R_isIn, pp_lj]
      rw [if_pos hv]
    · right
      have e3 : (3 : Int32) = nI 3 := by decide +kernel
      by_cases hk3 : k ≤ 3
      · right
        refine ⟨pu_neg hk, by rw [e3]; exact nI_le hk3 (by decide), ?_⟩
        rcases (show k = 0 ∨ k = 1 ∨ k = 2 ∨ k = 3 by omega) with rfl | rfl | rfl | rfl
        · exact ⟨by decide +kernel, 0, by decide, by decide +kernel, Or.inl ⟨rfl, by decide +kernel⟩⟩
        · exact ⟨by decide +kernel, 0, by decide, by decide +kernel, Or.inl ⟨rfl, by decide +kernel⟩⟩
        · exact ⟨by decide +kernel, 1, by decide, by decide +kernel, Or.inr ⟨rfl, by decide +kernel⟩⟩
        · exact ⟨by decide +kernel, 1, by decide, by decide +kernel, Or.inr ⟨rfl, by decide +kernel⟩⟩
      · left
        refine ⟨pu_neg hk, by rw [e3]; exact nI_ge (by omega) hk, ?_⟩
        simp only [R_isIn, pp_lj]
        rw [if_neg (pu_neg hk), e3, if_pos (nI_lt (by omega) hk)]
  rcases h6 with ⟨z1, z2⟩ | ⟨z1, z2, z3⟩ | ⟨z1, z2, z3, s, hs2, hv6, hs⟩
  · rw [if_pos z1, z2, pp_ob_s, if_pos rfl]; exact ⟨_, _, _, rfl, rfl, hI2⟩
  · rw [if_neg z1, if_neg z2, z3, pp_ob_s, if_pos rfl]; exact ⟨_, _, _, rfl, rfl, hI2⟩
  rw [if_neg z1, if_pos z2, z3, pp_ob_s, if_neg pu_10]
  have e4 : (4 : Int32) = nI 4 := by decide +kernel
  have e19 : (19 : Int32) = nI 19 := by decide +kernel
  have e9 : (9 : Int32) = nI 9 := by decide +kernel
  rw [e4] at l1 l2
  rw [e19] at l3 l4
  rw [e9] at l5
  obtain ⟨a, a1, a4, rfl⟩ := pu_rng k1 l1 (by decide)
  obtain ⟨b, b1, b4, rfl⟩ := pu_rng k2 l2 (by decide)
  obtain ⟨hh, h1, h19, rfl⟩ := pu_rng k3 l3 (by decide)
  obtain ⟨c, c1, c19, rfl⟩ := pu_rng k4 l4 (by decide)
  obtain ⟨n, n1, n9', rfl⟩ := pu_rng (Int32.not_lt.mpr k5) (Int32.not_lt.mpr l5) (by decide)
  obtain ⟨r', y1, y2, y3⟩ := pr_duM (q := r) (a := a) (b := b) (h := hh) (c := c) (n := n) (by omega) (by omega) (by omega) (by omega) n9' hs
  obtain ⟨x0, x1, x2⟩ := pd_begin (h := hh) (c := c) (x := cc_gD q) (show a < 5 by omega) (show b < 5 by omega)
  obtain ⟨x', g1⟩ := pd_duM (q := q) (h := hh) (c := c) (n := n) (s := s) (v6 := v6) (by omega) (by omega) n9' (by rw [sN_add, sN_zero, if_pos (by omega)]) hs2 hv6 x2
  rw [x1, pp_ob_s, y1]
  refine ⟨_, _, r', g1, rfl, h.courtS rfl rfl rfl rfl rfl ⟨fun k _ => by rw [y2], fun k _ => by rw [y3], fun i _ => by rw [y3]⟩ (h.2.2.2.2.same rfl (by rw [y2]) (by rw [y3])) ?_⟩
  exact (h.1.mono (Nat.le_refl _) (by omega)).frame (fun k _ => by rw [y2]) (fun k _ _ => by rw [y3])
