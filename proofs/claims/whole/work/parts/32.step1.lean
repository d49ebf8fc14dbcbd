/-! the calls, one after another -/
theorem pu_le0 {v : Int32} : (0 : Int32) ≤ v ↔ ¬ v < 0 := ⟨fun h => Int32.not_lt.mpr h, fun h => Int32.not_lt.mp h⟩
theorem pu_chr : ∀ v, v ≤ 255 → vp_nar .char ((Int32.toUInt32 (nI v) % 65536).toInt32) = nI v := by decide +kernel
theorem pu_x {q : rr_S} {k : Nat} {a : Int32} : ((rr_I q k a).1 k) = a := rr_Ie
theorem pi_ball (v : Int32) : (∃ b, b < 6 ∧ v = nI b ∧ R_isBall v = some 1 ∧ C_isBall v = some 1) ∨ (R_isBall v = some 0 ∧ C_isBall v = some 0 ∧ ∀ b, b < 6 → v ≠ nI b) := by
  simp only [R_isBall, C_isBall, pp_lj]
  rcases pu_int v with hv | ⟨k, rfl, hk⟩
  · right
    rw [if_pos hv]
    exact ⟨rfl, rfl, fun b hb he => pu_neg (a := b) (by omega) (he ▸ hv)⟩
  · rw [if_neg (pu_neg hk), pu_6]
    by_cases h6 : nI 6 ≤ nI k
    · right
      have := (nI_leI (by decide) hk).mp h6
      rw [if_pos h6]
      exact ⟨rfl, rfl, fun b hb he => by have := (nI_eq hk (by omega)).mp he; omega⟩
    · left
      refine ⟨k, ?_, rfl, ?_⟩
      · apply Nat.lt_of_not_le; exact fun h => h6 ((nI_leI (by decide) hk).mpr h)
      · rw [if_neg h6]; exact ⟨rfl, rfl⟩
theorem pi_three (v : Int32) : ((v = 0 ∨ v = 1 ∨ v = 2) ∧ R_isIn v 0 2 = some 1 ∧ C_isHow v = some 1 ∧ C_isEnd v = some 1) ∨ (R_isIn v 0 2 = some 0 ∧ C_isHow v = some 0 ∧ C_isEnd v = some 0) := by
  simp only [R_isIn, C_isHow, C_isEnd, pp_lj]
  rcases pu_int v with hv | ⟨k, rfl, hk⟩
  · right
    rw [if_pos hv, if_pos hv]
    exact ⟨rfl, rfl, rfl⟩
  · rw [if_neg (pu_neg hk), if_neg (pu_neg hk), show (3 : Int32) = nI 3 from by decide +kernel, show (2 : Int32) = nI 2 from by decide +kernel, show (1 : Int32) = nI 1 from by decide +kernel, pu_0]
    by_cases h3 : nI 3 ≤ nI k
    · right
      have h4 := (nI_leI (by decide) hk).mp h3
      rw [if_pos h3, if_pos (nI_lt (by omega) hk)]
      exact ⟨rfl, rfl, rfl⟩
    · left
      have h4 : ¬ 3 ≤ k := fun h => h3 ((nI_leI (by decide) hk).mpr h)
      rw [if_neg h3, if_neg (nI_nlt (by omega) (by decide))]
      refine ⟨?_, rfl, rfl, rfl⟩
      rcases (show k = 0 ∨ k = 1 ∨ k = 2 by omega) with rfl | rfl | rfl
      · exact Or.inl rfl
      · exact Or.inr (Or.inl rfl)
      · exact Or.inr (Or.inr rfl)
theorem st_clear : lw_S0 II C_clear R_clear := by
  intro j q r _ h
  obtain ⟨a, ⟨b1, b2⟩, c, ⟨m, d1, d2, d3, d4⟩, e⟩ := h.up
  simp only [C_clear, R_clear, pp_lj]
  refine ⟨q.1.1 7, _, _, rfl, by rw [d3, d2], ?_⟩
  refine ⟨a.frame (fun k hk => rr_In (by omega)) (fun k _ _ => rfl), ⟨b1, b2.imp id (fun h => ⟨h.1, ?_⟩)⟩, c, ⟨0, by decide, pu_0, pu_0, fun k hk => absurd hk (Nat.not_lt_zero k)⟩, e⟩
  exact h.2.image rfl
theorem st_ball : lw_S2 II C_ball R_ball := by
  intro j q r v1 v2 _ h
  simp only [C_ball, R_ball]
  obtain ⟨q1, r1, n1, n2, -, -, hI⟩ := pi_no h (Or.inl rfl)
  obtain ⟨q2, r2, n3, n4, -, -, hI2⟩ := pi_no h (Or.inr (Or.inl rfl))
  rcases pi_ball v1 with ⟨b, hb, rfl, e1, e2⟩ | ⟨e1, e2, -⟩
  · obtain ⟨d1, d2, d3⟩ := h.1.2.2.2.2.1 b hb
    rw [e1, e2, pp_ob_s, pp_ob_s, if_neg pu_10, if_neg pu_10]
    simp only [K_holderOf, K_floorOf, K_heldOf]
    rw [e2, pp_ob_s, pp_ob_s, pp_ob_s, if_neg pu_10, if_neg pu_10, if_neg pu_10]
    simp only [pp_ix_n hb (show 6 < 2 ^ 31 by decide), pu_c (show b < 2 ^ 31 by omega), pp_ob_s]
    have d1 : (cc_gC q 0).1.2.1 4 b = r.2.1 6 b := d1
    have d2 : (cc_gC q 0).1.2.1 5 b = r.2.1 7 b := d2
    have d3 : (cc_gC q 0).1.2.1 6 b = r.2.1 8 b := d3
    rw [d1, d2, d3]
    by_cases h0 : v2 = 0
    · rw [if_pos h0, if_pos h0]; exact ⟨_, _, _, rfl, rfl, h.up⟩
    rw [if_neg h0, if_neg h0]
    by_cases h1 : v2 = 1
    · rw [if_pos h1, if_pos h1]; exact ⟨_, _, _, rfl, rfl, h.up⟩
    rw [if_neg h1, if_neg h1]
    by_cases h2 : v2 = 2
    · rw [if_pos h2, if_pos h2]; exact ⟨_, _, _, rfl, rfl, h.up⟩
    rw [if_neg h2, if_neg h2, n3, n4]
    exact ⟨_, _, _, rfl, rfl, hI2⟩
  · rw [e1, e2, pp_ob_s, pp_ob_s, if_pos rfl, if_pos rfl, n1, n2]
    exact ⟨_, _, _, rfl, rfl, hI⟩
theorem st_odds : lw_S4 II C_odds R_odds := by
  intro j q r v1 v2 v3 v4 _ h
  simp only [C_odds, R_odds, pp_lj]
  obtain ⟨q1, r1, n1, n2, -, -, hI1⟩ := pi_no h (Or.inl rfl)
  obtain ⟨q2, r2, n3, n4, -, -, hI2⟩ := pi_no h (Or.inr (Or.inl rfl))
  obtain ⟨q3, r3, n5, n6, -, -, hI3⟩ := pi_no h (Or.inr (Or.inr (Or.inl rfl)))
  have hC : CW 9999 (40 * j) (cc_gC q 0) r := h.1
  have m1 : ¬ (-1 : Int32) = 0 := by decide
  have m2 : ¬ (-2 : Int32) = 0 := by decide
  have m3 : ¬ (-3 : Int32) = 0 := by decide
  rw [if_neg m1, if_neg m2, if_neg m3, if_pos trivial]
  rw [n1, n2, n3, n4, n5, n6]
  simp only [pp_ob_s]
  rcases pq_pl hC v1 with ⟨p1, hp1, -, e1, f1⟩ | ⟨e1, f1, -⟩ <;> rw [e1, f1, pp_ob_s, pp_ob_s]
  rotate_left
  · rw [if_pos rfl, if_pos rfl]; exact ⟨_, _, _, rfl, rfl, hI1⟩
  rw [if_neg pu_10, if_neg pu_10]
  rcases pq_pl hC v2 with ⟨p2, hp2, -, e2, f2⟩ | ⟨e2, f2, -⟩ <;> rw [e2, f2, pp_ob_s, pp_ob_s]
  rotate_left
  · rw [if_pos rfl, if_pos rfl]; exact ⟨_, _, _, rfl, rfl, hI1⟩
  rw [if_neg pu_10, if_neg pu_10]
  rcases pi_three v3 with ⟨h3, e3, f3, -⟩ | ⟨e3, f3, -⟩ <;> rw [e3, f3, pp_ob_s, pp_ob_s]
  rotate_left
  · rw [if_pos rfl, if_pos rfl]; exact ⟨_, _, _, rfl, rfl, hI2⟩
  rw [if_neg pu_10, if_neg pu_10]
  rcases pi_three v4 with ⟨h4, e4, -, f4⟩ | ⟨e4, -, f4⟩ <;> rw [e4, f4, pp_ob_s, pp_ob_s]
  rotate_left
  · rw [if_pos rfl, if_pos rfl]; exact ⟨_, _, _, rfl, rfl, hI2⟩
  rw [if_neg pu_10, if_neg pu_10]
  rcases pq_ag hC v1 v2 with ⟨p, p', hp, hp', rfl, rfl, -, -, -, e5, f5⟩ | ⟨e5, f5⟩ <;> rw [e5, f5, pp_ob_s, pp_ob_s]
  rotate_left
  · rw [if_pos rfl, if_pos rfl]; exact ⟨_, _, _, rfl, rfl, hI3⟩
  rw [if_neg pu_10, if_neg pu_10]
  obtain ⟨a, a1, a2⟩ := pq_hit hC (by decide) hp hp' h3
  obtain ⟨d, d1, d2⟩ := pq_caught hC hp' h3
  rw [a1, a2, pp_ob_s, pp_ob_s, d1, d2, pp_ob_s, pp_ob_s]
  by_cases h0 : v4 = 0
  · rw [if_pos h0, if_pos h0]; exact ⟨_, _, _, rfl, rfl, h.up⟩
  rw [if_neg h0, if_neg h0]
  by_cases h1 : v4 = 1
  · rw [if_pos h1, if_pos h1]; exact ⟨_, _, _, rfl, rfl, h.up⟩
  rw [if_neg h1, if_neg h1]
  exact ⟨_, _, _, rfl, rfl, h.up⟩
theorem st_player : lw_S2 II C_player R_player := by
  intro j q r v1 v2 _ h
  simp only [C_player, R_player]
  obtain ⟨q1, r1, n1, n2, -, -, hI1⟩ := pi_no h (Or.inl rfl)
  obtain ⟨q2, r2, n3, n4, -, -, hI2⟩ := pi_no h (Or.inr (Or.inl rfl))
  have hC : CW 9999 (40 * j) (cc_gC q 0) r := h.1
  rcases pq_pl hC v1 with ⟨p, hp, rfl, e1, f1⟩ | ⟨e1, f1, -⟩ <;> rw [e1, f1, pp_ob_s, pp_ob_s]
  rotate_left
  · rw [if_pos rfl, if_pos rfl, n1, n2]; exact ⟨_, _, _, rfl, rfl, hI1⟩
  rw [if_neg pu_10, if_neg pu_10]
  have hp8 := pq_lt hC hp
  by_cases h0 : v2 = 0
  · rw [if_pos h0, if_pos h0, pp_ix_n hp8 (by decide), pu_c (by omega), pq_side hC hp]; exact ⟨_, _, _, rfl, rfl, h.up⟩
  rw [if_neg h0, if_neg h0]
  by_cases h1 : v2 = 1
  · rw [if_pos h1, if_pos h1, pp_ix_n hp8 (by decide), pu_c (by omega), pq_kind hC hp]; exact ⟨_, _, _, rfl, rfl, h.up⟩
  rw [if_neg h1, if_neg h1]
  by_cases h2 : v2 = 2
  · rw [if_pos h2, if_pos h2, (pq_in hC hp).2, pp_ob_s, pp_ix_n hp8 (by decide), pu_c (by omega)]
    have e5 := (pq_row hC hp).2.2.2.2
    by_cases ho : zc r 5 p = 0
    · rw [if_pos ho, if_neg pu_10, if_pos (by rw [e5, ho]; decide +kernel)]; exact ⟨_, _, _, rfl, rfl, h.up⟩
    · rw [if_neg ho, if_pos rfl, if_neg (fun e => ho (by show (r.2.1 5 p).toNatClampNeg = 0; rw [e]; decide +kernel))]; exact ⟨_, _, _, rfl, rfl, h.up⟩
  rw [if_neg h2, if_neg h2]
  by_cases h3 : v2 = 3
  · obtain ⟨m, -, -, a, b⟩ := pq_balls hC hp
    rw [if_pos h3, if_pos h3, a, b]; exact ⟨_, _, _, rfl, rfl, h.up⟩
  rw [if_neg h3, if_neg h3]
  by_cases h4 : v2 = 4
  · obtain ⟨m, a, b⟩ := pq_aim hC (by decide) hp
    rw [if_pos h4, if_pos h4, a, b]; exact ⟨_, _, _, rfl, rfl, h.up⟩
  rw [if_neg h4, if_neg h4]
  by_cases h5 : v2 = 5
  · obtain ⟨m, a, b⟩ := pq_dodge hC hp
    rw [if_pos h5, if_pos h5, a, b]; exact ⟨_, _, _, rfl, rfl, h.up⟩
  rw [if_neg h5, if_neg h5]
  by_cases h6 : v2 = 6
  · obtain ⟨m, a, b⟩ := pq_grasp hC hp
    rw [if_pos h6, if_pos h6, a, b]; exact ⟨_, _, _, rfl, rfl, h.up⟩
  rw [if_neg h6, if_neg h6, n3, n4]
  exact ⟨_, _, _, rfl, rfl, hI2⟩
theorem upd_n {f : Nat → Int32} {k i : Nat} {v : Int32} (h : i ≠ k) : upd f k v i = f i := if_neg h
theorem upd_e {f : Nat → Int32} {k : Nat} {v : Int32} : upd f k v k = v := if_pos rfl
theorem pi_bound {v : Int32} {most : Nat} (hm : most < 2 ^ 30) : (v < 0 ∧ R_bound v 0 (nI most) = some (-4)) ∨ (∃ k, v = nI k ∧ k < 2 ^ 31 ∧ most < k ∧ R_bound v 0 (nI most) = some (-6)) ∨ (∃ k, v = nI k ∧ k ≤ most ∧ R_bound v 0 (nI most) = some 0) := by
  unfold R_bound
  rcases pu_int v with hv | ⟨k, rfl, hk⟩
  · exact Or.inl ⟨hv, if_neg (fun h => (pu_le0.mp h) hv)⟩
  · rw [if_pos (pu_le0.mpr (pu_neg hk))]
    by_cases h : k ≤ most
    · exact Or.inr (Or.inr ⟨k, rfl, h, if_pos ((nI_leI hk (by omega)).mpr h)⟩)
    · exact Or.inr (Or.inl ⟨k, rfl, hk, by omega, if_neg (fun h2 => h ((nI_leI hk (by omega)).mp h2))⟩)
theorem pu_some {α β : Type} {a a' : α} {b : β} (h : a = a') : some (a, b) = some (a', b) := by rw [h]
theorem st_row : lw_S1 II C_row R_row := by
  intro j q r v1 _ h
  simp only [C_row, R_row, pp_lj]
  obtain ⟨q4, r4, n7, n8, -, -, hI4⟩ := pi_no h (Or.inr (Or.inr (Or.inr (Or.inl rfl))))
  obtain ⟨q6, r6, n9, n10, -, -, hI6⟩ := pi_no h (Or.inr (Or.inr (Or.inr (Or.inr rfl))))
  have m4 : ¬ (-4 : Int32) = 0 := by decide
  have m6 : ¬ (-6 : Int32) = 0 := by decide
  rw [n7, n9]
  have e12 : (9999 : Int32) = nI 9999 := by decide +kernel
  have e13 : (12 : Int32) = nI 12 := by decide +kernel
  rw [e12]
  rcases pi_bound (v := v1) (most := 9999) (by decide) with ⟨hv, e⟩ | ⟨k, rfl, hk, hk2, e⟩ | ⟨k, rfl, hk, e⟩ <;> rw [e] <;> simp only [pp_ob_s]
  · rw [if_neg (fun h => (pu_le0.mp h) hv), if_neg m4, if_neg m4, n8]; exact ⟨_, _, _, rfl, rfl, hI4⟩
  · rw [if_pos (pu_le0.mpr (pu_neg hk)), if_pos (nI_lt hk2 hk), if_neg m6, if_neg m6, n10]; exact ⟨_, _, _, rfl, rfl, hI6⟩
  · rw [if_pos (pu_le0.mpr (pu_neg (by omega))), if_neg (nI_nlt (by omega) (by decide))]
    simp only [if_true]
    obtain ⟨a, ⟨b1, b2⟩, c, ⟨m, d1, d2, d3, d4⟩, f⟩ := h.up
    rw [d2, d3, e13]
    by_cases hm : m = 12
    · subst hm
      rw [if_neg (nI_nlt (by decide) (by decide)), if_pos rfl, if_neg m6, n10]; exact ⟨_, _, _, rfl, rfl, hI6⟩
    · have hm' : m < 12 := by omega
      rw [if_pos (nI_lt hm' (by decide)), if_neg (pu_ne (by omega) (by decide) hm), pp_ix_n hm' (by decide), pp_ix_n hm' (by decide), pu_c (by omega)]
      refine ⟨nI (m + 1), _, _, pu_some ?_, pu_some ?_, ?_⟩
      · show (q.1.1 7) + 1 = _
        rw [d2, pu_i1]
      · show (r.1 26) + 1 = _
        rw [d3, pu_i1]
      · refine ⟨a.frame (fun k hk => rr_In (by omega)) (fun k _ _ => rr_An (by omega)), ⟨b1, b2.imp id (fun h => ⟨h.1, h.2.image rfl⟩)⟩, c, ⟨m + 1, by omega, ?_, ?_, fun i hi => ?_⟩, f⟩
        · show q.1.1 7 + 1 = _
          rw [d2, pu_i1]
        · show r.1 26 + 1 = _
          rw [d3, pu_i1]
        · show upd (q.1.2.1 6) m (nI k) i = upd (r.2.1 25) m (nI k) i ∧ ∃ v, v ≤ 9999 ∧ upd (r.2.1 25) m (nI k) i = nI v
          by_cases him : i = m
          · subst him; rw [upd_e, upd_e]; exact ⟨rfl, k, hk, rfl⟩
          · rw [upd_n him, upd_n him]; exact d4 i (by omega)
theorem st_letter : lw_S1 II C_letter R_letter := by
  intro j q r v1 _ h
  simp only [C_letter, R_letter, T_append, T_isFull, pp_lj]
  obtain ⟨q4, r4, n7, n8, -, -, hI4⟩ := pi_no h (Or.inr (Or.inr (Or.inr (Or.inl rfl))))
  obtain ⟨q6, r6, n9, n10, -, -, hI6⟩ := pi_no h (Or.inr (Or.inr (Or.inr (Or.inr rfl))))
  have m4 : ¬ (-4 : Int32) = 0 := by decide
  have m6 : ¬ (-6 : Int32) = 0 := by decide
  rw [n7, n9]
  have e12 : (255 : Int32) = nI 255 := by decide +kernel
  have e13 : (80 : Int32) = nI 80 := by decide +kernel
  have e14 : Int32.ofNat 80 = nI 80 := by decide +kernel
  rw [e12]
  rcases pi_bound (v := v1) (most := 255) (by decide) with ⟨hv, e⟩ | ⟨k, rfl, hk, hk2, e⟩ | ⟨k, rfl, hk, e⟩ <;> rw [e] <;> simp only [pp_ob_s]
  · rw [if_neg (fun h => (pu_le0.mp h) hv), if_neg m4, if_neg m4, n8]; exact ⟨_, _, _, rfl, rfl, hI4⟩
  · rw [if_pos (pu_le0.mpr (pu_neg hk)), if_pos (nI_lt hk2 hk), if_neg m6, if_neg m6, n10]; exact ⟨_, _, _, rfl, rfl, hI6⟩
  · rw [if_pos (pu_le0.mpr (pu_neg (by omega))), if_neg (nI_nlt (by omega) (by decide))]
    simp only [if_true]
    obtain ⟨a, ⟨b1, b2⟩, c, d, ⟨m, d1, d2, d3, d4⟩⟩ := h.up
    have d2 : (cc_gT q).1 1 = nI m := d2
    rw [d2, d3, e13, e14]
    by_cases hm : m = 80
    · subst hm
      rw [if_neg (nI_nlt (by decide) (by decide)), if_pos rfl, if_neg m6, n10, pp_ob_s, if_neg pu_10]; exact ⟨_, _, _, rfl, rfl, hI6⟩
    · have hm' : m < 80 := by omega
      rw [if_pos (nI_lt hm' (by decide)), if_neg (pu_ne (by omega) (by decide) hm), pp_ob_s, if_pos rfl, pp_ob_s, if_pos rfl, pp_ix_n hm' (by decide), pp_ix_n hm' (by decide), pu_c (by omega), pu_chr k hk, pp_ob_s]
      refine ⟨nI (m + 1), _, _, pu_some ?_, pu_some ?_, ?_⟩
      · show (cc_gT q).1 1 + 1 = _
        rw [d2, pu_i1]
      · show (r.1 16) + 1 = _
        rw [d3, pu_i1]
      · refine ⟨a.frame (fun k hk => rr_In (by omega)) (fun k _ _ => rr_An (by omega)), ⟨b1, b2.imp id (fun h => ⟨h.1, h.2.image rfl⟩)⟩, c, d, ⟨m + 1, by omega, ?_, ?_, fun i hi => ?_⟩⟩
        · show (cc_gT q).1 1 + 1 = _
          rw [d2, pu_i1]
        · show r.1 16 + 1 = _
          rw [d3, pu_i1]
        · show upd (q.2.1.2.1 0) m (nI k) i = upd (r.2.1 12) m (nI k) i ∧ ∃ v, v ≤ 255 ∧ upd (r.2.1 12) m (nI k) i = nI v
          by_cases him : i = m
          · subst him; rw [upd_e, upd_e]; exact ⟨rfl, k, hk, rfl⟩
          · rw [upd_n him, upd_n him]; exact d4 i (by omega)
