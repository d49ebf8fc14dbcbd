theorem st_two : lw_S4 II C_two R_two := by
  intro j q r v1 v2 v3 v4 _ h
  simp only [C_two, R_two, C_isOneTwice, pp_lj]
  obtain ⟨q1, r1, n1, n2, -, -, hI1⟩ := pi_no h (Or.inl rfl)
  obtain ⟨q2, r2, n3, n4, -, -, hI2⟩ := pi_no h (Or.inr (Or.inl rfl))
  obtain ⟨q3, r3', n5, n6, -, -, hI3⟩ := pi_no h (Or.inr (Or.inr (Or.inl rfl)))
  have hC : CW 9999 (40 * j) (cc_gC q 0) r := h.1
  have m1 : ¬ (-1 : Int32) = 0 := by decide
  have m2 : ¬ (-2 : Int32) = 0 := by decide
  have m3 : ¬ (-3 : Int32) = 0 := by decide
  simp only [if_neg m1, if_neg m2, if_neg m3, if_neg pu_10, n1, n2, n3, n4, n5, n6, pp_ob_s, if_true]
  rcases pq_pl hC v1 with ⟨p1, hp1, -, e1, f1⟩ | ⟨e1, f1, -⟩ <;> rw [e1, f1, pp_ob_s, pp_ob_s]
  rotate_left
  · rw [if_pos rfl, if_pos rfl]; exact ⟨_, _, _, rfl, rfl, hI1⟩
  rw [if_neg pu_10, if_neg pu_10]
  rcases pq_pl hC v2 with ⟨p2, hp2, -, e2, f2⟩ | ⟨e2, f2, -⟩ <;> rw [e2, f2, pp_ob_s, pp_ob_s]
  rotate_left
  · rw [if_pos rfl, if_pos rfl]; exact ⟨_, _, _, rfl, rfl, hI1⟩
  rw [if_neg pu_10, if_neg pu_10]
  rcases pq_pl hC v3 with ⟨p3, hp3, -, e3, f3⟩ | ⟨e3, f3, -⟩ <;> rw [e3, f3, pp_ob_s, pp_ob_s]
  rotate_left
  · rw [if_pos rfl, if_pos rfl]; exact ⟨_, _, _, rfl, rfl, hI1⟩
  rw [if_neg pu_10, if_neg pu_10]
  by_cases h12 : v1 = v2
  · rw [if_pos h12, if_pos h12, pp_ob_s, if_neg pu_10]; exact ⟨_, _, _, rfl, rfl, hI1⟩
  rw [if_neg h12, if_neg h12]
  by_cases h13 : v1 = v3
  · rw [if_pos h13, if_pos h13, pp_ob_s, if_neg pu_10]; exact ⟨_, _, _, rfl, rfl, hI1⟩
  rw [if_neg h13, if_neg h13]
  by_cases h23 : v2 = v3
  · rw [if_pos h23, if_pos h23, pp_ob_s, if_neg pu_10]; exact ⟨_, _, _, rfl, rfl, hI1⟩
  rw [if_neg h23, if_neg h23, pp_ob_s, if_pos rfl]
  rcases pi_three v4 with ⟨h4, e4, f4, -⟩ | ⟨e4, f4, -⟩ <;> rw [e4, f4, pp_ob_s, pp_ob_s]
  rotate_left
  · rw [if_pos rfl, if_pos rfl]; exact ⟨_, _, _, rfl, rfl, hI2⟩
  rw [if_neg pu_10, if_neg pu_10]
  rcases pq_could hC v1 v3 with ⟨e5, f5⟩ | ⟨a, a', z, ha, ha', rfl, rfl, e5, g5, f5⟩ <;> rw [e5, f5, pp_ob_s, pp_ob_s]
  · rw [if_pos rfl, if_pos rfl]; exact ⟨_, _, _, rfl, rfl, hI3⟩
  rw [if_neg pu_10]
  rcases pq_could hC v2 (nI a') with ⟨e6, f6⟩ | ⟨b, b', z', hb, hb', rfl, hbb, e6, g6, f6⟩ <;> rw [e6, f6, pp_ob_s, pp_ob_s]
  · rw [if_pos rfl, if_pos rfl]
    by_cases hz : z = 0
    · rw [if_pos hz, if_pos rfl]; exact ⟨_, _, _, rfl, rfl, hI3⟩
    · rw [if_neg hz, if_neg pu_10]; exact ⟨_, _, _, rfl, rfl, hI3⟩
  rw [if_neg pu_10, g5, pp_ob_s]
  by_cases hz : z = 0
  · rw [if_pos hz, if_pos rfl, if_pos hz]; exact ⟨_, _, _, rfl, rfl, hI3⟩
  rw [if_neg hz, if_neg pu_10, if_neg hz, g6, pp_ob_s]
  by_cases hz' : z' = 0
  · rw [if_pos hz', if_pos rfl, if_pos hz']; exact ⟨_, _, _, rfl, rfl, hI3⟩
  rw [if_neg hz', if_neg pu_10, if_neg hz']
  obtain ⟨c, c1, c2⟩ := pq_hit hC (by decide) ha ha' h4
  obtain ⟨d, d1, d2⟩ := pq_hit hC (by decide) hb ha' h4
  rw [c1, c2, pp_ob_s, pp_ob_s, d1, d2, pp_ob_s, pp_ob_s]
  exact ⟨_, _, _, rfl, rfl, h.up⟩
