theorem pi_side (v : Int32) : (∃ s, s < 2 ∧ v = nI s ∧ R_isIn v 0 1 = some 1 ∧ C_isSide v = some 1) ∨ (R_isIn v 0 1 = some 0 ∧ C_isSide v = some 0) := by
  simp only [R_isIn, C_isSide, pp_lj]
  rcases pu_int v with hv | ⟨k, rfl, hk⟩
  · right
    rw [if_pos hv, if_pos hv]; exact ⟨rfl, rfl⟩
  · rw [if_neg (pu_neg hk), if_neg (pu_neg hk), show (2 : Int32) = nI 2 from by decide +kernel, show (1 : Int32) = nI 1 from by decide +kernel]
    by_cases h2 : 2 ≤ k
    · right
      rw [if_pos ((nI_leI (by decide) hk).mpr h2), if_pos (nI_lt (by omega) hk)]; exact ⟨rfl, rfl⟩
    · left
      refine ⟨k, by omega, rfl, ?_⟩
      rw [if_neg (fun h => h2 ((nI_leI (by decide) hk).mp h)), if_neg (nI_nlt (by omega) (by decide))]; exact ⟨rfl, rfl⟩
theorem st_waits : lw_S2 II C_waits R_waits := by
  intro j q r v1 v2 _ h
  simp only [C_waits, R_waits, pp_lj]
  obtain ⟨q1, r1, n1, n2, -, -, hI1⟩ := pi_no h (Or.inl rfl)
  obtain ⟨q4, r4, n7, n8, -, -, hI4⟩ := pi_no h (Or.inr (Or.inr (Or.inr (Or.inl rfl))))
  obtain ⟨q6, r6, n9, n10, -, -, hI6⟩ := pi_no h (Or.inr (Or.inr (Or.inr (Or.inr rfl))))
  have hC : CW 9999 (40 * j) (cc_gC q 0) r := h.1
  have m1 : ¬ (-1 : Int32) = 0 := by decide
  have m4 : ¬ (-4 : Int32) = 0 := by decide
  have m6 : ¬ (-6 : Int32) = 0 := by decide
  rcases pi_side v1 with ⟨s, hs, rfl, e1, f1⟩ | ⟨e1, f1⟩ <;> rw [e1, f1, pp_ob_s, pp_ob_s]
  rotate_left
  · rw [if_pos rfl, if_pos rfl, if_neg m1, n1, n2]; exact ⟨_, _, _, rfl, rfl, hI1⟩
  rw [if_neg pu_10, if_neg pu_10, n7, n9, show (7 : Int32) = nI 7 from by decide +kernel, show (8 : Int32) = nI 8 from by decide +kernel]
  rcases pi_bound (v := v2) (most := 7) (by decide) with ⟨hv, e⟩ | ⟨k, rfl, hk, hk2, e⟩ | ⟨m, rfl, hm, e⟩ <;> rw [e] <;> simp only [pp_ob_s]
  · rw [if_neg (fun h => (pu_le0.mp h) hv), if_neg m4, n8]; exact ⟨_, _, _, rfl, rfl, hI4⟩
  · rw [if_pos (pu_le0.mpr (pu_neg hk)), if_neg (nI_nlt (by omega) hk), if_neg m6, n10]; exact ⟨_, _, _, rfl, rfl, hI6⟩
  · obtain ⟨v, g1, g2⟩ := pq_waits hC hs (m := m) (by omega)
    have g2' : S_waitsAt (cc_gS (cc_gC q 0) s) (nI m) = some v := g2
    rw [if_pos (pu_le0.mpr (pu_neg (by omega))), if_pos (nI_lt (by omega) (by decide)), pk_sideAt hs, pp_ob_s]
    unfold pp_l2
    rw [if_pos hs, g2', pp_ob_s]
    simp only [if_true]
    exact ⟨v, q, r, rfl, g1, h.up⟩
