section CAN
variable {T G : Nat} {x : cc_CT} {r : rr_S} {b : Nat}
theorem pq_can (h : CW T G x r) (hb : b < 6) (w : Int32) : (∃ p q, p < zn r ∧ q < zn r ∧ r.2.1 6 b = nI p ∧ w = nI q ∧ zc r 5 p = 0 ∧ zc r 5 q = 0 ∧ zc r 1 p ≠ zc r 1 q ∧ R_canThrow r (nI b) w = some 1 ∧ K_canThrow x (nI b) w = some 1) ∨ (R_canThrow r (nI b) w = some 0 ∧ K_canThrow x (nI b) w = some 0) := by
  have eH : K_holderOf x (nI b) = some (r.2.1 6 b) := by
    unfold K_holderOf
    rw [pk_isBall hb, pp_ob_s, if_neg pu_10, pp_ix_n hb (by decide), pu_c (by omega), (h.2.2.2.2.1 b hb).1]
  simp only [R_canThrow, K_canThrow, pp_lj]
  rw [eH, pp_ob_s, pp_ix_n hb (by decide), pu_c (by omega)]
  rcases pq_ag h (r.2.1 6 b) w with ⟨p, q, hp, hq, e1, e2, o1, o2, hne, e3, e4⟩ | ⟨e3, e4⟩
  · left
    have hp8 := pq_lt h hp
    refine ⟨p, q, hp, hq, e1, e2, o1, o2, hne, ?_, ?_⟩
    · rw [e3, pp_ob_s, if_neg pu_10, e1, if_neg (pu_neg (by omega))]
    · rw [e4, pp_ob_s, pp_bz_n (Or.inr rfl)]
  · right
    refine ⟨?_, by rw [e4, pp_ob_s, pp_bz_n (Or.inl rfl)]⟩
    rw [e3, pp_ob_s, if_pos rfl]
    split <;> rfl
end CAN
theorem st_throwIt : lw_S4 II C_throwIt R_throwIt := by
  intro j q r v1 v2 v3 v4 hj h
  simp only [C_throwIt, R_throwIt, pp_lj]
  obtain ⟨q1, r1, n1, n2, -, -, hI1⟩ := pi_no h (Or.inl rfl)
  obtain ⟨q2, r2, n3, n4, -, -, hI2⟩ := pi_no h (Or.inr (Or.inl rfl))
  obtain ⟨q3, r3', n5, n6, -, -, hI3⟩ := pi_no h (Or.inr (Or.inr (Or.inl rfl)))
  obtain ⟨q6, r6, n9, n10, -, -, hI6⟩ := pi_no h (Or.inr (Or.inr (Or.inr (Or.inr rfl))))
  have hC : CW 9999 (40 * j) (cc_gC q 0) r := h.1
  have m1 : ¬ (-1 : Int32) = 0 := by decide
  have m2 : ¬ (-2 : Int32) = 0 := by decide
  have m3 : ¬ (-3 : Int32) = 0 := by decide
  have m6 : ¬ (-6 : Int32) = 0 := by decide
  simp only [if_neg m1, if_neg m2, if_neg m3, if_neg m6, n1, n2, n3, n4, n5, n6, n9, n10, pp_ob_s, if_true]
  rcases pi_ball v1 with ⟨b, hb, rfl, e1, f1⟩ | ⟨e1, f1, -⟩ <;> rw [e1, f1, pp_ob_s, pp_ob_s]
  rotate_left
  · rw [if_pos rfl, if_pos rfl]; exact ⟨_, _, _, rfl, rfl, hI1⟩
  rw [if_neg pu_10, if_neg pu_10]
  rcases pq_pl hC v2 with ⟨p2, hp2, -, e2, f2⟩ | ⟨e2, f2, -⟩ <;> rw [e2, f2, pp_ob_s, pp_ob_s]
  rotate_left
  · rw [if_pos rfl, if_pos rfl]; exact ⟨_, _, _, rfl, rfl, hI1⟩
  rw [if_neg pu_10, if_neg pu_10]
  rcases pi_three v3 with ⟨h3, e3, f3, -⟩ | ⟨e3, f3, -⟩ <;> rw [e3, f3, pp_ob_s, pp_ob_s]
  rotate_left
  · rw [if_pos rfl, if_pos rfl]; exact ⟨_, _, _, rfl, rfl, hI2⟩
  rw [if_neg pu_10, if_neg pu_10]
  rcases pi_three v4 with ⟨h4, e4, -, f4⟩ | ⟨e4, -, f4⟩ <;> rw [e4, f4, pp_ob_s, pp_ob_s]
  rotate_left
  · rw [if_pos rfl, if_pos rfl]; exact ⟨_, _, _, rfl, rfl, hI2⟩
  rw [if_neg pu_10, if_neg pu_10]
  rcases pq_can hC hb v2 with ⟨p, p', hp, hp', hh, rfl, o1, o2, hne, e5, f5⟩ | ⟨e5, f5⟩ <;> rw [e5, f5, pp_ob_s, pp_ob_s]
  rotate_left
  · rw [if_pos rfl, if_pos rfl]; exact ⟨_, _, _, rfl, rfl, hI3⟩
  have e99 : (9999 : Int32) = nI 9999 := by decide +kernel
  have ht9 := hC.1.2.1.2
  rw [if_neg pu_10, if_neg pu_10, hC.2.2.1, hC.1.2.1.1, e99]
  by_cases ht : zt r = 9999
  · rw [ht, if_neg (nI_nlt (by decide) (by decide)), if_pos rfl]; exact ⟨_, _, _, rfl, rfl, hI6⟩
  rw [if_pos (nI_lt (by omega) (by decide)), if_neg (pu_ne (by omega) (by decide) ht)]
  obtain ⟨x1, r1', g1, g2, g3, g4, g5, -⟩ := pi_end (hC.tight (T' := 9998) (by omega)) (by decide) (by omega) hb hh hp hp' o1 o2 hne h4
  rw [g1, g2, pp_ob_s, pp_ob_s]
  exact ⟨r1'.1 10, _, r1', pu_some g3.2.2.1, rfl, h.court rfl rfl rfl g4 (g3.mono (by decide) (by omega))⟩
theorem st_skip : ∀ (j : Nat) (q : cc_S) (r : rr_S), j < 512 → II j q r → II (j + 1) q r := fun _ _ _ _ h => h.up
