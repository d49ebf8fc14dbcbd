/-! catch or dodge: lobbed is never better than low -/
theorem pg_hit : ∀ a, a < 10 → ∀ d, d < 15 → R_clamped (10 + nI a - nI d + 4) 1 19 = some (nI (min 19 (max 1 (14 + a - d)))) ∧ R_clamped (10 + nI a - nI d + -4) 1 19 = some (nI (min 19 (max 1 (6 + a - d)))) := by decide +kernel
theorem pg_cau : ∀ g, g < 27 → R_clamped (nI g + -3) 1 19 = some (nI (min 19 (max 1 (g - 3)))) ∧ R_clamped (nI g + 8) 1 19 = some (nI (min 19 (g + 8))) := by decide +kernel
theorem pg_hit2 {a d : Nat} (ha : a < 10) (hd : d < 15) : ∃ u u', u < 20 ∧ u' ≤ u ∧ R_clamped (10 + nI a - nI d + 4) 1 19 = some (nI u) ∧ R_clamped (10 + nI a - nI d + -4) 1 19 = some (nI u') := by
  obtain ⟨t1, t2⟩ := pg_hit a ha d hd
  exact ⟨min 19 (max 1 (14 + a - d)), min 19 (max 1 (6 + a - d)), by omega, by omega, t1, t2⟩
theorem pg_cau2 {g : Nat} (hg : g < 27) : ∃ c c', c ≤ c' ∧ c' < 20 ∧ R_clamped (nI g + -3) 1 19 = some (nI c) ∧ R_clamped (nI g + 8) 1 19 = some (nI c') := by
  obtain ⟨t1, t2⟩ := pg_cau g hg
  exact ⟨min 19 (max 1 (g - 3)), min 19 (g + 8), by omega, by omega, t1, t2⟩
theorem pg_t : ∀ u, u < 20 → ∀ c, c < 20 → (nI u + 6 - 2 * nI c).toInt = (u : Int) + 6 - 2 * (c : Int) := by decide +kernel
theorem pg_cl9 (z : Int32) : ∃ a, a ≤ 9 ∧ R_clamped z 0 9 = some (nI a) := by
  unfold R_clamped
  by_cases h1 : 0 ≤ z
  · rw [if_pos h1]
    by_cases h2 : z ≤ 9
    · obtain ⟨j, hj, e⟩ := nI_of2 (x := z) (M := 9) (n := 9) (by decide) (pu_le0.mp h1) h2
      rw [if_pos h2, e]; exact ⟨j, hj, rfl⟩
    · rw [if_neg h2]; exact ⟨9, by decide, rfl⟩
  · rw [if_neg h1]; exact ⟨0, by decide, rfl⟩
theorem pp_ob_some {α : Type} (o : Option α) : pp_ob o (fun r => some r) = o := by cases o <;> rfl
section GAME
variable {T G : Nat} {x : cc_CT} {r : rr_S} {p q : Nat}
theorem pq_aimV (h : CW T G x r) (hp : p < zn r) : ∃ a, a ≤ 9 ∧ R_aimOf r (nI p) = some (nI a) := by
  have hp8 := pq_lt h hp
  obtain ⟨e1, e2, e3, e4, e5⟩ := pq_row h hp
  obtain ⟨b0, b1, b2, b3, b4, b5⟩ := h.1.2.2.2.1 p hp
  unfold R_aimOf
  rw [pp_ix_n hp8 (by decide), pu_c (by omega), e3]
  by_cases k3 : r.2.1 2 p = 3
  · obtain ⟨a, ha, e⟩ := pg_cl9 (nI (zc r 3 p) - r.1 10 / 10)
    rw [if_pos k3, e, pp_ob_s]; exact ⟨a, ha, rfl⟩
  · rw [if_neg k3]; exact ⟨_, b3, rfl⟩
theorem pq_dodgeV (h : CW T G x r) (hp : p < zn r) : ∃ a, a ≤ 14 ∧ R_dodgeOf r (nI p) = some (nI a) := by
  have hp8 := pq_lt h hp
  obtain ⟨e1, e2, e3, e4, e5⟩ := pq_row h hp
  obtain ⟨b0, b1, b2, b3, b4, b5⟩ := h.1.2.2.2.1 p hp
  obtain ⟨m, hm, -, f1, -⟩ := pq_balls h hp
  have a3 : nI (zc r 4 p) + 3 = nI (zc r 4 p + 3) := by rw [show (3 : Int32) = nI 3 from by decide +kernel, nI_add]
  have a2 : nI (zc r 4 p + 3) + 2 = nI (zc r 4 p + 3 + 2) := by rw [pu_2', nI_add]
  have a2' : nI (zc r 4 p) + 2 = nI (zc r 4 p + 2) := by rw [pu_2', nI_add]
  simp only [R_dodgeOf, pp_lj]
  rw [pp_ix_n hp8 (by decide), pu_c (by omega), e4, f1, a3, pp_ob_s, pp_ob_s, a2, a2']
  by_cases k1 : r.2.1 2 p = 1
  · rw [if_pos k1]
    by_cases k4 : r.2.1 2 p = 4
    · rw [if_pos k4]
      by_cases h0 : nI m = 0
      · rw [if_pos h0]; exact ⟨_, by omega, rfl⟩
      · rw [if_neg h0]; exact ⟨_, by omega, rfl⟩
    · rw [if_neg k4]; exact ⟨_, by omega, rfl⟩
  · rw [if_neg k1]
    by_cases k4 : r.2.1 2 p = 4
    · rw [if_pos k4, if_pos k4]
      by_cases h0 : nI m = 0
      · rw [if_pos h0]; exact ⟨_, by omega, rfl⟩
      · rw [if_neg h0]; exact ⟨_, by omega, rfl⟩
    · rw [if_neg k4, if_neg k4]; exact ⟨_, by omega, rfl⟩
theorem pq_graspV (h : CW T G x r) (hp : p < zn r) : ∃ a, a ≤ 26 ∧ R_graspOf r (nI p) = some (nI a) := by
  have hp8 := pq_lt h hp
  obtain ⟨e1, e2, e3, e4, e5⟩ := pq_row h hp
  obtain ⟨b0, b1, b2, b3, b4, b5⟩ := h.1.2.2.2.1 p hp
  have hd : (nI (zc r 3 p) + nI (zc r 4 p)) / 2 = nI ((zc r 3 p + zc r 4 p) / 2) := by rw [nI_add, pu_2', pk_div (by omega) (by decide) (by decide)]
  have hb : (zc r 3 p + zc r 4 p) / 2 ≤ 9 := by omega
  simp only [R_graspOf, pp_lj]
  rw [pp_ix_n hp8 (by decide), pu_c (by omega), e3, e4, e1, hd, pq_here h (by omega), pp_ob_s]
  generalize (zc r 3 p + zc r 4 p) / 2 = g at hb ⊢
  have g4 : nI g + 4 = nI (g + 4) := by rw [show (4 : Int32) = nI 4 from by decide +kernel, nI_add]
  have g8 : ∀ g, g < 10 → 2 * nI g + 8 = nI (2 * g + 8) := by decide +kernel
  rw [g4, g8 g (by omega)]
  have A : ∃ a, a ≤ 26 ∧ some (nI (g + 4)) = some (nI a) := ⟨g + 4, by omega, rfl⟩
  have B : ∃ a, a ≤ 26 ∧ some (nI (2 * g + 8)) = some (nI a) := ⟨2 * g + 8, by omega, rfl⟩
  have C : ∃ a, a ≤ 26 ∧ some (nI g) = some (nI a) := ⟨g, by omega, rfl⟩
  have D : ∃ a, a ≤ 26 ∧ (if r.2.1 2 p = 5 then (if r.2.1 5 p = 0 then (if nI (zh r (zc r 1 p)) = 1 then some (nI (2 * g + 8)) else some (nI (g + 4))) else some (nI (g + 4))) else some (nI (g + 4))) = some (nI a) := by
    by_cases k5 : r.2.1 2 p = 5
    · rw [if_pos k5]
      by_cases o5 : r.2.1 5 p = 0
      · rw [if_pos o5]
        by_cases o6 : nI (zh r (zc r 1 p)) = 1
        · rw [if_pos o6]; exact B
        · rw [if_neg o6]; exact A
      · rw [if_neg o5]; exact A
    · rw [if_neg k5]; exact A
  by_cases k2 : r.2.1 2 p = 2
  · rw [if_pos k2]; exact D
  · rw [if_neg k2]
    by_cases k5 : r.2.1 2 p = 5
    · rw [if_pos k5]; exact D
    · rw [if_neg k5]; exact C
theorem pq_gm (h : CW T G x r) (hp : p < zn r) (hq : q < zn r) : ∃ u u' c c', u < 20 ∧ u' ≤ u ∧ c ≤ c' ∧ c' < 20 ∧ R_hitOf r (nI p) (nI q) 0 = some (nI u) ∧ R_hitOf r (nI p) (nI q) 2 = some (nI u') ∧ R_caughtOf r (nI q) 0 = some (nI c) ∧ R_caughtOf r (nI q) 2 = some (nI c') := by
  obtain ⟨a, ha, ea⟩ := pq_aimV h hp
  obtain ⟨d, hd, ed⟩ := pq_dodgeV h hq
  obtain ⟨g, hg, eg⟩ := pq_graspV h hq
  obtain ⟨u, u', hu, huu, t1, t2⟩ := pg_hit2 (a := a) (d := d) (by omega) (by omega)
  obtain ⟨c, c', hcc, hc, t3, t4⟩ := pg_cau2 (g := g) (by omega)
  have kh : ∀ hw, R_hitOf r (nI p) (nI q) hw = if hw = 0 then R_clamped (10 + nI a - nI d + 4) 1 19 else if hw = 1 then R_clamped (10 + nI a - nI d + 2) 1 19 else R_clamped (10 + nI a - nI d + -4) 1 19 := fun hw => by
    simp only [R_hitOf, pp_lj, pp_ob_some]
    rw [ea, pp_ob_s, ed, pp_ob_s]
  have kc : ∀ hw, R_caughtOf r (nI q) hw = if hw = 0 then R_clamped (nI g + -3) 1 19 else if hw = 1 then R_clamped (nI g + 0) 1 19 else R_clamped (nI g + 8) 1 19 := fun hw => by
    simp only [R_caughtOf, pp_lj, pp_ob_some]
    rw [eg, pp_ob_s]
  refine ⟨u, u', c, c', hu, huu, hcc, hc, ?_, ?_, ?_, ?_⟩
  · rw [kh, if_pos rfl]; exact t1
  · rw [kh, if_neg (by decide), if_neg (by decide)]; exact t2
  · rw [kc, if_pos rfl]; exact t3
  · rw [kc, if_neg (by decide), if_neg (by decide)]; exact t4
end GAME
def lv (a b : Int32) : Int32 := if b ≤ a then b else a
theorem pg_least (a b : Int32) : R_least a b = some (lv a b) := by
  unfold R_least lv
  by_cases h : b ≤ a
  · rw [if_pos h, if_pos h]
  · rw [if_neg h, if_neg h]
theorem pg_most {a b : Int32} (h : b ≤ a) : R_most a b = some a := by
  unfold R_most
  by_cases h2 : a ≤ b
  · rw [if_pos h2, Int32.le_antisymm h h2]
  · rw [if_neg h2]
theorem lv_l (a b : Int32) : lv a b ≤ a := by
  unfold lv
  by_cases h : b ≤ a
  · rw [if_pos h]; exact h
  · rw [if_neg h]; exact Int32.le_refl a
theorem lv_r (a b : Int32) : lv a b ≤ b := by
  unfold lv
  by_cases h : b ≤ a
  · rw [if_pos h]; exact Int32.le_refl b
  · rw [if_neg h]; exact Int32.le_of_lt (Int32.not_le.mp h)
theorem lv_g {a b c : Int32} (h1 : c ≤ a) (h2 : c ≤ b) : c ≤ lv a b := by
  unfold lv
  by_cases h : b ≤ a
  · rw [if_pos h]; exact h2
  · rw [if_neg h]; exact h1
theorem st_game : lw_S3 II C_game R_game := by
  intro j q r v1 v2 v3 _ h
  simp only [C_game, R_game, pp_lj]
  obtain ⟨q1, r1, n1, -, -, n2, hI1⟩ := pi_no h (Or.inl rfl)
  obtain ⟨q2, r2, n3, -, -, n4, hI2⟩ := pi_no h (Or.inr (Or.inl rfl))
  obtain ⟨q3, r3', n5, -, -, n6, hI3⟩ := pi_no h (Or.inr (Or.inr (Or.inl rfl)))
  have hC : CW 9999 (40 * j) (cc_gC q 0) r := h.1
  have m1 : ¬ (-1 : Int32) = 0 := by decide
  have m2 : ¬ (-2 : Int32) = 0 := by decide
  have m3 : ¬ (-3 : Int32) = 0 := by decide
  simp only [if_neg m1, if_neg m2, if_neg m3, n1, n2, n3, n4, n5, n6, pp_ob_s]
  rcases pq_pl hC v1 with ⟨p, hp, rfl, e1, f1⟩ | ⟨e1, f1, -⟩ <;> rw [e1, f1, pp_ob_s, pp_ob_s]
  rotate_left
  · rw [if_pos rfl, if_pos rfl]; exact ⟨_, _, _, rfl, rfl, hI1⟩
  rw [if_neg pu_10, if_neg pu_10]
  rcases pq_pl hC v2 with ⟨p', hp', rfl, e2, f2⟩ | ⟨e2, f2, -⟩ <;> rw [e2, f2, pp_ob_s, pp_ob_s]
  rotate_left
  · rw [if_pos rfl, if_pos rfl]; exact ⟨_, _, _, rfl, rfl, hI1⟩
  rw [if_neg pu_10, if_neg pu_10]
  have h01 : (R_isIn v3 0 1 = some 1 ∧ (v3 = 0 ∨ v3 = 1)) ∨ (R_isIn v3 0 1 = some 0 ∧ v3 ≠ 0 ∧ v3 ≠ 1) := by
    rcases pi_side v3 with ⟨s, hs, rfl, e, -⟩ | ⟨e, -⟩
    · refine Or.inl ⟨e, ?_⟩
      rcases (show s = 0 ∨ s = 1 by omega) with rfl | rfl
      · exact Or.inl rfl
      · exact Or.inr rfl
    · refine Or.inr ⟨e, fun he => ?_, fun he => ?_⟩
      · rw [he] at e; revert e; decide +kernel
      · rw [he] at e; revert e; decide +kernel
  rcases h01 with ⟨e3, hv⟩ | ⟨e3, hv0, hv1⟩
  rotate_left
  · rw [e3, pp_ob_s, if_pos rfl, if_neg hv0, if_neg hv1]; exact ⟨_, _, _, rfl, rfl, hI2⟩
  rw [e3, pp_ob_s, if_neg pu_10]
  have hcut : ∀ (A : Option (Int64 × cc_S)) (B : Option (Int64 × cc_S)), (if v3 = 0 then A else if v3 = 1 then A else B) = A := fun A B => by
    rcases hv with e | e
    · rw [if_pos e]
    · rw [if_neg (by rw [e]; decide), if_pos e]
  rw [hcut]
  rcases pq_ag hC (nI p) (nI p') with ⟨-, -, -, -, -, -, -, -, -, g1, g2⟩ | ⟨g1, g2⟩ <;> rw [g1, g2, pp_ob_s, pp_ob_s]
  rotate_left
  · rw [if_pos rfl, if_pos rfl]; exact ⟨_, _, _, rfl, rfl, hI3⟩
  rw [if_neg pu_10, if_neg pu_10]
  simp only [if_true]
  obtain ⟨u, u', c, c', hu, huu, hcc, hc, t1, t2, t3, t4⟩ := pq_gm hC hp hp'
  obtain ⟨w1, w1a, w1b⟩ := pq_hit hC (by decide) hp hp' (hw := 0) (Or.inl rfl)
  obtain ⟨w2, w2a, w2b⟩ := pq_caught hC hp' (hw := 0) (Or.inl rfl)
  rw [t1] at w1a
  rw [t3] at w2a
  cases w1a
  cases w2a
  have hX : nI u' + 6 - 2 * nI c' ≤ nI u + 6 - 2 * nI c := by
    rw [Int32.le_iff_toInt_le, pg_t u (by omega) c (by omega), pg_t u' (by omega) c' (by omega)]; omega
  have hU : nI u' ≤ nI u := nI_le huu (by omega)
  have hCD : C_catchOrDodge q (nI p) (nI p') = some (lv (nI u) (nI u + 6 - 2 * nI c)) := by
    simp only [C_catchOrDodge, pp_lj]
    rw [w1b, pp_ob_s, w2b, pp_ob_s]
    unfold lv
    by_cases hlt : nI u + 6 - 2 * nI c < nI u
    · rw [if_pos hlt, if_pos (Int32.le_of_lt hlt)]
    · rw [if_neg hlt]
      by_cases hle : nI u + 6 - 2 * nI c ≤ nI u
      · rw [if_pos hle, Int32.le_antisymm hle (Int32.not_lt.mp hlt)]
      · rw [if_neg hle]
  rw [t1, pp_ob_s, t2, pp_ob_s, t3, pp_ob_s, t4, pp_ob_s]
  generalize nI u + 6 - 2 * nI c = X at hX hCD ⊢
  generalize nI u' + 6 - 2 * nI c' = Y at hX ⊢
  rw [pg_least, pp_ob_s, pg_least, pp_ob_s, pg_most (lv_g (Int32.le_trans (lv_l (nI u') Y) hU) (Int32.le_trans (lv_r (nI u') Y) hX)), pp_ob_s, pg_most hU, pp_ob_s, pg_most hX, pp_ob_s, pg_least, pp_ob_s, if_pos rfl, hCD, pp_ob_s]
  by_cases h0 : v3 = 0
  · rw [if_pos h0, if_pos h0]; exact ⟨_, _, _, rfl, rfl, h.up⟩
  · rw [if_neg h0, if_neg h0]; exact ⟨_, _, _, rfl, rfl, h.up⟩
