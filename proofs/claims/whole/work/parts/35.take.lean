section TAKE
variable {T G : Nat} {x x' : cc_CT} {r r' : rr_S}
theorem CW.tight (h : CW T G x r) {T' : Nat} (ht : zt r ≤ T') : CW T' G x r := by
  obtain ⟨⟨a1, ⟨a3, a4⟩, a5⟩, c⟩ := h
  exact ⟨⟨a1, ⟨a3, ht⟩, a5⟩, c⟩
theorem II.court {j : Nat} {q q' : cc_S} (h : II j q r) (e1 : q'.1 = q.1) (e2 : q'.2.1 = q.2.1) (e3 : q'.2.2.1 2 = q.2.2.1 2) (hF : FR r r') (hC : CW 9999 (40 * (j + 1)) (q'.2.2.1 0) r') : II (j + 1) q' r' := by
  obtain ⟨-, ⟨b1, b2⟩, c, ⟨m, d1, d2, d3, d4⟩, ⟨n, f1, f2, f3, f4⟩⟩ := h.up
  obtain ⟨g1, g2, g3⟩ := hF
  have k0 := g2 0 (Or.inl rfl)
  have k19 := g2 19 (Or.inr (by decide))
  have k25 := g2 25 (Or.inr (by decide))
  have k12 := g2 12 (Or.inr (by decide))
  have i20 := g1 20 (by decide) (by decide) (by decide)
  have i26 := g1 26 (by decide) (by decide) (by decide)
  have i16 := g1 16 (by decide) (by decide) (by decide)
  refine ⟨hC, ⟨by rw [e1, i20]; exact b1, ?_⟩, fun k hk => by rw [e1, k0]; exact c k hk, ⟨m, d1, by rw [e1]; exact d2, by rw [i26]; exact d3, fun k hk => by rw [e1, k25]; exact d4 k hk⟩, ⟨n, f1, by rw [e2]; exact f2, by rw [i16]; exact f3, fun k hk => by rw [e2, k12]; exact f4 k hk⟩⟩
  rw [i20, e3]
  exact b2.imp id (fun h => ⟨h.1, h.2.image k19⟩)
/-- hands free -/
theorem pq_free (h : CW T G x r) {p : Nat} (hp : p < zn r) (ho : zc r 5 p = 0) : ∃ c, c < 7 ∧ (∃ s, R_holds r (nI p) = some s ∧ R_bits s = some (nI c)) ∧ K_hasHandFree x (nI p) = some (if 2 ≤ c then 0 else 1) := by
  obtain ⟨m, hm, -, a, b⟩ := pq_balls h hp
  obtain ⟨c1, c2⟩ := pu_bits6 m hm
  have hc : pb6 m ≤ 6 := by unfold pb6; exact Nat.le_trans List.countP_le_length (by simp)
  refine ⟨pb6 m, by omega, ⟨_, a, c1⟩, ?_⟩
  simp only [K_hasHandFree, pp_lj]
  rw [(pq_in h hp).2, if_pos ho, pp_ob_s, if_neg pu_10, b, pp_ob_s, c2, pp_ob_s, pu_2']
  by_cases h2 : 2 ≤ pb6 m
  · rw [if_pos h2, if_pos ((nI_leI (by decide) (by omega)).mpr h2)]
  · rw [if_neg h2, if_neg (fun h => h2 ((nI_leI (by decide) (by omega)).mp h))]
theorem st_take : lw_S2 II C_take R_take := by
  intro j q r v1 v2 _ h
  simp only [C_take, R_take, pp_lj]
  obtain ⟨q1, r1, n1, n2, -, -, hI1⟩ := pi_no h (Or.inl rfl)
  obtain ⟨q3, r3', n5, n6, -, -, hI3⟩ := pi_no h (Or.inr (Or.inr (Or.inl rfl)))
  obtain ⟨q6, r6, n9, n10, -, -, hI6⟩ := pi_no h (Or.inr (Or.inr (Or.inr (Or.inr rfl))))
  have hC : CW 9999 (40 * j) (cc_gC q 0) r := h.1
  have m1 : ¬ (-1 : Int32) = 0 := by decide
  have m3 : ¬ (-3 : Int32) = 0 := by decide
  have m6 : ¬ (-6 : Int32) = 0 := by decide
  simp only [if_neg m1, if_neg m3, if_neg m6, n1, n2, n5, n6, n9, n10, pp_ob_s, if_true]
  rcases pq_pl hC v1 with ⟨p, hp, rfl, e1, f1⟩ | ⟨e1, f1, -⟩ <;> rw [e1, f1, pp_ob_s, pp_ob_s]
  rotate_left
  · rw [if_pos rfl, if_pos rfl]; exact ⟨_, _, _, rfl, rfl, hI1⟩
  rw [if_neg pu_10, if_neg pu_10]
  rcases pi_ball v2 with ⟨b, hb, rfl, e2, f2⟩ | ⟨e2, f2, -⟩ <;> rw [e2, f2, pp_ob_s, pp_ob_s]
  rotate_left
  · rw [if_pos rfl, if_pos rfl]; exact ⟨_, _, _, rfl, rfl, hI1⟩
  rw [if_neg pu_10, if_neg pu_10, (pq_in hC hp).1, pp_ob_s]
  have hp8 := pq_lt hC hp
  by_cases ho : zc r 5 p = 0
  rotate_left
  · have ek : K_canTake (cc_gC q 0) (nI p) (nI b) = some 0 := by
      simp only [K_canTake, K_hasHandFree, pp_lj]
      rw [(pq_in hC hp).2, if_neg ho, pp_ob_s, if_pos rfl, pp_ob_s, if_pos rfl]
    rw [ek, pp_ob_s, if_pos rfl, if_neg ho, if_pos rfl]; exact ⟨_, _, _, rfl, rfl, hI3⟩
  obtain ⟨c, hc, ⟨s, s1, s2⟩, s3⟩ := pq_free hC hp ho
  rw [if_pos ho, if_neg pu_10, s1, pp_ob_s, s2, pp_ob_s, show (1 : Int32) = nI 1 from by decide +kernel]
  have ek : K_canTake (cc_gC q 0) (nI p) (nI b) = some (if 2 ≤ c then 0 else if r.2.1 7 b = r.2.1 1 p then 1 else 0) := by
    simp only [K_canTake, K_floorOf, pp_lj]
    rw [s3, pp_ob_s]
    by_cases h2 : 2 ≤ c
    · rw [if_pos h2, if_pos h2, if_pos rfl]
    · rw [if_neg h2, if_neg h2, if_neg pu_10, pk_isBall hb, pp_ob_s, if_neg pu_10, pp_ix_n hb (by decide), pu_c (by omega), pp_ob_s, pq_side hC hp, pp_ob_s, (hC.2.2.2.2.1 b hb).2.1]
      by_cases he : r.2.1 7 b = r.2.1 1 p
      · rw [if_pos he, if_pos he]
      · rw [if_neg he, if_neg he]
  rw [ek, pp_ob_s]
  by_cases h2 : 2 ≤ c
  · rw [if_pos h2, if_pos rfl, if_pos (nI_lt (by omega) (by omega))]; exact ⟨_, _, _, rfl, rfl, hI3⟩
  rw [if_neg h2, if_neg (nI_nlt (by omega) (by decide)), pp_ix_n hb (by decide), pp_ix_n hp8 (by decide), pu_c (by omega), pu_c (by omega)]
  by_cases he : r.2.1 7 b = r.2.1 1 p
  rotate_left
  · rw [if_neg he, if_neg he, if_pos rfl]; exact ⟨_, _, _, rfl, rfl, hI3⟩
  have e99 : (9999 : Int32) = nI 9999 := by decide +kernel
  have ht9 := hC.1.2.1.2
  rw [if_pos he, if_pos he, if_neg pu_10, hC.2.2.1, hC.1.2.1.1, e99]
  by_cases ht : zt r = 9999
  · rw [ht, if_neg (nI_nlt (by decide) (by decide)), if_pos rfl]; exact ⟨_, _, _, rfl, rfl, hI6⟩
  rw [if_pos (nI_lt (by omega) (by decide)), if_neg (pu_ne (by omega) (by decide) ht), pk_hold hb, pp_ob_s, pr_held hb, pp_ob_s]
  have h2 := (hC.tight (T' := 9998) (by omega)).three (b := b) (hd := nI p) (l := -9) (d := 0) (Or.inr ⟨p, 0, rfl, hp, ho, rfl, pu_0, by decide⟩)
  obtain ⟨x1, r1, g1, g2, g3, g4, g5, -, -⟩ := pi_tenth h2 (by decide)
  rw [show cc_gC (cc_pC q 0 (x3 (cc_gC q 0) b (nI p) (-9) 0)) 0 = x3 (cc_gC q 0) b (nI p) (-9) 0 from rfl, g1, pp_ob_s, g2, pp_ob_s]
  exact ⟨r1.1 10, _, r1, pu_some g3.2.2.1, rfl, h.court rfl rfl rfl (FR.three.tr g4) (g3.mono (by decide) (by omega))⟩
theorem st_pass : lw_S1 II C_pass R_pass := by
  intro j q r v1 _ h
  simp only [C_pass, R_pass, R_bound, pp_lj]
  obtain ⟨q4, r4, n7, n8, -, -, hI4⟩ := pi_no h (Or.inr (Or.inr (Or.inr (Or.inl rfl))))
  obtain ⟨q6, r6, n9, n10, -, -, hI6⟩ := pi_no h (Or.inr (Or.inr (Or.inr (Or.inr rfl))))
  have hC : CW 9999 (40 * j) (cc_gC q 0) r := h.1
  have m4 : ¬ (-4 : Int32) = 0 := by decide
  have m6 : ¬ (-6 : Int32) = 0 := by decide
  have e99 : (9999 : Int32) = nI 9999 := by decide +kernel
  have e50 : (50 : Int32) = nI 50 := by decide +kernel
  simp only [n7, n9, if_neg m6, pp_ob_s]
  by_cases h1 : 1 ≤ v1
  rotate_left
  · rw [if_neg h1, if_neg h1, pp_ob_s, if_neg m4, if_neg m4, n8]; exact ⟨_, _, _, rfl, rfl, hI4⟩
  rw [if_pos h1, if_pos h1]
  rcases pu_int v1 with hv | ⟨n, rfl, hn31⟩
  · exact absurd (Int32.lt_of_lt_of_le hv (Int32.le_trans (by decide : (0 : Int32) ≤ 1) h1)) (by exact fun h => by simp at h)
  rw [e50]
  by_cases h50 : n ≤ 50
  rotate_left
  · rw [if_neg (fun h => h50 ((nI_leI hn31 (by decide)).mp h)), if_pos (nI_lt (by omega) hn31), pp_ob_s, if_neg m6, if_neg m6, n10]; exact ⟨_, _, _, rfl, rfl, hI6⟩
  have ht9 := hC.1.2.1.2
  rw [if_pos ((nI_leI hn31 (by decide)).mpr h50), if_neg (nI_nlt h50 (by decide)), pp_ob_s, if_pos rfl, hC.2.2.1, hC.1.2.1.1, nI_add, e99]
  by_cases hl : zt r + n ≤ 9999
  rotate_left
  · rw [if_neg (fun h => hl ((nI_leI (by omega) (by decide)).mp h)), if_neg (fun h => hl ((nI_leI (by omega) (by decide)).mp h)), n10]; exact ⟨_, _, _, rfl, rfl, hI6⟩
  rw [if_pos ((nI_leI (by omega) (by decide)).mpr hl), if_pos ((nI_leI (by omega) (by decide)).mpr hl), if_pos rfl]
  have key := pp_two (F1 := fun (self13 : cc_S × Int32 → Option (Int32 × cc_S)) (a13 : cc_S × Int32) => (if nI n ≤ a13.2 then some (((cc_gC a13.1 0).1.1 7), a13.1) else pp_ob (K_letTenthGoBy (cc_gC a13.1 0)) (fun r17 => self13 (cc_pC a13.1 0 r17, a13.2 + 1))))
    (F2 := fun (self8 : rr_S × Int32 → Option (Int32 × rr_S)) (a8 : rr_S × Int32) => (if nI n ≤ a8.2 then some ((a8.1.1 10), a8.1) else pp_ob (R_goesTenth a8.1) (fun r12 => self8 (r12, a8.2 + 1))))
    (P := fun i a1 a2 => ∃ qi ri, a1 = (qi, nI i) ∧ a2 = (ri, nI i) ∧ CW (zt r + i) (40 * j) (qi.2.2.1 0) ri ∧ FR r ri ∧ qi.1 = q.1 ∧ qi.2.1 = q.2.1 ∧ qi.2.2.1 2 = q.2.2.1 2)
    (Q := fun b1 b2 => b1.1 = b2.1 ∧ II (j + 1) b1.2 b2.2) n ?_ (n + 1) 0 (q, 0) (r, 0) 200 200 (by omega) (by omega) ⟨q, r, rfl, rfl, hC.tight (by omega), FR.rf r, rfl, rfl, rfl⟩ (by omega) (by omega)
  · obtain ⟨⟨w1, q1⟩, ⟨w2, r1⟩, g1, g2, rfl, g3⟩ := key
    exact ⟨_, _, _, g1, g2, g3⟩
  · rintro i a1 a2 hi ⟨qi, ri, rfl, rfl, hCi, hF, d1, d2, d3⟩
    by_cases hin : i = n
    · left
      subst hin
      have : nI i ≤ nI i := Int32.le_refl _
      exact ⟨_, _, fun self => if_pos this, fun self => if_pos this, hCi.2.2.1, h.court d1 d2 d3 hF (hCi.mono (by omega) (by omega))⟩
    · right
      have hi' : i < n := by omega
      obtain ⟨x1, r1, g1, g2, g3, g4, g5, -, -⟩ := pi_tenth hCi (by omega)
      have g1 : K_letTenthGoBy (cc_gC qi 0) = some x1 := g1
      refine ⟨hi', (cc_pC qi 0 x1, nI (i + 1)), (r1, nI (i + 1)), fun self => ?_, fun self => ?_, cc_pC qi 0 x1, r1, rfl, rfl, g3, hF.tr g4, d1, d2, d3⟩
      · rw [if_neg (nI_ge hi' hn31), g1, pp_ob_s, pu_i1]
      · rw [if_neg (nI_ge hi' hn31), g2, pp_ob_s, pu_i1]
end TAKE
