theorem pu_shE : ∀ m, m < 256 → ∀ p, p < 8 → (nI m = (1 : Int32) <<< (nI p &&& 31) ↔ m = 2 ^ p) := by decide +kernel
theorem pu_k5 {k : Nat} (h : k ≤ 5) : k = 0 ∨ k = 1 ∨ k = 2 ∨ k = 3 ∨ k = 4 ∨ k = 5 := by omega
theorem pu_g1 : ∀ a, a ≤ 9 → ∀ e, e ≤ 9 → ((nI a + nI e) / 2 + 4) * 1 = (nI a + nI e) / 2 + 4 ∧ ((nI a + nI e) / 2 + 4) * 2 = 2 * ((nI a + nI e) / 2) + 8 := by decide +kernel
section PQ4
variable {T G : Nat} {x : cc_CT} {r : rr_S}
theorem pq_in8 (h : CW T G x r) {s : Nat} (hs : s < 2) : ∃ m, (x.2.1 s).1 0 = nI m ∧ m < 256 ∧ pb8 m = zh r s ∧ ∀ p, p < 8 → m.testBit p = zi r s p := by
  obtain ⟨m, e, l, b⟩ := (h.2.2.2.2.2 s hs).1
  refine ⟨m, e, l, ?_, b⟩
  unfold pb8 zh
  exact List.countP_congr (fun k hk => by rw [b k (List.mem_range.mp hk)])
theorem pq_alone (h : CW T G x r) {p : Nat} (hp : p < zn r) : K_isAlone x (nI p) = some (if zc r 5 p = 0 ∧ zh r (zc r 1 p) = 1 then 1 else 0) := by
  have hp8 := pq_lt h hp
  obtain ⟨m0, e0, l0, q0, b0⟩ := pq_in8 h (s := 0) (by decide)
  obtain ⟨m1, e1, l1, q1, b1⟩ := pq_in8 h (s := 1) (by decide)
  have hs := (h.1.2.2.2.1 p hp).2.1
  simp only [K_isAlone, pp_lj]
  have a0 : ((cc_gS x 0).1 0) = nI m0 := e0
  have a1 : ((cc_gS x 1).1 0) = nI m1 := e1
  rw [a0, a1]
  have z0 := b0 p hp8
  have z1 := b1 p hp8
  have o0 := pu_one m0 l0 p hp8
  have o1 := pu_one m1 l1 p hp8
  have t2 : (2 ^ p).testBit p = true := Nat.testBit_two_pow_self
  unfold zi at z0 z1
  rw [decide_eq_true hp] at z0 z1
  by_cases ho : zc r 5 p = 0
  · rcases (show zc r 1 p = 0 ∨ zc r 1 p = 1 by omega) with hs1 | hs1
    · simp [hs1, ho] at z0 z1
      have n1 : ¬ m1 = 2 ^ p := fun e => by rw [e, t2] at z1; cases z1
      rw [hs1, ← q0]
      by_cases hm : m0 = 2 ^ p
      · rw [if_pos ((pu_shE m0 l0 p hp8).mpr hm), if_pos ⟨ho, (o0 z0).mpr hm⟩]
      · rw [if_neg (fun e => hm ((pu_shE m0 l0 p hp8).mp e)), if_neg (fun e => n1 ((pu_shE m1 l1 p hp8).mp e)), if_neg (fun e => hm ((o0 z0).mp e.2))]
    · simp [hs1, ho] at z0 z1
      have n0 : ¬ m0 = 2 ^ p := fun e => by rw [e, t2] at z0; cases z0
      rw [hs1, ← q1, if_neg (fun e => n0 ((pu_shE m0 l0 p hp8).mp e))]
      by_cases hm : m1 = 2 ^ p
      · rw [if_pos ((pu_shE m1 l1 p hp8).mpr hm), if_pos ⟨ho, (o1 z1).mpr hm⟩]
      · rw [if_neg (fun e => hm ((pu_shE m1 l1 p hp8).mp e)), if_neg (fun e => hm ((o1 z1).mp e.2))]
  · simp [ho] at z0 z1
    have n0 : ¬ m0 = 2 ^ p := fun e => by rw [e, t2] at z0; cases z0
    have n1 : ¬ m1 = 2 ^ p := fun e => by rw [e, t2] at z1; cases z1
    rw [if_neg (fun e => n0 ((pu_shE m0 l0 p hp8).mp e)), if_neg (fun e => n1 ((pu_shE m1 l1 p hp8).mp e)), if_neg (fun e => ho e.1)]
theorem pq_grasp (h : CW T G x r) {p : Nat} (hp : p < zn r) : ∃ v, R_graspOf r (nI p) = some v ∧ K_graspOf x (nI p) = some v := by
  have hp8 := pq_lt h hp
  obtain ⟨e1, e2, e3, e4, e5⟩ := pq_row h hp
  obtain ⟨b0, b1, b2, b3, b4, b5⟩ := h.1.2.2.2.1 p hp
  obtain ⟨c1, c2, c3, c4, c5⟩ := h.2.2.2.1 p hp
  simp only [R_graspOf, K_graspOf, Cl_grasp, P3_grasp, P0_grasp, P4_grasp, pp_lj]
  rw [(pq_plY h hp).2, pp_ob_s, if_neg pu_10, pp_ix_n hp8 (by decide), pp_ix_n hp8 (by decide), pu_c (by omega), c1, e2, pu_ci _ b2, c4, c5, e1, e3, e4, pq_here h (by omega), pq_alone h hp]
  simp only [pp_ob_s]
  obtain ⟨g1, g2⟩ := pu_g1 _ b3 _ b4
  have h5 : (r.2.1 5 p = 0) = (zc r 5 p = 0) := propext ⟨fun e => by show (r.2.1 5 p).toNatClampNeg = 0; rw [e]; decide +kernel, fun e => by rw [e5, e]; decide +kernel⟩
  rcases pu_k5 b2 with e | e | e | e | e | e <;> rw [e]
  · rw [if_neg (show ¬ nI 0 = 2 by decide +kernel), if_neg (show ¬ nI 0 = 5 by decide +kernel)]
    exact ⟨_, rfl, rfl⟩
  · rw [if_neg (show ¬ nI 1 = 2 by decide +kernel), if_neg (show ¬ nI 1 = 5 by decide +kernel)]
    exact ⟨_, rfl, rfl⟩
  · rw [if_pos (show nI 2 = 2 by decide +kernel), if_neg (show ¬ nI 2 = 5 by decide +kernel)]
    exact ⟨_, rfl, rfl⟩
  · rw [if_neg (show ¬ nI 3 = 2 by decide +kernel), if_neg (show ¬ nI 3 = 5 by decide +kernel)]
    exact ⟨_, rfl, rfl⟩
  · rw [if_neg (show ¬ nI 4 = 2 by decide +kernel), if_neg (show ¬ nI 4 = 5 by decide +kernel)]
    exact ⟨_, rfl, rfl⟩
  · rw [if_neg (show ¬ nI 5 = 2 by decide +kernel), if_pos (show nI 5 = 5 by decide +kernel), if_pos (show nI 5 = 5 by decide +kernel)]
    refine ⟨if zc r 5 p = 0 ∧ zh r (zc r 1 p) = 1 then 2 * ((nI (zc r 3 p) + nI (zc r 4 p)) / 2) + 8 else (nI (zc r 3 p) + nI (zc r 4 p)) / 2 + 4, ?_, ?_⟩
    · by_cases ho : zc r 5 p = 0
      · rw [if_pos (h5 ▸ ho)]
        by_cases hh : zh r (zc r 1 p) = 1
        · rw [hh, if_pos (by decide +kernel), if_pos ⟨ho, rfl⟩]
        · have h8 : zh r (zc r 1 p) ≤ 8 := by unfold zh; exact Nat.le_trans List.countP_le_length (by simp)
          rw [if_neg (show ¬ nI (zh r (zc r 1 p)) = 1 from pu_ne (b := 1) (by omega) (by decide) hh), if_neg (fun e => hh e.2)]
      · rw [if_neg (fun e => ho (h5 ▸ e)), if_neg (fun e => ho e.1)]
    · have q : (if 5 = 1 then 5 else if 5 = 2 then 0 else if 5 = 3 then 8 else if 5 = 4 then 9 else if 5 = 5 then 3 else 4) = 3 := by decide
      rw [q, if_neg (show ¬ 3 = 0 by decide), if_pos rfl, g1, g2]
      by_cases hc : zc r 5 p = 0 ∧ zh r (zc r 1 p) = 1
      · rw [if_pos hc, if_pos hc, if_neg pu_10]; rfl
      · rw [if_neg hc, if_neg hc, if_pos rfl]; rfl
theorem pu_cl (v : Int32) : R_clamped v 1 19 = C_withinOdds v := by
  unfold R_clamped C_withinOdds
  by_cases h1 : 1 ≤ v
  · rw [if_pos h1]
    by_cases h2 : v ≤ 19
    · rw [if_pos h2]
      by_cases h3 : v < 19
      · rw [if_pos h3]
        by_cases h4 : 1 < v
        · rw [if_pos h4]
        · rw [if_neg h4]
          congr 1
          exact Int32.le_antisymm (Int32.not_lt.mp h4) h1
      · have : v = 19 := Int32.le_antisymm h2 (Int32.not_lt.mp h3)
        subst this; decide
    · have h3 : ¬ v < 19 := fun h => h2 (Int32.le_of_lt h)
      rw [if_neg h2, if_neg h3, if_pos (by decide)]
  · have h3 : v < 1 := Int32.not_le.mp h1
    have h4 : v < 19 := Int32.lt_of_lt_of_le h3 (by decide)
    rw [if_neg h1, if_pos h4, if_neg (fun h => h1 (Int32.le_of_lt h))]
theorem pu_how {hw : Int32} (h : hw = 0 ∨ hw = 1 ∨ hw = 2) : C_isHow hw = some 1 := by rcases h with rfl | rfl | rfl <;> decide +kernel
theorem pq_hit (h : CW T G x r) (hT : T < 2 ^ 30) {p p' : Nat} (hp : p < zn r) (hp' : p' < zn r) {hw : Int32} (hh : hw = 0 ∨ hw = 1 ∨ hw = 2) : ∃ v, R_hitOf r (nI p) (nI p') hw = some v ∧ K_hitOf x (nI p) (nI p') hw = some v := by
  obtain ⟨a, a1, a2⟩ := pq_aim h hT hp
  obtain ⟨d, d1, d2⟩ := pq_dodge h hp'
  simp only [R_hitOf, K_hitOf, pp_lj]
  rw [a1, a2, pp_ob_s, pp_ob_s, d1, d2, pp_ob_s, pp_ob_s, pu_how hh, pp_ob_s, if_neg pu_10]
  simp only [pu_cl]
  rcases hh with rfl | rfl | rfl <;> exact ⟨_, rfl, rfl⟩
theorem pq_caught (h : CW T G x r) {p : Nat} (hp : p < zn r) {hw : Int32} (hh : hw = 0 ∨ hw = 1 ∨ hw = 2) : ∃ v, R_caughtOf r (nI p) hw = some v ∧ K_caughtOf x (nI p) hw = some v := by
  obtain ⟨a, a1, a2⟩ := pq_grasp h hp
  simp only [R_caughtOf, K_caughtOf, pp_lj]
  rw [a1, a2, pp_ob_s, pp_ob_s, pu_how hh, pp_ob_s, if_neg pu_10]
  simp only [pu_cl]
  rcases hh with rfl | rfl | rfl <;> exact ⟨_, rfl, rfl⟩
end PQ4
