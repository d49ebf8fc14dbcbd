/-! whom to throw at, and how -/
noncomputable def bF (r : rr_S) (v1 v2 : Int32) (self8 : Int32 × Int32 × Int32 → Option (Int32 × rr_S)) (a8 : Int32 × Int32 × Int32) : Option (Int32 × rr_S) := (if ((10 : Int32) * (r.1 9)) ≤ a8.2.2 then (if v2 = (0 : Int32) then some (a8.1, r) else some (a8.2.1, r)) else (if (2 : Int32) < (a8.2.2 - (a8.2.2 / (10 : Int32)) * (10 : Int32)) then self8 (a8.1, a8.2.1, a8.2.2 + 1) else pp_ob (R_areAgainst r v1 (a8.2.2 / (10 : Int32))) (fun r23 => (if r23 = (0 : Int32) then self8 (a8.1, a8.2.1, a8.2.2 + 1) else pp_ob (R_hitOf r v1 (a8.2.2 / (10 : Int32)) (a8.2.2 - (a8.2.2 / (10 : Int32)) * (10 : Int32))) (fun r27 => pp_ob (R_caughtOf r (a8.2.2 / (10 : Int32)) (a8.2.2 - (a8.2.2 / (10 : Int32)) * (10 : Int32))) (fun r29 => (if a8.1 < (0 : Int32) then self8 (a8.2.2, r27 - ((2 : Int32) * r29), a8.2.2 + 1) else (if a8.2.1 < r27 - ((2 : Int32) * r29) then self8 (a8.2.2, r27 - ((2 : Int32) * r29), a8.2.2 + 1) else self8 (a8.1, a8.2.1, a8.2.2 + 1)))))))))
noncomputable def bG (x : cc_CT) (v1 : Int32) (i : Nat) (K self5 : Int32 × Int32 × Int32 → Option Int32) (a5 : Int32 × Int32 × Int32) : Option Int32 := (if (3 : Int32) ≤ a5.2.2 then K (a5.1, a5.2.1, nI i + 1) else pp_ob (K_areOpposed x v1 (nI i)) (fun r14 => (if r14 = (0 : Int32) then K (a5.1, a5.2.1, nI i + 1) else pp_ob (K_gainOf x v1 (nI i) a5.2.2) (fun r19 => (if a5.1 = (-9 : Int32) then self5 (((10 : Int32) * nI i) + a5.2.2, r19, a5.2.2 + 1) else (if r19 ≤ a5.2.1 then self5 (a5.1, a5.2.1, a5.2.2 + 1) else self5 (((10 : Int32) * nI i) + a5.2.2, r19, a5.2.2 + 1)))))))
theorem pp_200 {α β : Type} {F : (α → Option β) → α → Option β} {a : α} : pp_it F 200 a = F (pp_it F 199) a := rfl
theorem pu_t10 : ∀ i, i < 9 → (10 : Int32) * nI i = nI (10 * i) := by decide +kernel
/-- the best so far, on both sides -/
def BR (x : cc_CT) (n p : Nat) (b m1 m2 : Int32) : Prop := (b = -9 ∧ m1 = -9) ∨ (m1 = m2 ∧ ∃ w k, w < n ∧ n ≤ 8 ∧ k < 3 ∧ b = nI (10 * w + k) ∧ K_gainOf x (nI p) (nI w) (nI k) = some m1)
section BEST
variable {T G : Nat} {x : cc_CT} {r : rr_S} {i s p : Nat} {v1 v2 b m : Int32}
theorem bF_hle (h : CW T G x r) (hi : i < zn r) (hs : s < 10) : ¬ ((10 : Int32) * (r.1 9)) ≤ nI (10 * i + s) := by
  have := h.1.1.2
  rw [h.1.1.1, pu_t10 _ (by omega)]
  exact nI_ge (by omega) (by omega)
theorem bF_div (hi : i < 8) (hs : s < 10) : nI (10 * i + s) / 10 = nI i ∧ nI (10 * i + s) - nI (10 * i + s) / 10 * 10 = nI s := by
  refine ⟨?_, ?_⟩
  · rw [pu_10', pk_div (by omega) (by decide) (by decide), show (10 * i + s) / 10 = i by omega]
  · rw [pu_10', pk_rem (by omega) (by decide) (by decide), show (10 * i + s) % 10 = s by omega]
theorem bF_skip (h : CW T G x r) (hi : i < zn r) (hs : s < 10) (hc : R_areAgainst r v1 (nI i) = some 0 ∨ 2 < s) (self : Int32 × Int32 × Int32 → Option (Int32 × rr_S)) : bF r v1 v2 self (b, m, nI (10 * i + s)) = self (b, m, nI (10 * i + (s + 1))) := by
  obtain ⟨ed, em⟩ := bF_div (i := i) (by have := h.1.1.2; omega) hs
  rw [ed] at em
  have hle := bF_hle h hi hs
  unfold bF
  simp only [if_neg hle, em, ed]
  have e1 : nI (10 * i + s) + 1 = nI (10 * i + (s + 1)) := by rw [pu_i1, Nat.add_assoc]
  rw [e1]
  by_cases h2 : (2 : Int32) < nI s
  · rw [if_pos h2]
  · rw [if_neg h2]
    rcases hc with hc | hc
    · rw [hc, pp_ob_s, if_pos rfl]
    · exact absurd (by rw [pu_2']; exact nI_lt hc (by omega)) h2
theorem bF_upd (h : CW T G x r) (hi : i < zn r) (hs : s < 3) (ha : R_areAgainst r v1 (nI i) = some 1) {u c : Int32} (hu : R_hitOf r v1 (nI i) (nI s) = some u) (hc : R_caughtOf r (nI i) (nI s) = some c) (self : Int32 × Int32 × Int32 → Option (Int32 × rr_S)) : bF r v1 v2 self (b, m, nI (10 * i + s)) = if b < 0 then self (nI (10 * i + s), u - 2 * c, nI (10 * i + (s + 1))) else if m < u - 2 * c then self (nI (10 * i + s), u - 2 * c, nI (10 * i + (s + 1))) else self (b, m, nI (10 * i + (s + 1))) := by
  obtain ⟨ed, em⟩ := bF_div (i := i) (by have := h.1.1.2; omega) (show s < 10 by omega)
  rw [ed] at em
  have hle := bF_hle h hi (show s < 10 by omega)
  unfold bF
  simp only [if_neg hle, em, ed]
  have e1 : nI (10 * i + s) + 1 = nI (10 * i + (s + 1)) := by rw [pu_i1, Nat.add_assoc]
  rw [e1, if_neg (by rw [pu_2']; exact nI_nlt (by omega) (by decide)), ha, pp_ob_s, if_neg pu_10, hu, pp_ob_s, hc, pp_ob_s]
/-- one how of one whom -/
theorem b_step (h : CW T G x r) (hT : T < 2 ^ 30) (hp : p < zn r) (hi : i < zn r) (hs : s < 3) (ha : R_areAgainst r (nI p) (nI i) = some 1) (hb : K_areOpposed x (nI p) (nI i) = some 1) {m1 m2 : Int32} (hR : BR x (zn r) p b m1 m2) : ∃ b' m1' m2', BR x (zn r) p b' m1' m2' ∧ (∀ self, bF r (nI p) v2 self (b, m1, nI (10 * i + s)) = self (b', m1', nI (10 * i + (s + 1)))) ∧ (∀ K self, bG x (nI p) i K self (b, m2, nI s) = self (b', m2', nI (s + 1))) := by
  have hn8 := h.1.1.2
  have hh : nI s = 0 ∨ nI s = 1 ∨ nI s = 2 := by
    rcases (show s = 0 ∨ s = 1 ∨ s = 2 by omega) with rfl | rfl | rfl
    · exact Or.inl rfl
    · exact Or.inr (Or.inl rfl)
    · exact Or.inr (Or.inr rfl)
  obtain ⟨u, u1, u2⟩ := pq_hit h hT hp hi hh
  obtain ⟨c, c1, c2⟩ := pq_caught h hi hh
  have hg : K_gainOf x (nI p) (nI i) (nI s) = some (u - 2 * c) := by
    unfold K_gainOf; rw [u2, pp_ob_s, c2, pp_ob_s]
  have n3 : ¬ (3 : Int32) ≤ nI s := by rw [show (3 : Int32) = nI 3 from by decide +kernel]; exact nI_ge hs (by decide)
  have et : (10 : Int32) * nI i + nI s = nI (10 * i + s) := by rw [pu_t10 _ (by omega), nI_add]
  have hG : ∀ (K self : Int32 × Int32 × Int32 → Option Int32), bG x (nI p) i K self (b, m2, nI s) = if b = -9 then self (nI (10 * i + s), u - 2 * c, nI (s + 1)) else if u - 2 * c ≤ m2 then self (b, m2, nI (s + 1)) else self (nI (10 * i + s), u - 2 * c, nI (s + 1)) := fun K self => by
    unfold bG
    simp only [if_neg n3, hb, pp_ob_s, if_neg pu_10, hg, et, pu_i1]
  have hnew : BR x (zn r) p (nI (10 * i + s)) (u - 2 * c) (u - 2 * c) := Or.inr ⟨rfl, i, s, hi, hn8, hs, rfl, hg⟩
  rcases hR with ⟨rfl, rfl⟩ | ⟨rfl, w, k, hw, -, hk, rfl, hgw⟩
  · refine ⟨_, _, _, hnew, fun self => ?_, fun K self => ?_⟩
    · rw [bF_upd h hi hs ha u1 c1, if_pos (by decide)]
    · rw [hG, if_pos rfl]
  · have nb : ¬ nI (10 * w + k) < 0 := pu_neg (by omega)
    have n9 : ¬ nI (10 * w + k) = -9 := fun e => nb (by rw [e]; decide)
    by_cases hm : m1 < u - 2 * c
    · refine ⟨_, _, _, hnew, fun self => ?_, fun K self => ?_⟩
      · rw [bF_upd h hi hs ha u1 c1, if_neg nb, if_pos hm]
      · rw [hG, if_neg n9, if_neg (Int32.not_le.mpr hm)]
    · refine ⟨_, _, _, Or.inr ⟨rfl, w, k, hw, hn8, hk, rfl, hgw⟩, fun self => ?_, fun K self => ?_⟩
      · rw [bF_upd h hi hs ha u1 c1, if_neg nb, if_neg hm]
      · rw [hG, if_neg n9, if_pos (Int32.not_lt.mp hm)]
/-- one whom -/
theorem b_whom (h : CW T G x r) (hT : T < 2 ^ 30) (hp : p < zn r) (hi : i < zn r) {m1 m2 : Int32} (hR : BR x (zn r) p b m1 m2) : ∃ b' m1' m2', BR x (zn r) p b' m1' m2' ∧ (∀ f, pp_it (bF r (nI p) v2) (f + 10) (b, m1, nI (10 * i)) = pp_it (bF r (nI p) v2) f (b', m1', nI (10 * (i + 1)))) ∧ (∀ K, pp_it (bG x (nI p) i K) 200 (b, m2, (0 : Int32)) = K (b', m2', nI i + 1)) := by
  have e10 : 10 * (i + 1) = 10 * i + 9 + 1 := by omega
  have sk : ∀ {b m : Int32} s, s < 10 → (R_areAgainst r (nI p) (nI i) = some 0 ∨ 2 < s) → ∀ self, bF r (nI p) v2 self (b, m, nI (10 * i + s)) = self (b, m, nI (10 * i + (s + 1))) := fun s hs hc self => bF_skip h hi hs hc self
  rcases pq_ag h (nI p) (nI i) with ⟨-, -, -, -, -, -, -, -, -, ha, hb⟩ | ⟨ha, hb⟩
  · obtain ⟨b1, x1, y1, R1, s1, t1⟩ := b_step (v2 := v2) h hT hp hi (s := 0) (by decide) ha hb hR
    obtain ⟨b2, x2, y2, R2, s2, t2⟩ := b_step (v2 := v2) h hT hp hi (s := 1) (by decide) ha hb R1
    obtain ⟨b3, x3, y3, R3, s3, t3⟩ := b_step (v2 := v2) h hT hp hi (s := 2) (by decide) ha hb R2
    refine ⟨b3, x3, y3, R3, fun f => ?_, fun K => ?_⟩
    · rw [e10]
      exact (s1 _).trans ((s2 _).trans ((s3 _).trans ((sk 3 (by decide) (Or.inr (by decide)) _).trans ((sk 4 (by decide) (Or.inr (by decide)) _).trans ((sk 5 (by decide) (Or.inr (by decide)) _).trans ((sk 6 (by decide) (Or.inr (by decide)) _).trans ((sk 7 (by decide) (Or.inr (by decide)) _).trans ((sk 8 (by decide) (Or.inr (by decide)) _).trans (sk 9 (by decide) (Or.inr (by decide)) _)))))))))
    · have t4 : ∀ self, bG x (nI p) i K self (b3, y3, nI (2 + 1)) = K (b3, y3, nI i + 1) := fun self => if_pos (show (3 : Int32) ≤ nI 3 by decide +kernel)
      rw [pp_200]
      refine (t1 K _).trans ((t2 K _).trans ((t3 K _).trans (t4 _)))
  · refine ⟨b, m1, m2, hR, fun f => ?_, fun K => ?_⟩
    · rw [e10]
      exact (sk 0 (by decide) (Or.inl ha) _).trans ((sk 1 (by decide) (Or.inl ha) _).trans ((sk 2 (by decide) (Or.inl ha) _).trans ((sk 3 (by decide) (Or.inl ha) _).trans ((sk 4 (by decide) (Or.inl ha) _).trans ((sk 5 (by decide) (Or.inl ha) _).trans ((sk 6 (by decide) (Or.inl ha) _).trans ((sk 7 (by decide) (Or.inl ha) _).trans ((sk 8 (by decide) (Or.inl ha) _).trans (sk 9 (by decide) (Or.inl ha) _)))))))))
    · rw [pp_200]
      show bG x (nI p) i K _ (b, m2, (0 : Int32)) = _
      unfold bG
      simp only [if_neg (show ¬ (3 : Int32) ≤ 0 by decide), hb, pp_ob_s, if_true]
end BEST
theorem st_best : lw_S2 II C_best R_best := by
  intro j q r v1 v2 hj h
  simp only [C_best, R_best, pp_lj]
  obtain ⟨q1, r1, n1, -, n2, -, hI1⟩ := pi_no h (Or.inl rfl)
  obtain ⟨q2, r2, n3, -, n4, -, hI2⟩ := pi_no h (Or.inr (Or.inl rfl))
  obtain ⟨q3, r3', n5, -, n6, -, hI3⟩ := pi_no h (Or.inr (Or.inr (Or.inl rfl)))
  have hC : CW 9999 (40 * j) (cc_gC q 0) r := h.1
  have m1 : ¬ (-1 : Int32) = 0 := by decide
  have m2 : ¬ (-2 : Int32) = 0 := by decide
  have m3 : ¬ (-3 : Int32) = 0 := by decide
  simp only [if_neg m1, if_neg m2, if_neg m3, n1, n2, n3, n4, n5, n6, pp_ob_s, if_true]
  rcases pq_pl hC v1 with ⟨p, hp, rfl, e1, f1⟩ | ⟨e1, f1, -⟩ <;> rw [e1, f1, pp_ob_s, pp_ob_s]
  rotate_left
  · rw [if_pos rfl, if_pos rfl]; exact ⟨_, _, _, rfl, rfl, hI1⟩
  rw [if_neg pu_10, if_neg pu_10]
  have h01 : (R_isIn v2 0 1 = some 1 ∧ (v2 = 0 ∨ v2 = 1)) ∨ (R_isIn v2 0 1 = some 0 ∧ v2 ≠ 0 ∧ v2 ≠ 1) := by
    rcases pi_side v2 with ⟨s, hs, rfl, e, -⟩ | ⟨e, -⟩
    · refine Or.inl ⟨e, ?_⟩
      rcases (show s = 0 ∨ s = 1 by omega) with rfl | rfl
      · exact Or.inl rfl
      · exact Or.inr rfl
    · refine Or.inr ⟨e, fun he => ?_, fun he => ?_⟩
      · rw [he] at e; revert e; decide +kernel
      · rw [he] at e; revert e; decide +kernel
  rcases h01 with ⟨e2, hv⟩ | ⟨e2, hv0, hv1⟩
  rotate_left
  · rw [e2, pp_ob_s, if_pos rfl, if_neg hv0, if_neg hv1]; exact ⟨_, _, _, rfl, rfl, hI2⟩
  rw [e2, pp_ob_s, if_neg pu_10]
  obtain ⟨mb, hmb, -, g1, g2⟩ := pq_balls hC hp
  rw [g1, g2, pp_ob_s, pp_ob_s]
  have hcut : ∀ (A : Option (Int32 × cc_S)) (B : Option (Int32 × cc_S)), (if v2 = 0 then A else if v2 = 1 then A else B) = A := fun A B => by
    rcases hv with e | e
    · rw [if_pos e]
    · rw [if_neg (by rw [e]; decide), if_pos e]
  rw [hcut]
  by_cases hm0 : nI mb = 0
  · rw [if_pos hm0, if_pos hm0]; exact ⟨_, _, _, rfl, rfl, hI3⟩
  rw [if_neg hm0, if_neg hm0]
  unfold C_bestThrow
  refine pp_finB (E := fun _ : Int32 => q) ?_
  refine pp_twoN (P := fun (i : Nat) (a1 : Int32 × Int32 × Int32) (a2 : Int32 × Int32 × Int32) => ∃ (b m1 m2 : Int32), a1 = (b, m1, nI (10 * i)) ∧ a2 = (b, m2, nI i) ∧ BR (cc_gC q 0) (zn r) p b m1 m2) (Q := fun (b1 : Int32 × rr_S) (b2 : Int32) => (if b2 = (-9 : Int32) then some (b2, q) else (if v2 = (0 : Int32) then some (b2, q) else pp_ob (K_gainOf (cc_gC q 0) (nI p) (b2 / (10 : Int32)) (b2 - (b2 / (10 : Int32)) * (10 : Int32))) (fun r22 => some (r22, q)))) = some (b1.1, q) ∧ II (j + 1) q b1.2) (zn r) 10 1 ?_ 9 0 _ _ 200 200 (by have := hC.1.1.2; omega) (by omega) ⟨-9, -9, 0, rfl, rfl, Or.inl ⟨rfl, rfl⟩⟩ (by decide) (by decide)
  rintro i a1 a2 hi ⟨b, k1, k2, rfl, rfl, hR⟩
  have hn := hC.1.1.1
  have hn8 := hC.1.1.2
  have hx := hC.2.1
  by_cases hin : i = zn r
  · left
    subst hin
    have hle : (10 : Int32) * (r.1 9) ≤ nI (10 * zn r) := by rw [hn, pu_t10 _ (by omega)]; exact Int32.le_refl _
    have hle1 : (cc_gC q 0).1.1 1 ≤ nI (zn r) := by rw [hx, hn]; exact Int32.le_refl _
    refine ⟨(if v2 = 0 then b else k1, r), b, fun f hf => ?_, fun f hf => ?_, ?_, h.up⟩
    · obtain ⟨z, rfl⟩ : ∃ z, f = z + 1 := ⟨f - 1, by omega⟩
      rw [pp_it_s]
      refine (if_pos hle).trans ?_
      by_cases h0 : v2 = 0
      · rw [if_pos h0, if_pos h0]
      · rw [if_neg h0, if_neg h0]
    · obtain ⟨z, rfl⟩ : ∃ z, f = z + 1 := ⟨f - 1, by omega⟩
      rw [pp_it_s]
      exact if_pos hle1
    · by_cases h0 : v2 = 0
      · rw [if_pos h0]
        by_cases h9 : b = -9
        · rw [if_pos h9, if_pos h0]
        · rw [if_neg h9, if_pos h0]
      · rw [if_neg h0]
        rcases hR with ⟨rfl, rfl⟩ | ⟨rfl, w, k, hw, -, hk, rfl, hg⟩
        · rw [if_pos rfl, if_neg h0]
        · have n9 : ¬ nI (10 * w + k) = -9 := fun e => pu_neg (a := 10 * w + k) (by omega) (by rw [e]; decide)
          obtain ⟨ed, em⟩ := bF_div (i := w) (s := k) (by omega) (by omega)
          rw [if_neg n9, em, ed, hg, pp_ob_s, if_neg h0]
  · right
    have hi' : i < zn r := by omega
    have hle1 : ¬ (cc_gC q 0).1.1 1 ≤ nI i := by rw [hx, hn]; exact nI_ge hi' (by omega)
    obtain ⟨b', k1', k2', hR', s1, s2⟩ := b_whom (v2 := v2) hC (by decide) hp hi' hR
    refine ⟨hi', (b', k1', nI (10 * (i + 1))), (b', k2', nI (i + 1)), fun f => s1 f, fun f => ?_, b', k1', k2', rfl, rfl, hR'⟩
    rw [pp_it_s]
    refine (if_neg hle1).trans ((s2 _).trans ?_)
    show pp_it _ f (b', k2', nI i + 1) = _
    rw [pu_i1]
