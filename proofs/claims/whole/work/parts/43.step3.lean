theorem pq_could {T G : Nat} {x : cc_CT} {r : rr_S} (h : CW T G x r) (v w : Int32) : (R_areAgainst r v w = some 0 ∧ K_couldThrowAt x v w = some 0) ∨ (∃ p p' z, p < zn r ∧ p' < zn r ∧ v = nI p ∧ w = nI p' ∧ R_areAgainst r v w = some 1 ∧ R_holds r v = some z ∧ K_couldThrowAt x v w = some (if z = 0 then 0 else 1)) := by
  simp only [K_couldThrowAt, pp_lj]
  rcases pq_ag h v w with ⟨p, p', hp, hp', rfl, rfl, -, -, -, e, f⟩ | ⟨e, f⟩
  · right
    obtain ⟨m, -, -, a, b⟩ := pq_balls h hp
    refine ⟨p, p', nI m, hp, hp', rfl, rfl, e, a, ?_⟩
    rw [f, pp_ob_s, if_neg pu_10, b, pp_ob_s]
    by_cases h0 : nI m = 0
    · rw [if_pos h0, if_pos h0]
    · rw [if_neg h0, if_neg h0]
  · left
    exact ⟨e, by rw [f, pp_ob_s, if_pos rfl]⟩
theorem pu_or0 (v : Int32) : v ||| 0 = v := by
  apply Int32.toBitVec_inj.mp
  show v.toBitVec ||| 0#32 = v.toBitVec
  exact BitVec.or_zero
theorem st_whose : lw_S1 II C_whose R_whose := by
  intro j q r v1 _ h
  simp only [C_whose, R_whose, pp_lj]
  obtain ⟨q1, r1, n1, n2, -, -, hI1⟩ := pi_no h (Or.inl rfl)
  obtain ⟨q3, r3', n5, n6, -, -, hI3⟩ := pi_no h (Or.inr (Or.inr (Or.inl rfl)))
  have hC : CW 9999 (40 * j) (cc_gC q 0) r := h.1
  have m1 : ¬ (-1 : Int32) = 0 := by decide
  have m3 : ¬ (-3 : Int32) = 0 := by decide
  simp only [if_neg m1, if_neg m3, n1, n2, n5, n6, pp_ob_s, if_true]
  rcases pq_pl hC v1 with ⟨p, hp, rfl, e1, f1⟩ | ⟨e1, f1, -⟩ <;> rw [e1, f1, pp_ob_s, pp_ob_s]
  rotate_left
  · rw [if_pos rfl, if_pos rfl]; exact ⟨_, _, _, rfl, rfl, hI1⟩
  rw [if_neg pu_10, if_neg pu_10, (pq_in hC hp).1, (pq_in hC hp).2, pp_ob_s, pp_ob_s]
  by_cases ho : zc r 5 p = 0
  rotate_left
  · rw [if_neg ho, if_pos rfl, if_pos rfl]; exact ⟨_, _, _, rfl, rfl, hI3⟩
  rw [if_pos ho, if_neg pu_10, if_neg pu_10]
  obtain ⟨hn, hn8⟩ := hC.1.1
  have hx1 := hC.2.1
  have key := pp_two (F1 := fun (self9 : Int32 × Int32 → Option (Int32 × cc_S)) (a9 : Int32 × Int32) => (if ((cc_gC q 0).1.1 1) ≤ a9.2 then some (a9.1, q) else pp_ob (K_couldThrowAt (cc_gC q 0) a9.2 (nI p)) (fun r13 => (if r13 = (0 : Int32) then self9 (a9.1, a9.2 + 1) else self9 (a9.1 ||| ((1 : Int32) <<< (a9.2 &&& 31)), a9.2 + 1)))))
    (F2 := fun (self8 : Int32 × Int32 → Option (Int32 × rr_S)) (a8 : Int32 × Int32) => (if (r.1 9) ≤ a8.2 then some (a8.1, r) else pp_ob (R_areAgainst r a8.2 (nI p)) (fun r12 => (if r12 = (0 : Int32) then self8 (a8.1 ||| 0, a8.2 + 1) else pp_ob (R_holds r a8.2) (fun r27 => (if r27 = (0 : Int32) then self8 (a8.1 ||| 0, a8.2 + 1) else self8 (a8.1 ||| ((1 : Int32) <<< (a8.2 &&& 31)), a8.2 + 1)))))))
    (P := fun i a1 a2 => a1 = a2 ∧ a1.2 = nI i) (Q := fun b1 b2 => b1.1 = b2.1 ∧ b1.2 = q ∧ b2.2 = r) (zn r) ?_ 9 0 (0, 0) (0, 0) 200 200 (by omega) (by omega) ⟨rfl, rfl⟩ (by decide) (by decide)
  · obtain ⟨⟨w1, q1'⟩, ⟨w2, r1'⟩, g1, g2, rfl, rfl, rfl⟩ := key
    exact ⟨_, _, _, g1, g2, h.up⟩
  · rintro i ⟨a, i1⟩ a2 hi ⟨rfl, hi1⟩
    have hi1 : i1 = nI i := hi1
    subst hi1
    by_cases hin : i = zn r
    · left
      have hle : r.1 9 ≤ nI i := by rw [hn]; exact (nI_leI (by omega) (by omega)).mpr (by omega)
      exact ⟨(a, q), (a, r), fun self => if_pos (by rw [hx1]; exact hle), fun self => if_pos hle, rfl, rfl, rfl⟩
    · right
      have hi' : i < zn r := by omega
      have hle : ¬ r.1 9 ≤ nI i := by rw [hn]; exact nI_ge hi' (by omega)
      have hle1 : ¬ (cc_gC q 0).1.1 1 ≤ nI i := by rw [hx1]; exact hle
      rcases pq_could hC (nI i) (nI p) with ⟨e, f⟩ | ⟨p1, p2, z, -, -, -, -, e, e2, f⟩
      · refine ⟨hi', (a, nI i + 1), (a, nI i + 1), fun self => ?_, fun self => ?_, rfl, pu_i1⟩
        · rw [if_neg hle1, f, pp_ob_s, if_pos rfl]
        · rw [if_neg hle, e, pp_ob_s, if_pos rfl, pu_or0]
      · by_cases hz : z = 0
        · refine ⟨hi', (a, nI i + 1), (a, nI i + 1), fun self => ?_, fun self => ?_, rfl, pu_i1⟩
          · rw [if_neg hle1, f, pp_ob_s, if_pos hz, if_pos rfl]
          · rw [if_neg hle, e, pp_ob_s, if_neg pu_10, e2, pp_ob_s, if_pos hz, pu_or0]
        · refine ⟨hi', (a ||| ((1 : Int32) <<< (nI i &&& 31)), nI i + 1), (a ||| ((1 : Int32) <<< (nI i &&& 31)), nI i + 1), fun self => ?_, fun self => ?_, rfl, pu_i1⟩
          · rw [if_neg hle1, f, pp_ob_s, if_neg hz, if_neg pu_10]
          · rw [if_neg hle, e, pp_ob_s, if_neg pu_10, e2, pp_ob_s, if_neg hz]
