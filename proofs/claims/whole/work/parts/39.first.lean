section FIRST
variable {T G : Nat} {x : cc_CT} {r : rr_S} {p s : Nat}
theorem pq_long (h : CW T G x r) (hs : s < 2) : (R_longest r (nI s) = some (-9) ∧ zk r s = 0) ∨ ∃ p, R_longest r (nI s) = some (nI p) ∧ zw r s p = true ∧ za r s (zc r 5 p) = 0 := by
  obtain ⟨⟨hn, hn8⟩, -⟩ := h.1
  have key := pp_one (F := fun (self1 : Int32 × Int32 → Option Int32) (a1 : Int32 × Int32) => (if (r.1 9) ≤ a1.2 then some a1.1 else pp_ix a1.2 8 (pp_lj (fun (a7 : Int32) => (pp_lj (a1.2 + 1 : Int32) (fun x10 => self1 (a7, x10)) : Option Int32)) (fun j7 => (if (r.2.1 1 (Int32.toNatClampNeg a1.2)) = nI s then (if (r.2.1 5 (Int32.toNatClampNeg a1.2)) ≤ (0 : Int32) then j7 a1.1 else pp_lj (fun (a18 : Unit) => (j7 a1.2 : Option Int32)) (fun j18 => (if a1.1 < (0 : Int32) then j18 () else pp_ix a1.1 8 ((if (r.2.1 5 (Int32.toNatClampNeg a1.1)) ≤ (r.2.1 5 (Int32.toNatClampNeg a1.2)) then j7 a1.1 else j18 ()))))) else j7 a1.1)))))
    (P := fun i a => ∃ best, a = (best, nI i) ∧ ((best = -9 ∧ ∀ k, k < i → zw r s k = false) ∨ ∃ b, b < i ∧ best = nI b ∧ zw r s b = true ∧ ∀ k, k < i → zw r s k = true → zc r 5 b ≤ zc r 5 k))
    (Q := fun best => (best = -9 ∧ zk r s = 0) ∨ ∃ b, best = nI b ∧ zw r s b = true ∧ za r s (zc r 5 b) = 0) (zn r) ?_ 9 0 (-9, 0) 200 (by omega) (by omega) ⟨-9, rfl, Or.inl ⟨rfl, fun k hk => absurd hk (Nat.not_lt_zero k)⟩⟩ (by decide)
  · obtain ⟨best, e, q | ⟨b, rfl, q⟩⟩ := key
    · exact Or.inl ⟨by unfold R_longest; rw [e, q.1], q.2⟩
    · exact Or.inr ⟨b, e, q⟩
  · rintro i a hi ⟨best, rfl, hb⟩
    have hzn : ∀ k, zn r ≤ k → zw r s k = false := fun k hk => by unfold zw; rw [decide_eq_false (show ¬ k < zn r by omega), Bool.false_and]
    by_cases hin : i = zn r
    · left
      subst hin
      refine ⟨best, fun self => if_pos (by show r.1 9 ≤ nI (zn r); rw [hn]; exact (nI_leI (by omega) (by omega)).mpr (Nat.le_refl _)), ?_⟩
      rcases hb with ⟨b1, b2⟩ | ⟨b, b1, b2, b3, b4⟩
      · left
        refine ⟨b1, ?_⟩
        unfold zk
        rw [List.countP_eq_zero]
        intro k _
        by_cases hk : k < zn r
        · rw [b2 k hk]; decide
        · rw [hzn k (by omega)]; decide
      · right
        refine ⟨b, b2, b3, ?_⟩
        unfold za
        rw [List.countP_eq_zero]
        intro k _
        by_cases hk : zw r s k = true
        · have := b4 k (zw_d hk).1 hk
          rw [hk, decide_eq_false (by omega)]; decide
        · rw [Bool.not_eq_true] at hk; rw [hk]; simp
    · right
      have hi' : i < zn r := by omega
      have hi8 : i < 8 := by omega
      obtain ⟨e1, e2, e3, e4, e5⟩ := pq_row h hi'
      obtain ⟨g0, g1, g2, g3, g4, g5⟩ := h.1.2.2.2.1 i hi'
      have hb31 : ∀ q, q < zn r → zc r 5 q < 2 ^ 31 := fun q hq => by
        have := (pq_row h hq).2.2.2.2
        show (r.2.1 5 q).toNatClampNeg < 2 ^ 31
        have h1 := (r.2.1 5 q).toInt_lt
        have h2 : (r.2.1 5 q).toNatClampNeg = (r.2.1 5 q).toInt.toNat := rfl
        omega
      have hzw : zw r s i = (decide (zc r 1 i = s) && decide (0 < zc r 5 i)) := by unfold zw; rw [decide_eq_true hi', Bool.true_and]
      have hstep : ∃ nb, (∀ self : Int32 × Int32 → Option Int32, (if (r.2.1 1 i) = nI s then (if (r.2.1 5 i) ≤ (0 : Int32) then self (best, nI (i + 1)) else (if best < (0 : Int32) then self (nI i, nI (i + 1)) else pp_ix best 8 ((if (r.2.1 5 (Int32.toNatClampNeg best)) ≤ (r.2.1 5 i) then self (best, nI (i + 1)) else self (nI i, nI (i + 1)))))) else self (best, nI (i + 1))) = self (nb, nI (i + 1))) ∧ ((nb = -9 ∧ ∀ k, k < i + 1 → zw r s k = false) ∨ ∃ b, b < i + 1 ∧ nb = nI b ∧ zw r s b = true ∧ ∀ k, k < i + 1 → zw r s k = true → zc r 5 b ≤ zc r 5 k) := by
        have hskip : zw r s i = false → ((best = -9 ∧ ∀ k, k < i + 1 → zw r s k = false) ∨ ∃ b, b < i + 1 ∧ best = nI b ∧ zw r s b = true ∧ ∀ k, k < i + 1 → zw r s k = true → zc r 5 b ≤ zc r 5 k) := fun hz => by
          rcases hb with ⟨b1, b2⟩ | ⟨b, b1, b2, b3, b4⟩
          · refine Or.inl ⟨b1, fun k hk => ?_⟩
            by_cases hki : k = i
            · subst hki; exact hz
            · exact b2 k (by omega)
          · refine Or.inr ⟨b, by omega, b2, b3, fun k hk hw => ?_⟩
            by_cases hki : k = i
            · subst hki; rw [hz] at hw; cases hw
            · exact b4 k (by omega) hw
        by_cases h1 : zc r 1 i = s
        rotate_left
        · refine ⟨best, fun self => ?_, hskip (by rw [hzw, decide_eq_false h1, Bool.false_and])⟩
          rw [if_neg (by rw [e1]; exact pu_ne (by omega) (by omega) h1)]
        by_cases h5 : zc r 5 i = 0
        · refine ⟨best, fun self => ?_, hskip (by rw [hzw, h5]; simp)⟩
          rw [if_pos (by rw [e1, h1]), if_pos (by rw [e5, h5]; decide +kernel)]
        have hzt : zw r s i = true := by rw [hzw, decide_eq_true h1, decide_eq_true (by omega)]; rfl
        have n5 : ¬ r.2.1 5 i ≤ 0 := by rw [e5, pu_0]; exact nI_ge (by omega) (hb31 i hi')
        rcases hb with ⟨b1, b2⟩ | ⟨b, b1, b2, b3, b4⟩
        · refine ⟨nI i, fun self => ?_, Or.inr ⟨i, Nat.lt_succ_self i, rfl, hzt, fun k hk hw => ?_⟩⟩
          · rw [if_pos (by rw [e1, h1]), if_neg n5, b1, if_pos (by decide)]
          · by_cases hki : k = i
            · subst hki; exact Nat.le_refl _
            · rw [b2 k (by omega)] at hw; cases hw
        · have hbn := (zw_d b3).1
          have f5 := (pq_row h hbn).2.2.2.2
          by_cases hle : zc r 5 b ≤ zc r 5 i
          · refine ⟨best, fun self => ?_, Or.inr ⟨b, by omega, b2, b3, fun k hk hw => ?_⟩⟩
            · rw [if_pos (by rw [e1, h1]), if_neg n5, b2, if_neg (pu_neg (by omega)), pp_ix_n (by omega) (by decide), pu_c (by omega), f5, e5, if_pos ((nI_leI (hb31 b hbn) (hb31 i hi')).mpr hle)]
            · by_cases hki : k = i
              · subst hki; exact hle
              · exact b4 k (by omega) hw
          · refine ⟨nI i, fun self => ?_, Or.inr ⟨i, Nat.lt_succ_self i, rfl, hzt, fun k hk hw => ?_⟩⟩
            · rw [if_pos (by rw [e1, h1]), if_neg n5, b2, if_neg (pu_neg (by omega)), pp_ix_n (by omega) (by decide), pu_c (by omega), f5, e5, if_neg (fun h => hle ((nI_leI (hb31 b hbn) (hb31 i hi')).mp h))]
            · by_cases hki : k = i
              · subst hki; exact Nat.le_refl _
              · have := b4 k (by omega) hw; omega
      obtain ⟨nb, s1, s2⟩ := hstep
      refine ⟨hi', (nb, nI (i + 1)), fun self => ?_, nb, rfl, s2⟩
      simp only [pp_lj]
      rw [hn, if_neg (nI_ge hi' (by omega)), pp_ix_n hi8 (by decide), pu_c (by omega), pu_i1]
      exact s1 self
end FIRST
