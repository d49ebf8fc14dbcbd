theorem pq_lying {T G : Nat} {x : cc_CT} {r : rr_S} (h : CW T G x r) (s : Int32) : ∃ v, R_lying r s = some v ∧ K_lyingCount x s = some v := by
  have key := pp_two (F1 := fun (self1 : Int32 × Int32 → Option Int32) (a1 : Int32 × Int32) => (if (6 : Int32) ≤ a1.2 then some a1.1 else pp_ix a1.2 6 (pp_lj (fun (a7 : Int32) => (pp_lj ((a1.1 + a7) : Int32) (fun x10 => pp_lj (a1.2 + 1 : Int32) (fun x12 => self1 (x10, x12))) : Option Int32)) (fun j7 => (if (r.2.1 7 (Int32.toNatClampNeg a1.2)) = s then j7 (1 : Int32) else j7 (0 : Int32))))))
    (F2 := fun (self1 : Int32 × Int32 → Option Int32) (a1 : Int32 × Int32) => (if (6 : Int32) ≤ a1.2 then some a1.1 else pp_ix a1.2 6 (pp_lj (fun (a7 : Int32) => (pp_lj (a1.2 + 1 : Int32) (fun x10 => self1 (a7, x10)) : Option Int32)) (fun j7 => (if (x.1.2.1 5 (Int32.toNatClampNeg a1.2)) = s then pp_lj (a1.1 + 1 : Int32) (fun x15 => j7 x15) else j7 a1.1)))))
    (P := fun i a1 a2 => a1 = a2 ∧ a1.2 = nI i) (Q := fun b1 b2 => b1 = b2) 6 ?_ 7 0 (0, 0) (0, 0) 200 200 (by decide) (by decide) ⟨rfl, pu_0⟩ (by decide) (by decide)
  · obtain ⟨b1, b2, e1, e2, rfl⟩ := key
    exact ⟨_, e1, e2⟩
  · rintro i ⟨a, i1⟩ a2 hi ⟨rfl, hi1⟩
    have hi1 : i1 = nI i := hi1
    subst hi1
    by_cases h6 : i = 6
    · left
      subst h6
      exact ⟨a, a, fun self => if_pos (show (6 : Int32) ≤ nI 6 by decide +kernel), fun self => if_pos (show (6 : Int32) ≤ nI 6 by decide +kernel), rfl⟩
    · right
      have hi6 : i < 6 := by omega
      have n6 : ¬ (6 : Int32) ≤ nI i := by rw [pu_6]; exact nI_ge hi6 (by decide)
      have hb := (h.2.2.2.2.1 i hi6).2.1
      simp only [pp_lj, pp_ix_n hi6 (show 6 < 2 ^ 31 by decide), pu_c (show i < 2 ^ 31 by omega), if_neg n6, hb]
      by_cases hs : r.2.1 7 i = s
      · simp only [if_pos hs]
        exact ⟨hi6, _, _, fun self => rfl, fun self => rfl, rfl, pu_i1⟩
      · simp only [if_neg hs, Int32.add_zero]
        exact ⟨hi6, _, _, fun self => rfl, fun self => rfl, rfl, pu_i1⟩
theorem pq_inc {T G : Nat} {x : cc_CT} {r : rr_S} (h : CW T G x r) {s : Nat} (hs : s < 2) : S_inCount (x.2.1 s) = some (nI (zh r s)) := by
  obtain ⟨m, e, l, b, -⟩ := pq_in8 h hs
  unfold S_inCount
  rw [e, pu_bits8 m l, pp_ob_s, b]
theorem st_count : lw_Sc II := by
  intro j q r v1 _ h
  have hC : CW 9999 (40 * j) (cc_gC q 0) r := h.1
  have hII := h.up
  obtain ⟨-, -, hR, ⟨mo, -, o1, o2, -⟩, ⟨mt, -, t1, t2, -⟩⟩ := h
  have key : ∃ v, C_count q v1 = some v ∧ R_count r v1 = some v := by
    by_cases hA : ∃ k, 1 ≤ k ∧ k ≤ 6 ∧ v1 = nI (10 + k)
    · obtain ⟨k, k1, k6, rfl⟩ := hA
      have hk := hR k (by omega)
      simp only [C_count, R_count, C_refusalCount, pp_lj]
      have a0 : R_isIn (nI (10 + k)) 11 16 = some 1 := by rcases (show k = 1 ∨ k = 2 ∨ k = 3 ∨ k = 4 ∨ k = 5 ∨ k = 6 by omega) with rfl | rfl | rfl | rfl | rfl | rfl <;> decide +kernel
      have a1 : nI (10 + k) - 10 = nI k := by rw [show (10 : Int32) = nI 10 from pu_10', ← nI_add, Int32.add_comm, Int32.add_sub_cancel]
      have ne : ∀ c, c < 8 → ¬ nI (10 + k) = nI c := fun c hc => pu_ne (by omega) (by omega) (by omega)
      rw [a0, pp_ob_s, if_neg pu_10, a1, pp_ix_n (by omega) (by decide), pu_c (by omega)]
      rw [if_neg (show ¬ nI (10 + k) = 0 from ne 0 (by decide)), if_neg (show ¬ nI (10 + k) = 1 from ne 1 (by decide)), if_neg (show ¬ nI (10 + k) = 2 from ne 2 (by decide)), if_neg (show ¬ nI (10 + k) = 3 from ne 3 (by decide)), if_neg (show ¬ nI (10 + k) = 4 from ne 4 (by decide)), if_neg (show ¬ nI (10 + k) = 5 from ne 5 (by decide)), if_neg (show ¬ nI (10 + k) = 6 from ne 6 (by decide)), if_neg (show ¬ nI (10 + k) = 7 from ne 7 (by decide))]
      rw [if_neg (show ¬ nI k ≤ 0 by rw [pu_0]; exact nI_ge (by omega) (by omega)), if_neg (show ¬ Int32.ofNat 7 ≤ nI k from nI_ge (by omega) (by decide)), pp_ix_n (by omega) (by decide), pp_ob_s, hk]
      exact ⟨_, rfl, rfl⟩
    · have b0 : R_isIn v1 11 16 = some 0 := by
        simp only [R_isIn, pp_lj]
        rcases pu_int v1 with hv | ⟨k, rfl, hk⟩
        · rw [if_pos (Int32.lt_of_lt_of_le hv (by decide))]
        · rw [show (11 : Int32) = nI 11 from by decide +kernel, show (16 : Int32) = nI 16 from by decide +kernel]
          by_cases h1 : k < 11
          · rw [if_pos (nI_lt h1 (by decide))]
          · rw [if_neg (nI_nlt (by omega) hk)]
            by_cases h2 : 16 < k
            · rw [if_pos (nI_lt h2 hk)]
            · exact absurd ⟨k - 10, by omega, by omega, by rw [show 10 + (k - 10) = k by omega]⟩ hA
      have b1 : C_refusalCount q (v1 - 10) = some (-9) := by
        simp only [C_refusalCount, pp_lj]
        by_cases h1 : v1 - 10 ≤ 0
        · rw [if_pos h1]
        · rw [if_neg h1]
          by_cases h2 : Int32.ofNat 7 ≤ v1 - 10
          · rw [if_pos h2]
          · exfalso
            rcases pu_int (v1 - 10) with hv | ⟨k, e, hk⟩
            · exact h1 (Int32.le_of_lt hv)
            · rw [e] at h1 h2
              have k1 : ¬ k = 0 := fun z => h1 (by rw [z]; decide +kernel)
              have k2 : ¬ 7 ≤ k := fun z => h2 ((nI_leI (by decide) hk).mpr z)
              refine hA ⟨k, by omega, by omega, ?_⟩
              have : v1 = nI k + 10 := by rw [← e, Int32.sub_add_cancel]
              rw [this, pu_10', nI_add, Nat.add_comm]
      simp only [C_count, R_count]
      rw [b0, pp_ob_s, if_pos rfl, b1, pp_ob_s]
      by_cases c0 : v1 = 0
      · rw [if_pos c0, if_pos c0, hC.2.1]; exact ⟨_, rfl, rfl⟩
      rw [if_neg c0, if_neg c0]
      by_cases c1 : v1 = 1
      · have g := pq_inc hC (s := 0) (by decide)
        have g' : S_inCount (cc_gS (cc_gC q 0) 0) = some (nI (zh r 0)) := g
        rw [if_pos c1, if_pos c1, c1, show (1 : Int32) - 1 = nI 0 from by decide +kernel, pq_here hC (by decide), show (0 : Int32) = nI 0 from pu_0, pk_sideAt (by decide), pp_ob_s]
        unfold pp_l2
        rw [if_pos (by decide), g']; exact ⟨_, rfl, rfl⟩
      rw [if_neg c1, if_neg c1]
      by_cases c2 : v1 = 2
      · have g := pq_inc hC (s := 1) (by decide)
        have g' : S_inCount (cc_gS (cc_gC q 0) 1) = some (nI (zh r 1)) := g
        rw [if_pos c2, if_pos c2, c2, show (2 : Int32) - 1 = nI 1 from by decide +kernel, pq_here hC (by decide), show (1 : Int32) = nI 1 from by decide +kernel, pk_sideAt (by decide), pp_ob_s]
        unfold pp_l2
        rw [if_pos (by decide), g']; exact ⟨_, rfl, rfl⟩
      rw [if_neg c2, if_neg c2]
      by_cases c3 : v1 = 3
      · rw [if_pos c3, if_pos c3, hC.2.2.1]; exact ⟨_, rfl, rfl⟩
      rw [if_neg c3, if_neg c3]
      by_cases c4 : v1 = 4
      · obtain ⟨v, g1, g2⟩ := pq_lying hC 0
        rw [if_pos c4, if_pos c4, c4, show (4 : Int32) - 4 = 0 from by decide, g1, g2]; exact ⟨_, rfl, rfl⟩
      rw [if_neg c4, if_neg c4]
      by_cases c5 : v1 = 5
      · obtain ⟨v, g1, g2⟩ := pq_lying hC 1
        rw [if_pos c5, if_pos c5, c5, show (5 : Int32) - 4 = 1 from by decide, g1, g2]; exact ⟨_, rfl, rfl⟩
      rw [if_neg c5, if_neg c5]
      by_cases c6 : v1 = 6
      · rw [if_pos c6, if_pos c6, o1, o2]; exact ⟨_, rfl, rfl⟩
      rw [if_neg c6, if_neg c6]
      by_cases c7 : v1 = 7
      · have t1' : (cc_gT q).1 1 = nI mt := t1
        rw [if_pos c7, if_pos c7, t1', t2]; exact ⟨_, rfl, rfl⟩
      rw [if_neg c7, if_neg c7]
      exact ⟨_, rfl, rfl⟩
  obtain ⟨v, e1, e2⟩ := key
  exact ⟨v, e1, e2, hII⟩
