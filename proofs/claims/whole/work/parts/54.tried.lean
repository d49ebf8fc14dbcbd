theorem pp_finB {α β1 β2 γ2 : Type} {o1 : Option (α × β1)} {o2 : Option γ2} {D : γ2 → Option (α × β2)} {I : β2 → β1 → Prop} {E : γ2 → β2} (h : ∃ b1 b2, o1 = some b1 ∧ o2 = some b2 ∧ (D b2 = some (b1.1, E b2) ∧ I (E b2) b1.2)) : ∃ v q1 r1, pp_ob o2 D = some (v, q1) ∧ o1 = some (v, r1) ∧ I q1 r1 := by
  obtain ⟨⟨v1, b1⟩, b2, rfl, rfl, h1, h2⟩ := h
  exact ⟨_, _, _, (pp_ob_s b2 D).trans h1, rfl, h2⟩
section TRIED
variable {r r' r2 : rr_S}
/-- what stands while throws are tried out -/
def FT (r r' : rr_S) : Prop := (∀ k, k = 16 ∨ k = 20 ∨ k = 26 → r'.1 k = r.1 k) ∧ (∀ k, k = 0 ∨ k = 12 ∨ k = 19 ∨ k = 25 → r'.2.1 k = r.2.1 k)
theorem FT.tr (h : FT r r') (h2 : FT r' r2) : FT r r2 := ⟨fun k hk => (h2.1 k hk).trans (h.1 k hk), fun k hk => (h2.2 k hk).trans (h.2 k hk)⟩
theorem FT.rf : FT r r := ⟨fun _ _ => rfl, fun _ _ => rfl⟩
theorem FR.ft (h : FR r r') : FT r r' := ⟨fun k hk => h.1 k (by omega) (by omega) (by omega), fun k hk => h.2.1 k (by omega)⟩
theorem FT.fs (h : FT r r') : FS r r' := ⟨fun k hk => h.1 k (by omega), fun k hk => h.2 k (by omega), fun i _ => by rw [h.2 19 (by omega)]⟩
theorem II.tried {j : Nat} {q qi : cc_S} {r1 ri : rr_S} (h : II j q r) (hK : KF 65 r r1) (hF : FT r1 ri) (e4 : qi.1.1 4 = q.1.1 4) (e7 : qi.1.1 7 = q.1.1 7) (e6 : qi.1.2.1 6 = q.1.2.1 6) (e8 : qi.1.2.1 8 = q.1.2.1 8) (et : qi.2.1 = q.2.1) (e0 : qi.2.2.1 0 = q.2.2.1 0) (e2 : qi.2.2.1 2 = q.2.2.1 2) : ∃ r7, R_passesAll ri 1 0 = some r7 ∧ II (j + 1) qi r7 := by
  obtain ⟨r7, g, hR⟩ := pr_back ri (v := 1) (w := 65) (Or.inr ⟨rfl, rfl⟩)
  have hC : CW 9999 (40 * j) (q.2.2.1 0) r := h.1
  obtain ⟨-, hZ⟩ := hC.keep hK
  have hZi : CW 9999 (40 * j) (q.2.2.1 0) (zim 65 ri) := hZ.imageS (fun i _ => by rw [hF.2 19 (by omega)])
  have h7 : CW 9999 (40 * (j + 1)) (qi.2.2.1 0) r7 := by rw [e0]; exact (hZi.back hR).mono (Nat.le_refl _) (by omega)
  refine ⟨r7, g, h.courtS e4 e7 e6 e8 e2 ((hK.fs.tr hF.fs).tr hR.fs) ?_ h7⟩
  refine h.2.2.2.2.same et ?_ ?_
  · rw [hR.1 16 (by decide) (by decide) (by decide) (by decide) (by decide), hF.1 16 (Or.inl rfl), hK.1 16 (by decide) (by decide)]
  · rw [hR.2.1 12 (by decide), hF.2 12 (Or.inr (Or.inl rfl)), hK.2.1 12 (by decide)]
end TRIED
theorem st_judge : lw_S0 II C_judge R_judge := by
  intro j q r hj h
  simp only [C_judge, R_judge, C_playRowInMind, pp_lj, pp_ob_id]
  obtain ⟨x1, g1, hL⟩ := pk_like (cc_gC q 1) (cc_gC q 0)
  obtain ⟨r1, g2, hK⟩ := pr_keep r (v := 1) (w := 65) (Or.inr ⟨rfl, rfl⟩)
  have hC : CW 9999 (40 * j) (cc_gC q 0) r := h.1
  obtain ⟨hC1, -⟩ := hC.keep hK
  rw [g1, pp_ob_s, g2, pp_ob_s]
  obtain ⟨m, m12, o1, o2, o3⟩ := h.2.2.2.1
  refine pp_fin ?_
  refine pp_twoN (P := fun (i : Nat) (a1 : rr_S × Int32 × Int32) (a2 : cc_S × Int32) => ∃ (qi : cc_S) (ri : rr_S), a1 = (ri, (-9 : Int32), nI i) ∧ a2 = (qi, nI i) ∧ CW (9999 + i) (40 * j + i) (qi.2.2.1 1) ri ∧ FR r1 ri ∧ qi.1 = q.1 ∧ qi.2.1 = q.2.1 ∧ qi.2.2.1 0 = q.2.2.1 0 ∧ qi.2.2.1 2 = q.2.2.1 2) (Q := fun (b1 : Int32 × rr_S) (b2 : Int32 × cc_S) => b1.1 = b2.1 ∧ II (j + 1) b2.2 b1.2) m 1 2 ?_ 13 0 _ _ 200 200 (by omega) (by omega) ⟨_, _, rfl, rfl, hC1.like hL, FR.rf r1, rfl, rfl, rfl, rfl⟩ (by decide) (by decide)
  rintro i a1 a2 hi ⟨qi, ri, rfl, rfl, hCi, hF, e1, e2, e3, e4⟩
  obtain ⟨r7, g7, hI⟩ := h.tried hK hF.ft (qi := qi) (by rw [e1]) (by rw [e1]) (by rw [e1]) (by rw [e1]) e2 e3 e4
  have t26 : ri.1 26 = nI m := by rw [hF.1 26 (by decide) (by decide) (by decide), hK.1 26 (by decide) (by decide)]; exact o2
  have t7 : qi.1.1 7 = nI m := by rw [e1]; exact o1
  by_cases him : i = m
  · left
    subst him
    refine ⟨((-9 : Int32), r7), ((-9 : Int32), qi), fun f hf => ?_, fun f hf => ?_, rfl, hI⟩
    · obtain ⟨z, rfl⟩ : ∃ z, f = z + 1 := ⟨f - 1, by omega⟩
      rw [pp_it_s]
      simp only [t26]
      rw [if_pos (nI_le (Nat.le_refl _) (by omega)), g7, pp_ob_s]
    · obtain ⟨z, rfl⟩ : ∃ z, f = z + 1 := ⟨f - 1, by omega⟩
      rw [pp_it_s]
      simp only [t7]
      rw [if_pos (nI_le (Nat.le_refl _) (by omega))]
  · have him' : i < m := by omega
    obtain ⟨w1, v, hv, w2⟩ := o3 i him'
    have t25 : ri.2.1 25 i = nI v := by rw [hF.2.1 25 (by decide), hK.2.1 25 (by decide)]; exact w2
    have t6 : qi.1.2.1 6 i = nI v := by rw [e1, w1]; exact w2
    have n12 : ¬ Int32.ofNat 12 ≤ nI i := nI_ge (by omega) (by decide)
    have nm : ¬ nI m ≤ nI i := nI_ge him' (by omega)
    have n9 : ¬ (0 : Int32) ≤ -9 := by decide
    rcases pi_thrown hCi (by omega) (by omega) hv with ⟨y1, y2⟩ | ⟨x', r', y1, y2, y3, y4⟩
    · left
      refine ⟨(nI i, r7), (nI i, qi), fun f hf => ?_, fun f hf => ?_, rfl, hI⟩
      · obtain ⟨z, rfl⟩ : ∃ z, f = z + 1 + 1 := ⟨f - 2, by omega⟩
        rw [pp_it_s]
        simp only [t26]
        rw [if_neg nm, if_neg n9, pp_ix_n (by omega) (by decide), pu_c (by omega), t25, y1, pp_ob_s, if_pos rfl, pp_it_s]
        simp only [t26]
        by_cases hlast : nI m ≤ nI i + 1
        · rw [if_pos hlast, g7, pp_ob_s]
        · rw [if_neg hlast, if_pos (pu_le0.mpr (pu_neg (by omega))), g7, pp_ob_s]
      · obtain ⟨z, rfl⟩ : ∃ z, f = z + 1 := ⟨f - 1, by omega⟩
        rw [pp_it_s]
        simp only [t7]
        rw [if_neg nm, if_neg n12, pp_ix_n (by omega) (by decide), pu_c (by omega), t6, y2, pp_ob_s, if_pos rfl]
    · right
      refine ⟨him', (r', (-9 : Int32), nI (i + 1)), (cc_pC qi 1 x', nI (i + 1)), fun f => ?_, fun f => ?_, _, _, rfl, rfl, y3, hF.tr y4, e1, e2, e3, e4⟩
      · rw [pp_it_s]
        simp only [t26]
        rw [if_neg nm, if_neg n9, pp_ix_n (by omega) (by decide), pu_c (by omega), t25, y1, pp_ob_s, if_neg pu_10, pu_i1]
      · rw [pp_it_s]
        simp only [t7]
        rw [if_neg nm, if_neg n12, pp_ix_n (by omega) (by decide), pu_c (by omega), t6, y2, pp_ob_s, if_neg pu_10, pu_i1]
theorem st_ends : lw_S0 II C_ends R_ends := by
  intro j q r hj h
  simp only [C_ends, R_ends, C_playRowInMind, pp_lj]
  obtain ⟨x1, g1, hL⟩ := pk_like (cc_gC q 1) (cc_gC q 0)
  obtain ⟨r1, g2, hK⟩ := pr_keep r (v := 1) (w := 65) (Or.inr ⟨rfl, rfl⟩)
  have hC : CW 9999 (40 * j) (cc_gC q 0) r := h.1
  obtain ⟨hC1, -⟩ := hC.keep hK
  rw [g1, pp_ob_s, g2, pp_ob_s]
  obtain ⟨m, m12, o1, o2, o3⟩ := h.2.2.2.1
  refine pp_finB (E := fun b2 : Int32 × cc_S => b2.2) ?_
  refine pp_twoN (P := fun (i : Nat) (a1 : rr_S × Int32) (a2 : cc_S × Int32) => ∃ (qi : cc_S) (ri : rr_S), a1 = (ri, nI i) ∧ a2 = (qi, nI i) ∧ CW (9999 + i) (40 * j + i) (qi.2.2.1 1) ri ∧ FR r1 ri ∧ qi.1 = q.1 ∧ qi.2.1 = q.2.1 ∧ qi.2.2.1 0 = q.2.2.1 0 ∧ qi.2.2.1 2 = q.2.2.1 2) (Q := fun (b1 : Int32 × rr_S) (b2 : Int32 × cc_S) => pp_ob (K_inBits (cc_gC b2.2 1)) (fun r3 => some (r3, b2.2)) = some (b1.1, b2.2) ∧ II (j + 1) b2.2 b1.2) m 1 1 ?_ 13 0 _ _ 200 200 (by omega) (by omega) ⟨_, _, rfl, rfl, hC1.like hL, FR.rf r1, rfl, rfl, rfl, rfl⟩ (by decide) (by decide)
  rintro i a1 a2 hi ⟨qi, ri, rfl, rfl, hCi, hF, e1, e2, e3, e4⟩
  obtain ⟨r7, g7, hI⟩ := h.tried hK hF.ft (qi := qi) (by rw [e1]) (by rw [e1]) (by rw [e1]) (by rw [e1]) e2 e3 e4
  have t26 : ri.1 26 = nI m := by rw [hF.1 26 (by decide) (by decide) (by decide), hK.1 26 (by decide) (by decide)]; exact o2
  have t7 : qi.1.1 7 = nI m := by rw [e1]; exact o1
  obtain ⟨bits, p1, p2⟩ := pq_bits hCi
  have p2 : pp_ob (K_inBits (cc_gC qi 1)) (fun r3 => some (r3, qi)) = some (bits, qi) := pp_ob_e p2 _
  by_cases him : i = m
  · left
    subst him
    refine ⟨(bits, r7), ((-9 : Int32), qi), fun f hf => ?_, fun f hf => ?_, p2, hI⟩
    · obtain ⟨z, rfl⟩ : ∃ z, f = z + 1 := ⟨f - 1, by omega⟩
      rw [pp_it_s]
      simp only [t26]
      rw [if_pos (nI_le (Nat.le_refl _) (by omega)), p1, pp_ob_s, g7, pp_ob_s]
    · obtain ⟨z, rfl⟩ : ∃ z, f = z + 1 := ⟨f - 1, by omega⟩
      rw [pp_it_s]
      simp only [t7]
      rw [if_pos (nI_le (Nat.le_refl _) (by omega))]
  · have him' : i < m := by omega
    obtain ⟨w1, v, hv, w2⟩ := o3 i him'
    have t25 : ri.2.1 25 i = nI v := by rw [hF.2.1 25 (by decide), hK.2.1 25 (by decide)]; exact w2
    have t6 : qi.1.2.1 6 i = nI v := by rw [e1, w1]; exact w2
    have n12 : ¬ Int32.ofNat 12 ≤ nI i := nI_ge (by omega) (by decide)
    have nm : ¬ nI m ≤ nI i := nI_ge him' (by omega)
    rcases pi_thrown hCi (by omega) (by omega) hv with ⟨y1, y2⟩ | ⟨x', r', y1, y2, y3, y4⟩
    · left
      refine ⟨(bits, r7), (nI i, qi), fun f hf => ?_, fun f hf => ?_, p2, hI⟩
      · obtain ⟨z, rfl⟩ : ∃ z, f = z + 1 := ⟨f - 1, by omega⟩
        rw [pp_it_s]
        simp only [t26]
        rw [if_neg nm, pp_ix_n (by omega) (by decide), pu_c (by omega), t25, y1, pp_ob_s, if_pos rfl, p1, pp_ob_s, g7, pp_ob_s]
      · obtain ⟨z, rfl⟩ : ∃ z, f = z + 1 := ⟨f - 1, by omega⟩
        rw [pp_it_s]
        simp only [t7]
        rw [if_neg nm, if_neg n12, pp_ix_n (by omega) (by decide), pu_c (by omega), t6, y2, pp_ob_s, if_pos rfl]
    · right
      refine ⟨him', (r', nI (i + 1)), (cc_pC qi 1 x', nI (i + 1)), fun f => ?_, fun f => ?_, _, _, rfl, rfl, y3, hF.tr y4, e1, e2, e3, e4⟩
      · rw [pp_it_s]
        simp only [t26]
        rw [if_neg nm, pp_ix_n (by omega) (by decide), pu_c (by omega), t25, y1, pp_ob_s, if_neg pu_10, pu_i1]
      · rw [pp_it_s]
        simp only [t7]
        rw [if_neg nm, if_neg n12, pp_ix_n (by omega) (by decide), pu_c (by omega), t6, y2, pp_ob_s, if_neg pu_10, pu_i1]
