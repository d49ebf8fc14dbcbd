/-! games by lot -/
theorem pu_max (z : Int32) : ∃ a, a < 2 ^ 31 ∧ z &&& 2147483647 = nI a := by
  refine ⟨(z.toBitVec &&& 2147483647#32).toNat, ?_, ?_⟩
  · rw [BitVec.toNat_and]
    exact Nat.and_lt_two_pow _ (by decide)
  · apply Int32.toBitVec_inj.mp
    show z.toBitVec &&& 2147483647#32 = BitVec.ofNat 32 _
    rw [BitVec.ofNat_toNat, BitVec.setWidth_eq]
theorem pi_draw {q : cc_S} {r : rr_S} (hs : q.1.1 9 = r.1 27) {m : Nat} (h0 : 0 < m) (hm : m < 2 ^ 31) : ∃ k z, k < m ∧ R_draw r (nI m) = some (nI k, rr_I r 27 z) ∧ C_draw q (nI m) = some (nI k, cc_mi q 9 z) := by
  obtain ⟨a, ha, ea⟩ := pu_max (r.1 27 * 1664525 + 1013904223)
  have hd : a / 256 < 2 ^ 31 := Nat.lt_of_le_of_lt (Nat.div_le_self a 256) ha
  have ev : ((r.1 27 * 1664525 + 1013904223) &&& 2147483647) / 256 - ((r.1 27 * 1664525 + 1013904223) &&& 2147483647) / 256 / nI m * nI m = nI (a / 256 % m) := by
    rw [ea, show (256 : Int32) = nI 256 from by decide +kernel, pk_div ha (by decide) (by decide), pk_rem hd h0 hm]
  have nz : ¬ nI m = 0 := nI_ne0 h0 hm
  refine ⟨a / 256 % m, r.1 27 * 1664525 + 1013904223, Nat.mod_lt _ h0, ?_, ?_⟩
  · simp only [R_draw, pp_lj, pp_dz, rr_Ie]
    rw [if_neg nz, ev]
  · simp only [C_draw, pp_lj, pp_dz]
    have e9 : (cc_mi q 9 (q.1.1 9 * 1664525 + 1013904223)).1.1 9 = r.1 27 * 1664525 + 1013904223 := by rw [hs]; exact rr_Ie
    rw [if_pos (show (1 : Int32) ≤ nI m by rw [show (1 : Int32) = nI 1 from by decide +kernel]; exact nI_le h0 hm), if_neg nz, e9, ev, hs]
/-- one throw by lot -/
theorem pi_lot {T G : Nat} {q : cc_S} {r : rr_S} (h : CW T G (q.2.2.1 1) r) (hT : T < 2 ^ 30) (hG : G < 2 ^ 29) (hs : q.1.1 9 = r.1 27) (hn : 0 < zn r) : ∃ q1 r1, R_goesLot r = some r1 ∧ C_throwByLot q = some q1 ∧ CW (T + 1) (G + 1) (q1.2.2.1 1) r1 ∧ FT r r1 ∧ q1.1.1 9 = r1.1 27 ∧ zn r1 = zn r ∧ (q1.1.1 4 = q.1.1 4 ∧ q1.1.1 7 = q.1.1 7 ∧ q1.1.2 = q.1.2 ∧ q1.2.1 = q.2.1 ∧ q1.2.2.1 0 = q.2.2.1 0 ∧ q1.2.2.1 2 = q.2.2.1 2) := by
  have hn8 := h.1.1.2
  have ft : ∀ (s : rr_S) z, FT s (rr_I s 27 z) := fun s z => ⟨fun k hk => rr_In (by omega), fun _ _ => rfl⟩
  have fc : ∀ {T' G' : Nat} {x : cc_CT} {s : rr_S} (z : Int32), CW T' G' x s → CW T' G' x (rr_I s 27 z) := fun z hx => hx.frame (fun k hk => rr_In (by omega)) (fun _ _ _ => rfl)
  obtain ⟨b, z1, hb, a1, b1⟩ := pi_draw hs (m := 6) (by decide) (by decide)
  obtain ⟨w, z2, hw, a2, b2⟩ := pi_draw (q := cc_mi q 9 z1) (r := rr_I r 27 z1) rfl (m := zn r) hn (by omega)
  obtain ⟨k, z3, hk, a3, b3⟩ := pi_draw (q := cc_mi (cc_mi q 9 z1) 9 z2) (r := rr_I (rr_I r 27 z1) 27 z2) rfl (m := 3) (by decide) (by decide)
  have h5 : CW T G (q.2.2.1 1) (rr_I (rr_I (rr_I r 27 z1) 27 z2) 27 z3) := fc _ (fc _ (fc _ h))
  have f5 : FT r (rr_I (rr_I (rr_I r 27 z1) 27 z2) 27 z3) := ((ft _ _).tr (ft _ _)).tr (ft _ _)
  have zn5 : zn (rr_I (rr_I (rr_I r 27 z1) 27 z2) 27 z3) = zn r := rfl
  have s5 : (cc_mi (cc_mi (cc_mi q 9 z1) 9 z2) 9 z3).1.1 9 = (rr_I (rr_I (rr_I r 27 z1) 27 z2) 27 z3).1 27 := rfl
  have e9 : (rr_I r 27 z1).1 9 = nI (zn r) := h.1.1.1
  have e9' : (cc_gC (cc_mi q 9 z1) 1).1.1 1 = nI (zn r) := h.2.1.trans h.1.1.1
  have p4 : (cc_mi (cc_mi (cc_mi q 9 z1) 9 z2) 9 z3).1.1 4 = q.1.1 4 := rfl
  have p7 : (cc_mi (cc_mi (cc_mi q 9 z1) 9 z2) 9 z3).1.1 7 = q.1.1 7 := rfl
  have pr : (cc_mi (cc_mi (cc_mi q 9 z1) 9 z2) 9 z3).1.2 = q.1.2 := rfl
  have p2 : (cc_mi (cc_mi (cc_mi q 9 z1) 9 z2) 9 z3).2 = q.2 := rfl
  have hh : nI k = 0 ∨ nI k = 1 ∨ nI k = 2 := by
    rcases (show k = 0 ∨ k = 1 ∨ k = 2 by omega) with rfl | rfl | rfl
    · exact Or.inl rfl
    · exact Or.inr (Or.inl rfl)
    · exact Or.inr (Or.inr rfl)
  have e6 : (6 : Int32) = nI 6 := pu_6
  have e3 : (3 : Int32) = nI 3 := by decide +kernel
  have e40 : (40 : Int32) = nI 40 := by decide +kernel
  simp only [R_goesLot, C_throwByLot, pp_lj]
  rw [e6, a1, b1, pp_ob_s, pp_ob_s, e9, e9', a2, b2, pp_ob_s, pp_ob_s, e3, a3, b3, pp_ob_s, pp_ob_s]
  generalize rr_I (rr_I (rr_I r 27 z1) 27 z2) 27 z3 = r5 at h5 f5 zn5 s5 ⊢
  generalize cc_mi (cc_mi (cc_mi q 9 z1) 9 z2) 9 z3 = q5 at s5 p4 p7 pr p2 ⊢
  have h5 : CW T G (cc_gC q5 1) r5 := by
    show CW T G (q5.2.2.1 1) r5
    rw [p2]; exact h5
  rcases pq_can h5 hb (nI w) with ⟨p, p', hp, hp', hhb, ew, o1, o2, hne, g1, g2⟩ | ⟨g1, g2⟩
  rotate_left
  · simp only [g1, g2, pp_ob_s, if_true]
    exact ⟨q5, r5, rfl, rfl, h5.mono (by omega) (by omega), f5, s5, zn5, p4, p7, pr, by rw [p2], by rw [p2], by rw [p2]⟩
  have hpw : p' = w := ((nI_eq (by omega) (by omega)).mp ew).symm
  subst hpw
  have eH : K_holderOf (cc_gC q5 1) (nI b) = some (nI p) := by
    unfold K_holderOf
    rw [pk_isBall hb, pp_ob_s, if_neg pu_10, pp_ix_n hb (by decide), pu_c (by omega), (h5.2.2.2.2.1 b hb).1, hhb]
  obtain ⟨u, u1, u2⟩ := pq_hit h5 hT hp hp' hh
  obtain ⟨c, c1, c2⟩ := pq_caught h5 hp' hh
  obtain ⟨l, z4, hl, a4, b4⟩ := pi_draw s5 (m := 40) (by decide) (by decide)
  rw [g1, g2, pp_ob_s, pp_ob_s, if_neg pu_10, if_neg pu_10, pp_ix_n hb (by decide), pu_c (show b < 2 ^ 31 by omega), hhb, eH, pp_ob_s, u1, u2, pp_ob_s, pp_ob_s, c1, c2, pp_ob_s, pp_ob_s, e40, a4, b4, pp_ob_s, pp_ob_s]
  have h7 : CW T G (cc_gC (cc_mi q5 9 z4) 1) (rr_I r5 27 z4) := fc _ h5
  have fin : ∀ v : Int32, (v = 0 ∨ v = 1 ∨ v = 2) → ∃ q1 r1, pp_ob (R_finishes (rr_I r5 27 z4) (nI b) (nI p') v) (fun r22 => some r22) = some r1 ∧ pp_ob (K_endThrow (cc_gC (cc_mi q5 9 z4) 1) (nI b) (nI p') v) (fun r23 => some (cc_pC (cc_mi q5 9 z4) 1 r23)) = some q1 ∧ CW (T + 1) (G + 1) (q1.2.2.1 1) r1 ∧ FT r r1 ∧ q1.1.1 9 = r1.1 27 ∧ zn r1 = zn r ∧ (q1.1.1 4 = q.1.1 4 ∧ q1.1.1 7 = q.1.1 7 ∧ q1.1.2 = q.1.2 ∧ q1.2.1 = q.2.1 ∧ q1.2.2.1 0 = q.2.2.1 0 ∧ q1.2.2.1 2 = q.2.2.1 2) := fun v hv => by
    obtain ⟨x1, r1, y1, y2, y3, y4, -, y6⟩ := pi_end h7 hT hG hb hhb hp hp' o1 o2 hne hv
    rw [y1, y2, pp_ob_s, pp_ob_s]
    refine ⟨_, r1, rfl, rfl, y3, (f5.tr (ft _ _)).tr y4.ft, ?_, y6.trans zn5, p4, p7, pr, ?_, ?_, ?_⟩
    · rw [y4.1 27 (by decide) (by decide) (by decide)]; rfl
    · show q5.2.1 = _
      rw [p2]
    · show q5.2.2.1 0 = _
      rw [p2]
    · show q5.2.2.1 2 = _
      rw [p2]
  by_cases k1 : u ≤ nI l
  · rw [if_pos k1, if_pos k1]
    by_cases k2 : u + c ≤ nI l
    · rw [if_pos k2, if_pos k2]; exact fin 2 (Or.inr (Or.inr rfl))
    · rw [if_neg k2, if_neg k2]; exact fin 1 (Or.inr (Or.inl rfl))
  · rw [if_neg k1, if_neg k1]; exact fin 0 (Or.inl rfl)
theorem st_lots : lw_S2 II C_lots R_lots := by
  intro j q r v1 v2 hj h
  simp only [C_lots, R_lots, R_bound, pp_lj, pp_ob_id]
  obtain ⟨q3, r3', n5, n6, -, -, hI3⟩ := pi_no h (Or.inr (Or.inr (Or.inl rfl)))
  obtain ⟨q4, r4, n7, n8, -, -, hI4⟩ := pi_no h (Or.inr (Or.inr (Or.inr (Or.inl rfl))))
  obtain ⟨q6, r6, n9, n10, -, -, hI6⟩ := pi_no h (Or.inr (Or.inr (Or.inr (Or.inr rfl))))
  have hC : CW 9999 (40 * j) (cc_gC q 0) r := h.1
  have m3 : ¬ (-3 : Int32) = 0 := by decide
  have m4 : ¬ (-4 : Int32) = 0 := by decide
  have m6 : ¬ (-6 : Int32) = 0 := by decide
  by_cases h1 : 1 ≤ v1
  rotate_left
  · rw [if_neg h1, if_neg h1, pp_ob_s, if_neg m4, if_neg m4, n7, n8]; exact ⟨_, _, _, rfl, rfl, hI4⟩
  rw [if_pos h1, if_pos h1]
  rcases pu_int v1 with hv | ⟨n, rfl, hn31⟩
  · exact absurd (Int32.lt_of_lt_of_le hv (Int32.le_trans (by decide : (0 : Int32) ≤ 1) h1)) (by exact fun h => by simp at h)
  have e30 : (30 : Int32) = nI 30 := by decide +kernel
  rw [e30]
  by_cases h30 : n ≤ 30
  rotate_left
  · rw [if_neg (fun h => h30 ((nI_leI hn31 (by decide)).mp h)), if_neg (fun h => h30 ((nI_leI hn31 (by decide)).mp h)), pp_ob_s, if_neg m6, if_neg m6, n9, n10]; exact ⟨_, _, _, rfl, rfl, hI6⟩
  rw [if_pos ((nI_leI hn31 (by decide)).mpr h30), if_pos ((nI_leI hn31 (by decide)).mpr h30), pp_ob_s, if_pos rfl, hC.2.1]
  by_cases h0 : r.1 9 = 0
  · rw [if_pos h0, if_pos h0, if_neg m3, n5, n6]; exact ⟨_, _, _, rfl, rfl, hI3⟩
  rw [if_neg h0, if_neg h0, if_pos rfl]
  have hz : 0 < zn r := by
    rcases Nat.eq_zero_or_pos (zn r) with e | e
    · exact absurd (by rw [hC.1.1.1, e]; rfl) h0
    · exact e
  obtain ⟨x1, g1, hL⟩ := pk_like (cc_gC q 1) (cc_gC q 0)
  obtain ⟨r1, g2, hK⟩ := pr_keep r (v := 1) (w := 65) (Or.inr ⟨rfl, rfl⟩)
  obtain ⟨hC1, -⟩ := hC.keep hK
  rw [g1, pp_ob_s, g2, pp_ob_s]
  refine pp_fin ?_
  refine pp_two (P := fun (i : Nat) (a1 : rr_S × Int32) (a2 : cc_S × Int32) => ∃ (ri : rr_S) (qi : cc_S), a1 = (ri, nI i) ∧ a2 = (qi, nI i) ∧ CW (9999 + i) (40 * j + i) (qi.2.2.1 1) ri ∧ FT r1 ri ∧ qi.1.1 9 = ri.1 27 ∧ zn ri = zn r ∧ (qi.1.1 4 = q.1.1 4 ∧ qi.1.1 7 = q.1.1 7 ∧ qi.1.2 = q.1.2 ∧ qi.2.1 = q.2.1 ∧ qi.2.2.1 0 = q.2.2.1 0 ∧ qi.2.2.1 2 = q.2.2.1 2)) (Q := fun (b1 : Int32 × rr_S) (b2 : Int32 × cc_S) => b1.1 = b2.1 ∧ II (j + 1) b2.2 b1.2) n ?_ (n + 1) 0 _ _ 200 200 (by omega) (by omega) ⟨rr_I r1 27 v2, cc_mi (cc_pC q 1 x1) 9 v2, rfl, rfl, ?_, ⟨fun k hk => rr_In (by omega), fun _ _ => rfl⟩, rfl, ?_, rfl, rfl, rfl, rfl, rfl, rfl⟩ (by omega) (by omega)
  rotate_left
  · exact (hC1.like hL).frame (fun k hk => rr_In (by omega)) (fun _ _ _ => rfl)
  · show ((rr_I r1 27 v2).1 9).toNatClampNeg = (r.1 9).toNatClampNeg
    rw [rr_In (by decide), hK.1 9 (by decide) (by decide)]
  rintro i a1 a2 hi ⟨ri, qi, rfl, rfl, hCi, hF, es, ez, e4, e7, e12, e2, e0, ek⟩
  by_cases hin : i = n
  · left
    subst hin
    obtain ⟨bits, p1, p2⟩ := pq_bits hCi
    have p2 : K_inBits (cc_gC qi 1) = some bits := p2
    obtain ⟨r7, g7, hI⟩ := h.tried hK hF (qi := qi) e4 e7 (by rw [e12]) (by rw [e12]) e2 e0 ek
    have hle : nI i ≤ nI i := Int32.le_refl _
    refine ⟨(bits, r7), (bits, qi), fun self => (if_pos hle).trans ?_, fun self => (if_pos hle).trans ?_, rfl, hI⟩
    · exact (pp_ob_e p1 _).trans (pp_ob_e g7 _)
    · exact pp_ob_e p2 _
  · right
    have hi' : i < n := by omega
    obtain ⟨q', r', y1, y2, y3, y4, y5, y6, y7, y8, y9, y10, y11, y12⟩ := pi_lot hCi (by omega) (by omega) es (by omega)
    refine ⟨hi', (r', nI (i + 1)), (q', nI (i + 1)), fun self => ?_, fun self => ?_, r', q', rfl, rfl, y3, hF.tr y4, y5, y6.trans ez, y7.trans e4, y8.trans e7, y9.trans e12, y10.trans e2, y11.trans e0, y12.trans ek⟩
    · rw [if_neg (nI_ge hi' hn31), y1, pp_ob_s, pu_i1]
    · rw [if_neg (nI_ge hi' hn31), y2, pp_ob_s, pu_i1]
