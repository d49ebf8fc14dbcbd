section TENTH
variable {T G : Nat} {x x' : cc_CT} {r r' : rr_S}
theorem CW.tick (h : CW T G x r) (hT : T < 2 ^ 30) : CW (T + 1) G (cc_ci x 7 (x.1.1 7 + 1)) (rr_I r 10 (r.1 10 + 1)) := by
  obtain ⟨⟨a1, ⟨a3, a4⟩, a5, a7, a8, a9⟩, c1, c2, c3, c4, c5⟩ := h
  have e : r.1 10 + 1 = nI (zt r + 1) := by rw [← pu_i1, ← a3]
  have ez : zt (rr_I r 10 (r.1 10 + 1)) = zt r + 1 := by
    show ((rr_I r 10 (r.1 10 + 1)).1 10).toNatClampNeg = _
    rw [rr_Ie, e]; exact pu_c (by omega)
  refine ⟨⟨a1, ⟨?_, by rw [ez]; omega⟩, a5, a7, a8, a9⟩, c1, ?_, c3, c4, c5⟩
  · rw [ez, rr_Ie]; exact e
  · show x.1.1 7 + 1 = r.1 10 + 1
    rw [c2]
theorem FR.tick {v : Int32} : FR r (rr_I r 10 v) := ⟨fun k _ h _ => rr_In h, fun _ _ => rfl, rfl⟩
theorem FR.A {k i : Nat} {v : Int32} (h1 : 1 ≤ k) (h2 : k ≤ 8) : FR r (rr_A r k i v) := ⟨fun _ _ _ _ => rfl, fun k' h => rr_An (by omega), rfl⟩
theorem pi_tenth (h : CW T G x r) (hT : T < 2 ^ 30) : ∃ x1 r1, K_letTenthGoBy x = some x1 ∧ R_goesTenth r = some r1 ∧ CW (T + 1) G x1 r1 ∧ FR r r1 ∧ r1.1 10 = r.1 10 + 1 ∧ zn r1 = zn r ∧ zg r1 = zg r := by
  have h0 := h.tick hT
  have key := pp_two (F1 := fun (self3 : cc_CT × Int32 → Option cc_CT) (a3 : cc_CT × Int32) => (if (6 : Int32) ≤ a3.2 then some a3.1 else pp_ix a3.2 6 (pp_lj (fun (a9 : cc_CT) => (pp_lj (fun (a12 : cc_CT) => (pp_lj (a3.2 + 1 : Int32) (fun x15 => self3 (a12, x15)) : Option cc_CT)) (fun j12 => (if (a9.1.2.1 6 (Int32.toNatClampNeg a3.2)) ≤ (9 : Int32) then j12 a9 else pp_ob (K_sideOf a9 (a9.1.2.1 4 (Int32.toNatClampNeg a3.2))) (fun r20 => pp_ob (K_layOn a9 a3.2 ((1 : Int32) - r20)) (fun r22 => j12 r22)))) : Option cc_CT)) (fun j9 => (if (a3.1.1.2.1 4 (Int32.toNatClampNeg a3.2)) = (-9 : Int32) then j9 a3.1 else pp_lj (cc_ca a3.1 6 (Int32.toNatClampNeg a3.2) ((a3.1.1.2.1 6 (Int32.toNatClampNeg a3.2)) + (1 : Int32)) : cc_CT) (fun x27 => j9 x27))))))
    (F2 := fun (self3 : rr_S × Int32 → Option rr_S) (a3 : rr_S × Int32) => (if (6 : Int32) ≤ a3.2 then some a3.1 else pp_ix a3.2 6 (pp_lj (fun (a9 : rr_S) => (pp_lj (a3.2 + 1 : Int32) (fun x12 => self3 (a9, x12)) : Option rr_S)) (fun j9 => (if (0 : Int32) ≤ (a3.1.2.1 6 (Int32.toNatClampNeg a3.2)) then pp_lj (rr_A a3.1 8 (Int32.toNatClampNeg a3.2) ((a3.1.2.1 8 (Int32.toNatClampNeg a3.2)) + (1 : Int32)) : rr_S) (fun x16 => (if (x16.2.1 8 (Int32.toNatClampNeg a3.2)) ≤ (9 : Int32) then j9 x16 else pp_ix (x16.2.1 6 (Int32.toNatClampNeg a3.2)) 8 (pp_ob (R_falls x16 a3.2 ((1 : Int32) - (x16.2.1 1 (Int32.toNatClampNeg (x16.2.1 6 (Int32.toNatClampNeg a3.2)))))) (fun r23 => j9 r23)))) else j9 a3.1)))))
    (P := fun i a1 a2 => ∃ x1 r1, a1 = (x1, nI i) ∧ a2 = (r1, nI i) ∧ CW (T + 1) G x1 r1 ∧ FR r r1 ∧ r1.1 = (rr_I r 10 (r.1 10 + 1)).1)
    (Q := fun x1 r1 => CW (T + 1) G x1 r1 ∧ FR r r1 ∧ r1.1 = (rr_I r 10 (r.1 10 + 1)).1) 6 ?_ 7 0 (cc_ci x 7 (x.1.1 7 + 1), 0) (rr_I r 10 (r.1 10 + 1), 0) 200 200 (by decide) (by decide) ⟨_, _, rfl, rfl, h0, FR.tick, rfl⟩ (by decide) (by decide)
  · obtain ⟨x1, r1, e1, e2, q1, q2, q3⟩ := key
    refine ⟨x1, r1, e1, e2, q1, q2, ?_, ?_, ?_⟩
    · rw [q3]; rfl
    · unfold zn; rw [q3]; rfl
    · unfold zg; rw [q3]; rfl
  · rintro i a1 a2 hi ⟨x1, r1, rfl, rfl, hC, hF, hq⟩
    by_cases h6 : i = 6
    · subst h6
      left
      refine ⟨x1, r1, fun self => ?_, fun self => ?_, hC, hF, hq⟩
      · exact if_pos (show (6 : Int32) ≤ nI 6 by decide +kernel)
      · exact if_pos (show (6 : Int32) ≤ nI 6 by decide +kernel)
    · right
      have hi6 : i < 6 := by omega
      have n6 : ¬ (6 : Int32) ≤ nI i := by rw [pu_6]; exact nI_ge hi6 (by decide)
      have e9 : (9 : Int32) = nI 9 := by decide +kernel
      obtain ⟨b1, b2, b3⟩ := hC.2.2.2.2.1 i hi6
      simp only [pp_lj, pp_ix_n hi6 (show 6 < 2 ^ 31 by decide), pu_c (show i < 2 ^ 31 by omega), if_neg n6, pu_i1]
      rcases BG.of hC hi6 with ⟨d1, d2, d3⟩ | ⟨p, n, d1, d2, d3, d4, d5, d6⟩
      · refine ⟨hi6, (x1, nI (i + 1)), (r1, nI (i + 1)), fun self => ?_, fun self => ?_, x1, r1, rfl, rfl, hC, hF, hq⟩
        · rw [b1, d1, if_pos rfl, b3, d3, if_pos (by decide)]
        · rw [d1, if_neg (by decide)]
      · have hp8 := pq_lt hC d2
        have hp9 : ¬ nI p = (-9 : Int32) := fun e => pu_neg (a := p) (by omega) (by rw [e]; decide)
        have hge : (0 : Int32) ≤ nI p := pu_le0.mpr (pu_neg (by omega))
        have u1 : (cc_ca x1 6 i (nI n + 1)).1.2.1 6 i = nI n + 1 := by rw [cc_Ap, if_pos ⟨rfl, rfl⟩]
        have u2 : (rr_A r1 8 i (nI n + 1)).2.1 8 i = nI n + 1 := by rw [rr_Ap, if_pos ⟨rfl, rfl⟩]
        have u3 : (cc_ca x1 6 i (nI n + 1)).1.2.1 4 i = nI p := by rw [cc_Ap, if_neg (by omega), b1, d1]
        have u4 : (rr_A r1 8 i (nI n + 1)).2.1 6 i = nI p := by rw [rr_Ap, if_neg (by omega), d1]
        by_cases hn : n + 1 ≤ 9
        · have hle : nI n + 1 ≤ 9 := by rw [pu_i1, e9]; exact (nI_leI (by omega) (by decide)).mpr hn
          have hCn : CW (T + 1) G (cc_ca x1 6 i (nI n + 1)) (rr_A r1 8 i (nI n + 1)) := by
            refine hC.ball (b := i) rfl rfl rfl (fun k p a c _ => by rw [rr_An (by omega)]) rfl rfl rfl (fun b' _ hne => ⟨by rw [rr_Ap, if_neg (by omega)], by rw [rr_Ap, if_neg (by omega)], by rw [rr_Ap, if_neg (by omega)], by rw [cc_Ap, if_neg (by omega)], by rw [cc_Ap, if_neg (by omega)], by rw [cc_Ap, if_neg (by omega)]⟩) ⟨?_, ?_, ?_⟩ ?_
            · rw [cc_Ap, if_neg (by omega), rr_Ap, if_neg (by omega), b1]
            · rw [cc_Ap, if_neg (by omega), rr_Ap, if_neg (by omega), b2]
            · rw [cc_Ap, if_pos ⟨rfl, rfl⟩, rr_Ap, if_pos ⟨rfl, rfl⟩]
            · rw [rr_Ap, if_neg (by omega), rr_Ap, if_neg (by omega), rr_Ap, if_pos ⟨rfl, rfl⟩]
              exact Or.inr ⟨p, n + 1, d1, d2, d3, d4, pu_i1, hn⟩
          refine ⟨hi6, (_, nI (i + 1)), (_, nI (i + 1)), fun self => ?_, fun self => ?_, _, _, rfl, rfl, hCn, hF.tr (FR.A (by decide) (by decide)), hq⟩
          · rw [b1, d1, if_neg hp9, b3, d5, u1, if_pos hle]
          · rw [d1, if_pos hge, d5, u2, if_pos hle]
        · have hle : ¬ nI n + 1 ≤ 9 := by rw [pu_i1, e9]; exact fun h => hn ((nI_leI (by omega) (by decide)).mp h)
          have hs : zc r1 1 p ≤ 1 := (hC.1.2.2.2.1 p d2).2.1
          have es : r1.2.1 1 p = nI (zc r1 1 p) := (pq_row hC d2).1
          have hl : (1 : Int32) - r1.2.1 1 p = 0 ∨ (1 : Int32) - r1.2.1 1 p = 1 := by
            rw [es]
            rcases (show zc r1 1 p = 0 ∨ zc r1 1 p = 1 by omega) with e | e <;> rw [e]
            · exact Or.inr (by decide +kernel)
            · exact Or.inl (by decide +kernel)
          have hCn : CW (T + 1) G (x3 (cc_ca x1 6 i (nI n + 1)) i (-9) (1 - r1.2.1 1 p) 0) (r3 (rr_A r1 8 i (nI n + 1)) i (-9) (1 - r1.2.1 1 p) 0) := by
            refine hC.ball (b := i) rfl rfl rfl (fun k p a c _ => by rw [r3_n (by omega), rr_An (by omega)]) rfl rfl rfl (fun b' _ hne => ⟨by rw [r3_n (by omega), rr_Ap, if_neg (by omega)], by rw [r3_n (by omega), rr_Ap, if_neg (by omega)], by rw [r3_n (by omega), rr_Ap, if_neg (by omega)], by rw [x3_n (by omega), cc_Ap, if_neg (by omega)], by rw [x3_n (by omega), cc_Ap, if_neg (by omega)], by rw [x3_n (by omega), cc_Ap, if_neg (by omega)]⟩) ⟨?_, ?_, ?_⟩ ?_
            · rw [r3_6]; unfold x3; simp only [cc_Ap]; simp
            · rw [r3_7]; unfold x3; simp only [cc_Ap]; simp
            · rw [r3_8]; unfold x3; simp only [cc_Ap]; simp
            · rw [r3_6, r3_7, r3_8]; exact Or.inl ⟨rfl, hl, rfl⟩
          refine ⟨hi6, (_, nI (i + 1)), (_, nI (i + 1)), fun self => ?_, fun self => ?_, _, _, rfl, rfl, hCn, (hF.tr (FR.A (by decide) (by decide))).tr FR.three, hq⟩
          · rw [b1, d1, if_neg hp9, b3, d5, u1, if_neg hle, u3]
            rw [show K_sideOf (cc_ca x1 6 i (nI n + 1)) (nI p) = K_sideOf x1 (nI p) from rfl, pq_side hC d2, pp_ob_s, pk_lay hi6, pp_ob_s]
          · rw [d1, if_pos hge, d5, u2, if_neg hle, u4, pp_ix_n hp8 (by decide), pu_c (by omega), rr_An (by decide), pr_falls hi6, pp_ob_s]
end TENTH
