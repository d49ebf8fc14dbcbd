section GOOUT
variable {T G : Nat} {x : cc_CT} {r : rr_S} {p : Nat}
theorem rgo_r3 {b : Nat} {h l d : Int32} : r3 (rgo r p) b h l d = rgo (r3 r b h l d) p := by
  refine Prod.ext rfl (Prod.ext (funext fun k => funext fun i => ?_) rfl)
  show (rr_A (rr_A (rr_A (rr_A (rr_I r 11 (r.1 11 + 1)) 5 p (r.1 11 + 1)) 6 b h) 7 b l) 8 b d).2.1 k i = (rr_A (rr_I (r3 r b h l d) 11 (r.1 11 + 1)) 5 p (r.1 11 + 1)).2.1 k i
  rw [rr_Ap (q := rr_I (r3 r b h l d) 11 (r.1 11 + 1))]
  by_cases h5 : k = 5 ∧ i = p
  · rw [if_pos h5, rr_Ap, if_neg (by omega), rr_Ap, if_neg (by omega), rr_Ap, if_neg (by omega), rr_Ap, if_pos h5]
  · rw [if_neg h5]
    show _ = (rr_A (rr_A (rr_A r 6 b h) 7 b l) 8 b d).2.1 k i
    rw [rr_Ap, rr_Ap, rr_Ap, rr_Ap, if_neg h5, rr_Ap, rr_Ap, rr_Ap]; rfl
theorem FR.go : FR r (rgo r p) := ⟨fun k _ _ h => rr_In h, fun k hk => by funext i; exact rgo_n (by omega), rfl⟩
theorem pi_out (h : CW T G x r) (hG : G < 2 ^ 30) (hp : p < zn r) (ho : zc r 5 p = 0) : ∃ x1 r1, K_goOut x (nI p) = some (1, x1) ∧ R_goesOut r (nI p) = some r1 ∧ CW T (G + 1) x1 r1 ∧ FR r r1 ∧ r1.1 9 = r.1 9 ∧ r1.1 10 = r.1 10 ∧ (∀ k q, k ≤ 5 → (k ≠ 5 ∨ q ≠ p) → r1.2.1 k q = r.2.1 k q) ∧ zc r1 5 p ≠ 0 ∧ (∀ b, b < 6 → r.2.1 6 b ≠ nI p → r1.2.1 6 b = r.2.1 6 b ∧ r1.2.1 7 b = r.2.1 7 b ∧ r1.2.1 8 b = r.2.1 8 b) ∧ (∀ b, b < 6 → r.2.1 6 b = nI p → r1.2.1 6 b = -9) ∧ r1.2.1 5 p = r.1 11 + 1 := by
  have hp8 := pq_lt h hp
  have es : r.2.1 1 p = nI (zc r 1 p) := (pq_row h hp).1
  have ls : zc r 1 p ≤ 1 := (h.1.2.2.2.1 p hp).2.1
  have key := pp_two (F1 := fun (self7 : cc_CT × Int32 → Option (Int32 × cc_CT)) (a7 : cc_CT × Int32) => (if (6 : Int32) ≤ a7.2 then pp_ob (K_sideAt a7.1 (r.2.1 1 p)) (fun r10 => pp_l2 r10 (pp_ob (S_letOut (cc_gS a7.1 r10) (nI p)) (fun r13 => pp_lj (cc_kS a7.1 r10 r13 : cc_CT) (fun x15 => some ((1 : Int32), x15))))) else pp_ix a7.2 6 (pp_lj (fun (a20 : cc_CT) => (pp_lj (a7.2 + 1 : Int32) (fun x23 => self7 (a20, x23)) : Option (Int32 × cc_CT))) (fun j20 => (if (a7.1.1.2.1 4 (Int32.toNatClampNeg a7.2)) = nI p then pp_ob (K_layOn a7.1 a7.2 (r.2.1 1 p)) (fun r28 => j20 r28) else j20 a7.1)))))
    (F2 := fun (self7 : rr_S × Int32 → Option rr_S) (a7 : rr_S × Int32) => (if (6 : Int32) ≤ a7.2 then some a7.1 else pp_ix a7.2 6 (pp_lj (fun (a13 : rr_S) => (pp_lj (a7.2 + 1 : Int32) (fun x16 => self7 (a13, x16)) : Option rr_S)) (fun j13 => (if (a7.1.2.1 6 (Int32.toNatClampNeg a7.2)) = nI p then pp_ob (R_falls a7.1 a7.2 (a7.1.2.1 1 (Int32.toNatClampNeg (nI p)))) (fun r21 => j13 r21) else j13 a7.1)))))
    (P := fun i a1 a2 => ∃ xb rb, a1 = (xb, nI i) ∧ a2 = (rgo rb p, nI i) ∧ CW T G xb rb ∧ FR r rb ∧ rb.1 = r.1 ∧ (∀ k q, k ≤ 5 → rb.2.1 k q = r.2.1 k q) ∧ (∀ b, b < i → rb.2.1 6 b ≠ nI p) ∧ (∀ b, b < 6 → r.2.1 6 b ≠ nI p → rb.2.1 6 b = r.2.1 6 b ∧ rb.2.1 7 b = r.2.1 7 b ∧ rb.2.1 8 b = r.2.1 8 b) ∧ (∀ b, b < 6 → (i ≤ b → rb.2.1 6 b = r.2.1 6 b) ∧ (b < i → r.2.1 6 b = nI p → rb.2.1 6 b = -9)))
    (Q := fun b1 r1 => b1.1 = 1 ∧ CW T (G + 1) b1.2 r1 ∧ FR r r1 ∧ r1.1 9 = r.1 9 ∧ r1.1 10 = r.1 10 ∧ (∀ k q, k ≤ 5 → (k ≠ 5 ∨ q ≠ p) → r1.2.1 k q = r.2.1 k q) ∧ zc r1 5 p ≠ 0 ∧ (∀ b, b < 6 → r.2.1 6 b ≠ nI p → r1.2.1 6 b = r.2.1 6 b ∧ r1.2.1 7 b = r.2.1 7 b ∧ r1.2.1 8 b = r.2.1 8 b) ∧ (∀ b, b < 6 → r.2.1 6 b = nI p → r1.2.1 6 b = -9) ∧ r1.2.1 5 p = r.1 11 + 1) 6 ?_ 7 0 (x, 0) (rgo r p, 0) 200 200 (by decide) (by decide) ⟨x, r, rfl, rfl, h, FR.rf r, rfl, fun _ _ _ => rfl, fun b hb => absurd hb (Nat.not_lt_zero b), fun _ _ _ => ⟨rfl, rfl, rfl⟩, fun b _ => ⟨fun _ => rfl, fun hb => absurd hb (Nat.not_lt_zero b)⟩⟩ (by decide) (by decide)
  · obtain ⟨⟨w, x1⟩, r1, g1, g2, rfl, q⟩ := key
    refine ⟨x1, r1, ?_, ?_, q⟩
    · unfold K_goOut
      rw [(pq_in h hp).2, if_pos ho, pp_ob_s, if_neg pu_10, pq_side h hp, pp_ob_s]
      exact g1
    · simp only [R_goesOut, pp_lj]
      rw [pp_ix_n hp8 (by decide)]
      have e : rr_A (rr_I r 11 (r.1 11 + 1)) 5 (nI p).toNatClampNeg ((rr_I r 11 (r.1 11 + 1)).1 11) = rgo r p := by rw [pu_c (by omega), rr_Ie]; rfl
      rw [e]
      exact g2
  · rintro i a1 a2 hi ⟨xb, rb, rfl, rfl, hC, hF, hq, hrow, hno, hkeep, h99⟩
    have zn1 : zn rb = zn r := by unfold zn; rw [hq]
    have zc1 : ∀ k q, k ≤ 5 → zc rb k q = zc r k q := fun k q hk => by unfold zc; rw [hrow k q hk]
    have hpb : p < zn rb := by rw [zn1]; exact hp
    have hob : zc rb 5 p = 0 := by rw [zc1 5 p (by decide)]; exact ho
    by_cases h6 : i = 6
    · subst h6
      left
      have hout := hC.out hG hpb hob hno
      have hk8 := zk_lt hC hG hpb hob
      rw [zc1 1 p (by decide)] at hout hk8
      have hw := (hC.2.2.2.2.2 (zc r 1 p) (by omega)).2.1
      have eL : S_letOut (cc_gS xb (zc r 1 p)) (nI p) = some (ygo (xb.2.1 (zc r 1 p)) p) := by
        have hw' : (xb.2.1 (zc r 1 p)).1 2 = nI (zk rb (zc r 1 p)) := hw
        simp only [S_letOut, pp_lj, rr_In (show 2 ≠ 0 by decide)]
        have e2 : (cc_gS xb (zc r 1 p)).1 2 = nI (zk rb (zc r 1 p)) := hw'
        rw [e2, pu_8, if_neg (nI_ge hk8 (by decide)), pp_ix_n hk8 (by decide)]
        unfold ygo
        have e3 : ∀ A, (rr_A (rr_I (cc_gS xb (zc r 1 p)) 0 A) 1 (Int32.toNatClampNeg (nI (zk rb (zc r 1 p)))) (nI p)).1 2 = nI (zk rb (zc r 1 p)) := fun A => hw'
        rw [hw', e3]; rfl
      have eS : K_sideAt xb (r.2.1 1 p) = some (zc r 1 p) := by
        unfold K_sideAt; rw [es]
        rcases (show zc r 1 p = 0 ∨ zc r 1 p = 1 by omega) with e | e <;> rw [e]
        · rw [if_pos (by decide +kernel)]
        · rw [if_neg (by decide +kernel)]
      refine ⟨(1, cc_kS xb (zc r 1 p) (ygo (xb.2.1 (zc r 1 p)) p)), rgo rb p, fun self => ?_, fun self => if_pos (show (6 : Int32) ≤ nI 6 by decide +kernel), rfl, hout, hF.tr FR.go, ?_, ?_, ?_, ?_, ?_, fun b hb hbe => by rw [rgo_n (Or.inl (by decide))]; exact (h99 b hb).2 hb hbe, by rw [rgo_e, hq]⟩
      · rw [if_pos (show (6 : Int32) ≤ nI 6 by decide +kernel), eS, pp_ob_s]
        unfold pp_l2
        rw [if_pos (show zc r 1 p < 2 by omega), eL]; rfl
      · show rb.1 9 = r.1 9
        rw [hq]
      · show rb.1 10 = r.1 10
        rw [hq]
      · intro k q hk hkq
        rw [rgo_n hkq, hrow k q hk]
      · rw [rgo_z hC hG]; omega
      · intro b hb hne
        rw [rgo_n (Or.inl (by decide)), rgo_n (Or.inl (by decide)), rgo_n (Or.inl (by decide))]
        exact hkeep b hb hne
    · right
      have hi6 : i < 6 := by omega
      have n6 : ¬ (6 : Int32) ≤ nI i := by rw [pu_6]; exact nI_ge hi6 (by decide)
      obtain ⟨b1, b2, b3⟩ := hC.2.2.2.2.1 i hi6
      simp only [pp_lj, pp_ix_n hi6 (show 6 < 2 ^ 31 by decide), pu_c (show i < 2 ^ 31 by omega), pu_c (show p < 2 ^ 31 by omega), if_neg n6, pu_i1]
      rw [b1, rgo_n (Or.inl (by decide)), rgo_n (Or.inl (by decide)), hrow 1 p (by decide)]
      by_cases he : rb.2.1 6 i = nI p
      · have hl : r.2.1 1 p = 0 ∨ r.2.1 1 p = 1 := by
          rw [es]
          rcases (show zc r 1 p = 0 ∨ zc r 1 p = 1 by omega) with e | e <;> rw [e]
          · exact Or.inl (by decide +kernel)
          · exact Or.inr (by decide +kernel)
        refine ⟨hi6, (x3 xb i (-9) (r.2.1 1 p) 0, nI (i + 1)), (rgo (r3 rb i (-9) (r.2.1 1 p) 0) p, nI (i + 1)), fun self => ?_, fun self => ?_, _, _, rfl, rfl, hC.three (Or.inl ⟨rfl, hl, rfl⟩), hF.tr FR.three, hq, fun k q hk => ?_, fun b hb => ?_, fun b hb hne => ?_, fun b hb => ⟨fun hib => by rw [r3_n (Or.inr (by omega))]; exact (h99 b hb).1 (by omega), fun hib hbe => ?_⟩⟩
        · rw [if_pos he, pk_lay hi6, pp_ob_s]
        · rw [if_pos he, pr_falls hi6, pp_ob_s, rgo_r3]
        · rw [r3_n (by omega)]; exact hrow k q hk
        · by_cases hbi : b = i
          · subst hbi; rw [r3_6]; exact fun e => pu_neg (a := p) (by omega) (by rw [← e]; decide)
          · rw [r3_n (Or.inr hbi)]; exact hno b (by omega)
        · have hbi : b ≠ i := fun e => by
            subst e
            have := (hkeep b hb hne).1
            rw [this] at he; exact hne he
          rw [r3_n (Or.inr hbi), r3_n (Or.inr hbi), r3_n (Or.inr hbi)]
          exact hkeep b hb hne
        · by_cases hbi : b = i
          · subst hbi; rw [r3_6]
          · rw [r3_n (Or.inr hbi)]; exact (h99 b hb).2 (by omega) hbe
      · refine ⟨hi6, (xb, nI (i + 1)), (rgo rb p, nI (i + 1)), fun self => ?_, fun self => ?_, xb, rb, rfl, rfl, hC, hF, hq, hrow, fun b hb => ?_, hkeep, fun b hb => ⟨fun hib => (h99 b hb).1 (by omega), fun hib hbe => ?_⟩⟩
        · rw [if_neg he]
        · rw [if_neg he]
        · by_cases hbi : b = i
          · subst hbi; exact he
          · exact hno b (by omega)
        · by_cases hbi : b = i
          · subst hbi; exact absurd (((h99 b hb).1 (Nat.le_refl _)).trans hbe) he
          · exact (h99 b hb).2 (by omega) hbe
end GOOUT
