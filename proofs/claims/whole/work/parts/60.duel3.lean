/-! the reference's duel (the loops' texts as wip/whole/gen_duel.py cuts them) -/
noncomputable def gd3 : (rr_S × Int32 → Option rr_S) → rr_S × Int32 → Option rr_S := (fun (self7 : rr_S × Int32 → Option rr_S) (a7 : rr_S × Int32) => (if (25 : Int32) ≤ a7.2 then some a7.1 else pp_ix a7.2 25 (pp_lj (rr_L a7.1 23 (Int32.toNatClampNeg a7.2) (a7.1.2.2 24 (Int32.toNatClampNeg a7.2)) : rr_S) (fun x13 => pp_lj (a7.2 + 1 : Int32) (fun x15 => self7 (x13, x15))))))
noncomputable def gd2 (v1 v2 v3 : Int32) : (rr_S × Int32 → Option rr_S) → rr_S × Int32 → Option rr_S := (fun (self4 : rr_S × Int32 → Option rr_S) (a4 : rr_S × Int32) => (if (25 : Int32) ≤ a4.2 then pp_it gd3 200 (a4.1, (0 : Int32)) else pp_lj (fun (a18 : rr_S) => (pp_lj (a4.2 + 1 : Int32) (fun x21 => self4 (a18, x21)) : Option rr_S)) (fun j18 => pp_lj (fun (a23 : Unit) => (pp_ix a4.2 25 (pp_lj (rr_L a4.1 24 (Int32.toNatClampNeg a4.2) ((a4.1.2.2 24 (Int32.toNatClampNeg a4.2)) + ((40 : Int64) * (a4.1.2.2 23 (Int32.toNatClampNeg a4.2)))) : rr_S) (fun x28 => j18 x28)) : Option rr_S)) (fun j23 => (if (a4.2 / (5 : Int32)) = (0 : Int32) then j23 () else (if (a4.2 - (a4.2 / (5 : Int32)) * (5 : Int32)) = (0 : Int32) then j23 () else pp_lj (fun (a35 : Int32) => (pp_ix a35 25 (pp_ix a4.2 25 (pp_lj (rr_L a4.1 24 (Int32.toNatClampNeg a35) ((a4.1.2.2 24 (Int32.toNatClampNeg a35)) + ((Int32.toInt64 v1) * (a4.1.2.2 23 (Int32.toNatClampNeg a4.2)))) : rr_S) (fun x42 => pp_lj (fun (a44 : Int32) => (pp_ix a44 25 (pp_lj (rr_L x42 24 (Int32.toNatClampNeg a44) ((x42.2.2 24 (Int32.toNatClampNeg a44)) + ((Int32.toInt64 v2) * (x42.2.2 23 (Int32.toNatClampNeg a4.2)))) : rr_S) (fun x49 => pp_lj (rr_L x49 24 (Int32.toNatClampNeg a4.2) ((x49.2.2 24 (Int32.toNatClampNeg a4.2)) + ((Int32.toInt64 (((40 : Int32) - v1) - v2)) * (x49.2.2 23 (Int32.toNatClampNeg a4.2)))) : rr_S) (fun x51 => j18 x51))) : Option rr_S)) (fun j44 => (if v3 = (0 : Int32) then j44 (a4.2 - (1 : Int32)) else j44 (a4.2 - (5 : Int32))))))) : Option rr_S)) (fun j35 => (if v3 = (0 : Int32) then j35 (a4.2 - (5 : Int32)) else j35 (a4.2 - (1 : Int32))))))))))
noncomputable def gd1 (v1 v2 v3 : Int32) : (rr_S × Int32 → Option rr_S) → rr_S × Int32 → Option rr_S := (fun (self1 : rr_S × Int32 → Option rr_S) (a1 : rr_S × Int32) => (if (25 : Int32) ≤ a1.2 then pp_it (gd2 v1 v2 v3) 200 (a1.1, (0 : Int32)) else pp_ix a1.2 25 (pp_lj (rr_L a1.1 24 (Int32.toNatClampNeg a1.2) (0 : Int64) : rr_S) (fun x63 => pp_lj (a1.2 + 1 : Int32) (fun x65 => self1 (x63, x65))))))
theorem gd_eq (q : rr_S) (v1 v2 v3 : Int32) : R_goesDuel q v1 v2 v3 = pp_it (gd1 v1 v2 v3) 200 (q, (0 : Int32)) := rfl
noncomputable def du12 (v6 : Int32) (q9 : rr_S) (A9 : Int64) : (Int64 × Int32 → Option (Int64 × rr_S)) → Int64 × Int32 → Option (Int64 × rr_S) := (fun (self12 : Int64 × Int32 → Option (Int64 × rr_S)) (a12 : Int64 × Int32) => (if (5 : Int32) ≤ a12.2 then pp_lj (fun (a15 : Int64) => (pp_ob (R_divisor a12.1 A9) (fun r18 => pp_dl r18 (some ((a15 / r18), q9))) : Option (Int64 × rr_S))) (fun j15 => (if (v6 - (v6 / (2 : Int32)) * (2 : Int32)) = (0 : Int32) then j15 a12.1 else j15 A9)) else pp_lj (fun (a26 : Int64) => (pp_lj ((a12.1 + a26) : Int64) (fun x29 => pp_lj (a12.2 + 1 : Int32) (fun x31 => self12 (x29, x31))) : Option (Int64 × rr_S))) (fun j26 => (if (2 : Int32) ≤ v6 then pp_ix a12.2 25 (j26 (q9.2.2 23 (Int32.toNatClampNeg a12.2))) else pp_ix ((5 : Int32) * a12.2) 25 (j26 (q9.2.2 23 (Int32.toNatClampNeg ((5 : Int32) * a12.2))))))))
noncomputable def du9 (v3 v4 v5 v6 : Int32) : (rr_S × Int64 × Int32 → Option (Int64 × rr_S)) → rr_S × Int64 × Int32 → Option (Int64 × rr_S) := (fun (self9 : rr_S × Int64 × Int32 → Option (Int64 × rr_S)) (a9 : rr_S × Int64 × Int32) => (if v5 ≤ a9.2.2 then pp_it (du12 v6 a9.1 a9.2.1) 200 ((0 : Int64), (1 : Int32)) else pp_lj (fun (a41 : Int32) => (pp_ob (R_goesDuel a9.1 v3 v4 a41) (fun r44 => pp_lj ((a9.2.1 * (40 : Int64)) : Int64) (fun x46 => pp_lj (a9.2.2 + 1 : Int32) (fun x48 => self9 (r44, x46, x48)))) : Option (Int64 × rr_S))) (fun j41 => (if (a9.2.2 - (a9.2.2 / (2 : Int32)) * (2 : Int32)) = (0 : Int32) then j41 (1 : Int32) else j41 (0 : Int32)))))
noncomputable def du6 (v1 v2 v3 v4 v5 v6 : Int32) : (rr_S × Int32 → Option (Int64 × rr_S)) → rr_S × Int32 → Option (Int64 × rr_S) := (fun (self6 : rr_S × Int32 → Option (Int64 × rr_S)) (a6 : rr_S × Int32) => (if (25 : Int32) ≤ a6.2 then pp_it (du9 v3 v4 v5 v6) 200 (a6.1, (1 : Int64), (0 : Int32)) else pp_lj (fun (a54 : Int64) => (pp_ix a6.2 25 (pp_lj (rr_L a6.1 23 (Int32.toNatClampNeg a6.2) a54 : rr_S) (fun x59 => pp_lj (a6.2 + 1 : Int32) (fun x61 => self6 (x59, x61)))) : Option (Int64 × rr_S))) (fun j54 => (if a6.2 = (((5 : Int32) * v1) + v2) then j54 (1 : Int64) else j54 (0 : Int64)))))
noncomputable def duD (q : rr_S) (v1 v2 v3 v4 v5 v6 : Int32) : Int32 → Option (Int64 × rr_S) := (fun (a1 : Int32) => ((if a1 = (0 : Int32) then pp_it (du6 v1 v2 v3 v4 v5 v6) 200 (q, (0 : Int32)) else pp_ob (R_lowest q a1) (fun r67 => some (r67.1, r67.2))) : Option (Int64 × rr_S)))
theorem du_eq (q : rr_S) (v1 v2 v3 v4 v5 v6 : Int32) : R_duel q v1 v2 v3 v4 v5 v6 = pp_lj (duD q v1 v2 v3 v4 v5 v6) (fun j1 => pp_lj (fun (a69 : Unit) => (j1 (-4 : Int32) : Option (Int64 × rr_S))) (fun j69 => (if v1 < (1 : Int32) then j69 () else (if v2 < (1 : Int32) then j69 () else (if v3 < (1 : Int32) then j69 () else (if v4 < (1 : Int32) then j69 () else (if (1 : Int32) ≤ v5 then pp_lj (fun (a86 : Unit) => (j1 (-6 : Int32) : Option (Int64 × rr_S))) (fun j86 => (if (4 : Int32) < v1 then j86 () else (if (4 : Int32) < v2 then j86 () else (if (19 : Int32) < v3 then j86 () else (if (19 : Int32) < v4 then j86 () else (if v5 ≤ (9 : Int32) then pp_ob (R_isIn v6 (0 : Int32) (3 : Int32)) (fun r103 => (if r103 = (0 : Int32) then j1 (-2 : Int32) else j1 (0 : Int32))) else j86 ())))))) else j69 ()))))))) := rfl
section GOES
variable {h c th : Nat} {W F : Nat → Nat}
theorem pr_gd3 {q : rr_S} (h24 : LC (q.2.2 24) F) : ∃ r', pp_it gd3 200 (q, (0 : Int32)) = some r' ∧ r'.1 = q.1 ∧ r'.2.1 = q.2.1 ∧ LC (r'.2.2 23) F := by
  refine pp_one (P := fun (i : Nat) (a : rr_S × Int32) => a.2 = nI i ∧ a.1.1 = q.1 ∧ a.1.2.1 = q.2.1 ∧ LC (a.1.2.2 24) F ∧ ∀ k, k < i → a.1.2.2 23 k = lN (F k)) (Q := fun (r' : rr_S) => r'.1 = q.1 ∧ r'.2.1 = q.2.1 ∧ LC (r'.2.2 23) F) 25 ?_ 26 0 (q, 0) 200 (by decide) (by decide) ⟨pu_0, rfl, rfl, h24, fun k hk => absurd hk (Nat.not_lt_zero k)⟩ (by decide)
  rintro i ⟨a, ii⟩ hi ⟨e, h1, h2, h3, h4⟩
  have e : ii = nI i := e
  subst e
  by_cases h25 : i = 25
  · left
    subst h25
    exact ⟨a, fun self => if_pos (show (25 : Int32) ≤ nI 25 by decide +kernel), h1, h2, h4⟩
  · right
    have hi' : i < 25 := by omega
    refine ⟨hi', (rr_L a 23 i (a.2.2 24 i), nI (i + 1)), fun self => ?_, rfl, h1, h2, ?_, fun k hk => ?_⟩
    · simp only [gd3, pp_lj]
      rw [if_neg (by rw [pu_25']; exact nI_ge hi' (by decide)), pp_ix_n hi' (by decide), pu_c (by omega), pu_i1]
    · show LC ((rr_L a 23 i (a.2.2 24 i)).2.2 24) F
      rw [rr_Ln (by decide)]; exact h3
    · show vp_updL (a.2.2 23) i (a.2.2 24 i) k = _
      by_cases hki : k = i
      · subst hki; rw [pk_uLs]; exact h3 k hi'
      · rw [pk_uLn hki]; exact h4 k (by omega)
theorem pr_gd2 {q : rr_S} {v3 : Int32} (hh : h < 20) (hc : c < 20) (hv : (v3 = 1 ∧ th = 0) ∨ (v3 = 0 ∧ th = 1)) (h23 : LC (q.2.2 23) W) (h24 : LC (q.2.2 24) (fun _ => 0)) : ∃ r', pp_it (gd2 (nI h) (nI c) v3) 200 (q, (0 : Int32)) = some r' ∧ r'.1 = q.1 ∧ r'.2.1 = q.2.1 ∧ LC (r'.2.2 23) (dmd h c th W 25) := by
  have m5 : ∀ i, i < 25 → 5 ≤ i → nI i - 5 = nI (i - 5) := by decide +kernel
  have m1 : ∀ i, i < 25 → 1 ≤ i → nI i - 1 = nI (i - 1) := by decide +kernel
  refine pp_one (P := fun (i : Nat) (a : rr_S × Int32) => a.2 = nI i ∧ a.1.1 = q.1 ∧ a.1.2.1 = q.2.1 ∧ LC (a.1.2.2 23) W ∧ LC (a.1.2.2 24) (dmd h c th W i)) (Q := fun (r' : rr_S) => r'.1 = q.1 ∧ r'.2.1 = q.2.1 ∧ LC (r'.2.2 23) (dmd h c th W 25)) 25 ?_ 26 0 (q, 0) 200 (by decide) (by decide) ⟨pu_0, rfl, rfl, h23, h24⟩ (by decide)
  rintro i ⟨a, ii⟩ hi ⟨e, h1, h2, h3, h4⟩
  have e : ii = nI i := e
  subst e
  by_cases h25 : i = 25
  · left
    subst h25
    obtain ⟨r', e, e1, e2, e3⟩ := pr_gd3 h4
    exact ⟨r', fun self => (if_pos (show (25 : Int32) ≤ nI 25 by decide +kernel)).trans e, e1.trans h1, e2.trans h2, e3⟩
  · right
    have hi' : i < 25 := by omega
    have h3 : LC (a.2.2 23) W := h3
    have h4 : LC (a.2.2 24) (dmd h c th W i) := h4
    have hw := h3 i hi'
    obtain ⟨dv, dr⟩ := pu_div5 i hi'
    rw [dv] at dr
    have n25 : ¬ (25 : Int32) ≤ nI i := by rw [pu_25']; exact nI_ge hi' (by decide)
    have keep : ∀ (y : rr_S) (k : Nat) (v : Int64), LC (y.2.2 23) W → LC ((rr_L y 24 k v).2.2 23) W := fun y k v hy => by rw [rr_Ln (by decide)]; exact hy
    by_cases h0 : i / 5 = 0 ∨ i % 5 = 0
    · have ed : dmd h c th W (i + 1) = addN (dmd h c th W i) i (40 * W i) := by
        show dst h c th W i (dmd h c th W i) = _
        unfold dst; rw [if_pos h0]
      refine ⟨hi', (rr_L a 24 i (a.2.2 24 i + lN (40 * W i)), nI (i + 1)), fun self => ?_, rfl, h1, h2, keep _ _ _ h3, ?_⟩
      · simp only [gd2, pp_lj]
        rw [if_neg n25, dv, dr, pp_ix_n hi' (by decide), pu_c (by omega), hw, pd_l40, lN_mul, pu_i1]
        by_cases z1 : nI (i / 5) = 0
        · rw [if_pos z1]
        · rw [if_neg z1]
          rcases h0 with h0 | h0
          · exact absurd (by rw [h0]; rfl) z1
          · rw [if_pos (show nI (i % 5) = 0 by rw [h0]; rfl)]
      · rw [ed]; exact h4.add hi'
    · have na : ¬ nI (i / 5) = 0 := nI_ne0 (by omega) (by omega)
      have nb : ¬ nI (i % 5) = 0 := nI_ne0 (by omega) (by omega)
      rcases hv with ⟨rfl, rfl⟩ | ⟨rfl, rfl⟩
      · have D1 := h4.add (v := h * W i) (show i - 1 < 25 by omega)
        generalize ex1 : rr_L a 24 (i - 1) (a.2.2 24 (i - 1) + lN (h * W i)) = x1 at D1
        have k1 : LC (x1.2.2 23) W := by rw [← ex1]; exact keep _ _ _ h3
        have D2 := D1.add (v := c * W i) (show i - 5 < 25 by omega)
        generalize ex2 : rr_L x1 24 (i - 5) (x1.2.2 24 (i - 5) + lN (c * W i)) = x2 at D2
        have k2 : LC (x2.2.2 23) W := by rw [← ex2]; exact keep _ _ _ k1
        have D3 := D2.add (v := (40 - h - c) * W i) hi'
        have ed : dmd h c 0 W (i + 1) = addN (addN (addN (dmd h c 0 W i) (i - 1) (h * W i)) (i - 5) (c * W i)) i ((40 - h - c) * W i) := by
          show dst h c 0 W i (dmd h c 0 W i) = _
          unfold dst; rw [if_neg h0, if_pos rfl, if_pos rfl, addN_c (addN (dmd h c 0 W i) i _), addN_c (dmd h c 0 W i) i, addN_c (addN (dmd h c 0 W i) (i - 1) _) i]
        refine ⟨hi', (rr_L x2 24 i (x2.2.2 24 i + lN ((40 - h - c) * W i)), nI (i + 1)), fun self => ?_, rfl, ?_, ?_, keep _ _ _ k2, by rw [ed]; exact D3⟩
        · simp only [gd2, pp_lj]
          rw [if_neg n25, dv, dr, if_neg na, if_neg nb, if_neg pu_10, if_neg pu_10, m1 i hi' (by omega), m5 i hi' (by omega), pp_ix_n (show i - 1 < 25 by omega) (by decide), pp_ix_n hi' (by decide), pp_ix_n (show i - 5 < 25 by omega) (by decide), pu_c (show i < 2 ^ 31 by omega), pu_c (show i - 1 < 2 ^ 31 by omega), pu_c (show i - 5 < 2 ^ 31 by omega), hw, nI_l (by omega), lN_mul, ex1, k1 i hi', nI_l (by omega), lN_mul, ex2, k2 i hi', pd_m h c hh hc, nI_l (by omega), lN_mul, pu_i1]
        · show x2.1 = q.1
          rw [← ex2, ← ex1]; exact h1
        · show x2.2.1 = q.2.1
          rw [← ex2, ← ex1]; exact h2
      · have D1 := h4.add (v := h * W i) (show i - 5 < 25 by omega)
        generalize ex1 : rr_L a 24 (i - 5) (a.2.2 24 (i - 5) + lN (h * W i)) = x1 at D1
        have k1 : LC (x1.2.2 23) W := by rw [← ex1]; exact keep _ _ _ h3
        have D2 := D1.add (v := c * W i) (show i - 1 < 25 by omega)
        generalize ex2 : rr_L x1 24 (i - 1) (x1.2.2 24 (i - 1) + lN (c * W i)) = x2 at D2
        have k2 : LC (x2.2.2 23) W := by rw [← ex2]; exact keep _ _ _ k1
        have D3 := D2.add (v := (40 - h - c) * W i) hi'
        have ed : dmd h c 1 W (i + 1) = addN (addN (addN (dmd h c 1 W i) (i - 5) (h * W i)) (i - 1) (c * W i)) i ((40 - h - c) * W i) := by
          show dst h c 1 W i (dmd h c 1 W i) = _
          unfold dst; rw [if_neg h0, if_neg (by decide), if_neg (by decide), addN_c (dmd h c 1 W i) i, addN_c (addN (dmd h c 1 W i) (i - 5) _) i]
        refine ⟨hi', (rr_L x2 24 i (x2.2.2 24 i + lN ((40 - h - c) * W i)), nI (i + 1)), fun self => ?_, rfl, ?_, ?_, keep _ _ _ k2, by rw [ed]; exact D3⟩
        · simp only [gd2, pp_lj]
          rw [if_neg n25, dv, dr, if_neg na, if_neg nb]
          simp only [if_true]
          rw [m1 i hi' (by omega), m5 i hi' (by omega), pp_ix_n (show i - 5 < 25 by omega) (by decide), pp_ix_n hi' (by decide), pp_ix_n (show i - 1 < 25 by omega) (by decide), pu_c (show i < 2 ^ 31 by omega), pu_c (show i - 1 < 2 ^ 31 by omega), pu_c (show i - 5 < 2 ^ 31 by omega), hw, nI_l (by omega), lN_mul, ex1, k1 i hi', nI_l (by omega), lN_mul, ex2, k2 i hi', pd_m h c hh hc, nI_l (by omega), lN_mul, pu_i1]
        · show x2.1 = q.1
          rw [← ex2, ← ex1]; exact h1
        · show x2.2.1 = q.2.1
          rw [← ex2, ← ex1]; exact h2
theorem pr_goes {q : rr_S} {v3 : Int32} (hh : h < 20) (hc : c < 20) (hv : (v3 = 1 ∧ th = 0) ∨ (v3 = 0 ∧ th = 1)) (h23 : LC (q.2.2 23) W) : ∃ r', R_goesDuel q (nI h) (nI c) v3 = some r' ∧ r'.1 = q.1 ∧ r'.2.1 = q.2.1 ∧ LC (r'.2.2 23) (dmd h c th W 25) := by
  rw [gd_eq]
  refine pp_one (P := fun (i : Nat) (a : rr_S × Int32) => a.2 = nI i ∧ a.1.1 = q.1 ∧ a.1.2.1 = q.2.1 ∧ LC (a.1.2.2 23) W ∧ ∀ k, k < i → a.1.2.2 24 k = lN 0) (Q := fun (r' : rr_S) => r'.1 = q.1 ∧ r'.2.1 = q.2.1 ∧ LC (r'.2.2 23) (dmd h c th W 25)) 25 ?_ 26 0 (q, 0) 200 (by decide) (by decide) ⟨pu_0, rfl, rfl, h23, fun k hk => absurd hk (Nat.not_lt_zero k)⟩ (by decide)
  rintro i ⟨a, ii⟩ hi ⟨e, h1, h2, h3, h4⟩
  have e : ii = nI i := e
  subst e
  by_cases h25 : i = 25
  · left
    subst h25
    obtain ⟨r', e, e1, e2, e3⟩ := pr_gd2 (q := a) hh hc hv h3 h4
    exact ⟨r', fun self => (if_pos (show (25 : Int32) ≤ nI 25 by decide +kernel)).trans e, e1.trans h1, e2.trans h2, e3⟩
  · right
    have hi' : i < 25 := by omega
    refine ⟨hi', (rr_L a 24 i 0, nI (i + 1)), fun self => ?_, rfl, h1, h2, ?_, fun k hk => ?_⟩
    · simp only [gd1, pp_lj]
      rw [if_neg (by rw [pu_25']; exact nI_ge hi' (by decide)), pp_ix_n hi' (by decide), pu_c (by omega), pu_i1]
    · show LC ((rr_L a 24 i 0).2.2 23) W
      rw [rr_Ln (by decide)]; exact h3
    · show vp_updL (a.2.2 24) i 0 k = _
      by_cases hki : k = i
      · subst hki; rw [pk_uLs]; rfl
      · rw [pk_uLn hki]; exact h4 k (by omega)
end GOES
