theorem pk_sideAt {x : cc_CT} {s : Nat} (hs : s < 2) : K_sideAt x (nI s) = some s := by
  unfold K_sideAt
  rcases (show s = 0 ∨ s = 1 by omega) with e | e <;> rw [e]
  · rw [if_pos (by decide +kernel)]
  · rw [if_neg (by decide +kernel)]
section THROW
variable {T G : Nat} {x : cc_CT} {r : rr_S} {p q b : Nat}
/-- a throw ends -/
theorem pi_end (h : CW T G x r) (hT : T < 2 ^ 30) (hG : G < 2 ^ 29) (hb : b < 6) (hh : r.2.1 6 b = nI p) (hp : p < zn r) (hq : q < zn r) (op : zc r 5 p = 0) (oq : zc r 5 q = 0) (hne : zc r 1 p ≠ zc r 1 q) {v : Int32} (hv : v = 0 ∨ v = 1 ∨ v = 2) : ∃ x1 r1, K_endThrow x (nI b) (nI q) v = some x1 ∧ R_finishes r (nI b) (nI q) v = some r1 ∧ CW (T + 1) (G + 1) x1 r1 ∧ FR r r1 ∧ r1.1 10 = r.1 10 + 1 ∧ zn r1 = zn r := by
  have hq8 := pq_lt h hq
  have hp8 := pq_lt h hp
  have hpq : p ≠ q := fun e => hne (by rw [e])
  have sq : r.2.1 1 q = nI (zc r 1 q) := (pq_row h hq).1
  have lq : zc r 1 q ≤ 1 := (h.1.2.2.2.1 q hq).2.1
  have hl : r.2.1 1 q = 0 ∨ r.2.1 1 q = 1 := by
    rw [sq]
    rcases (show zc r 1 q = 0 ∨ zc r 1 q = 1 by omega) with e | e <;> rw [e]
    · exact Or.inl (by decide +kernel)
    · exact Or.inr (by decide +kernel)
  have h1 := h.three (b := b) (hd := -9) (l := r.2.1 1 q) (d := 0) (Or.inl ⟨rfl, hl, rfl⟩)
  have zc1 : ∀ k i, k ≤ 5 → zc (r3 r b (-9) (r.2.1 1 q) 0) k i = zc r k i := fun k i hk => by unfold zc; rw [r3_n (by omega)]
  have eH : K_holderOf x (nI b) = some (nI p) := by
    unfold K_holderOf
    rw [pk_isBall hb, pp_ob_s, if_neg pu_10, pp_ix_n hb (by decide), pu_c (by omega), (h.2.2.2.2.1 b hb).1, hh]
  simp only [K_endThrow, R_finishes, pp_lj]
  rw [eH, pp_ob_s, pq_side h hq, pp_ob_s, pk_lay hb, pp_ob_s, pp_ix_n hb (by decide), pu_c (by omega), pp_ix_n hq8 (by decide), pu_c (by omega), pr_falls hb, pp_ob_s, hh]
  have n10 : ¬ (1 : Int32) = 0 := by decide
  have n01 : ¬ (0 : Int32) = 1 := by decide
  have n20 : ¬ (2 : Int32) = 0 := by decide
  have n21 : ¬ (2 : Int32) = 1 := by decide
  rcases hv with rfl | rfl | rfl
  · obtain ⟨x2, r2, a1, a2, a3, a4, a5, a6, -, -, -⟩ := pi_out h1 (by omega) (p := q) hq (by rw [zc1 5 q (by decide)]; exact oq)
    obtain ⟨x4, r4, b1, b2, b3, b4, b5, b6, -⟩ := pi_tenth a3 hT
    simp only [if_true, if_neg n01, a1, a2, pp_ob_s, b1, b2]
    refine ⟨x4, r4, rfl, rfl, b3, (FR.three.tr a4).tr b4, by rw [b5, a6]; rfl, ?_⟩
    rw [b6]; unfold zn; rw [a5]; rfl
  · obtain ⟨x2, r2, a1, a2, a3, a4, a5, a6, a7, -, -⟩ := pi_out h1 (by omega) (p := p) hp (by rw [zc1 5 p (by decide)]; exact op)
    have zn2 : zn r2 = zn r := by unfold zn; rw [a5]; rfl
    have s2 : r2.2.1 1 q = nI (zc r 1 q) := by rw [a7 1 q (by decide) (Or.inl (by decide)), r3_n (by omega)]; exact sq
    have o2 : zc r2 5 q = 0 := by unfold zc; rw [a7 5 q (by decide) (Or.inr (fun e => hpq e.symm)), r3_n (by omega)]; exact oq
    obtain ⟨y, r3', c1, c2, c3, c4, c5, c6, c7⟩ := pi_in a3 (s := zc r 1 q) (by omega)
    have zn3 : zn r3' = zn r := by unfold zn; rw [c5]; exact zn2
    have hq3 : q < zn r3' := by rw [zn3]; exact hq
    obtain ⟨c, hc, ⟨z, d1, d2⟩, d3⟩ := pq_free c3 hq3 (c7 q o2)
    have eS2 : K_sideOf x2 (nI q) = some (nI (zc r 1 q)) := by rw [pq_side a3 (by rw [zn2]; exact hq), s2]
    have c1' : S_letFirstIn (cc_gS x2 (zc r 1 q)) = some y := c1
    simp only [if_true, if_neg n10, a1, a2, pp_ob_s, eS2, pk_sideAt (show zc r 1 q < 2 by omega), s2, c1', d3]
    unfold pp_l2
    rw [if_pos (show zc r 1 q < 2 by omega)]
    have c2' := c2 rr_S (fun r24 => pp_ob (R_holds r24 (nI q)) (fun r27 => pp_ob (R_bits r27) (fun r29 => (if (2 : Int32) ≤ r29 then pp_ob (R_goesTenth r24) (fun r15 => some r15) else pp_ob (R_isHeld r24 (nI b) (nI q)) (fun r34 => pp_ob (R_goesTenth r34) (fun r15 => some r15))))))
    rw [c2', d1, pp_ob_s, d2, pp_ob_s, pu_2']
    by_cases h2 : 2 ≤ c
    · obtain ⟨x4, r4, b1, b2, b3, b4, b5, b6, -⟩ := pi_tenth c3 hT
      rw [if_pos h2, if_pos ((nI_leI (by decide) (by omega)).mpr h2), if_pos rfl, b1, b2]
      refine ⟨x4, r4, rfl, rfl, b3, ((FR.three.tr a4).tr c4).tr b4, by rw [b5, c5, a6]; rfl, by rw [b6, zn3]⟩
    · have e3 := c3.three (b := b) (hd := nI q) (l := -9) (d := 0) (Or.inr ⟨q, 0, rfl, hq3, c7 q o2, rfl, pu_0, by decide⟩)
      obtain ⟨x4, r4, b1, b2, b3, b4, b5, b6, -⟩ := pi_tenth e3 hT
      rw [if_neg h2, if_neg (fun h => h2 ((nI_leI (by decide) (by omega)).mp h)), if_neg pu_10, pk_hold hb, pp_ob_s, pr_held hb, pp_ob_s, b1, b2]
      refine ⟨x4, r4, rfl, rfl, b3, (((FR.three.tr a4).tr c4).tr FR.three).tr b4, ?_, ?_⟩
      · rw [b5]; show r3'.1 10 + 1 = _; rw [c5, a6]; rfl
      · rw [b6]; exact zn3
  · obtain ⟨x4, r4, b1, b2, b3, b4, b5, b6, -⟩ := pi_tenth h1 hT
    simp only [if_neg n20, if_neg n21, b1, b2, pp_ob_s]
    exact ⟨x4, r4, rfl, rfl, b3.mono (Nat.le_refl _) (by omega), FR.three.tr b4, b5, b6⟩
end THROW
