theorem th_ln5 (i : Nat) : th_ln i ≤ 5 := by
  unfold th_ln
  by_cases h2 : i = 2
  · rw [if_pos h2]; omega
  rw [if_neg h2]
  by_cases h3 : i = 3
  · rw [if_pos h3]; omega
  rw [if_neg h3]
  by_cases h4 : i = 4
  · rw [if_pos h4]; omega
  rw [if_neg h4]; omega
def FX (r r' : rr_S) : Prop := (∀ j, j ≠ 17 → j ≠ 18 → r'.1 j = r.1 j) ∧ (∀ j, j ≠ 13 → j ≠ 14 → j ≠ 15 → r'.2.1 j = r.2.1 j) ∧ r'.2.2 = r.2.2
theorem FX.tr {r r' r2 : rr_S} (h : FX r r') (h2 : FX r' r2) : FX r r2 := ⟨fun j a b => (h2.1 j a b).trans (h.1 j a b), fun j a b c => (h2.2.1 j a b c).trans (h.2.1 j a b c), h2.2.2.trans h.2.2⟩
theorem FX.rf {r : rr_S} : FX r r := ⟨fun _ _ _ => rfl, fun _ _ _ _ => rfl, rfl⟩
theorem FX.I18 {r : rr_S} {v : Int32} : FX r (rr_I r 18 v) := ⟨fun _ _ h => rr_In h, fun _ _ _ _ => rfl, rfl⟩
theorem FX.I17 {r : rr_S} {v : Int32} : FX r (rr_I r 17 v) := ⟨fun _ h _ => rr_In h, fun _ _ _ _ => rfl, rfl⟩
theorem FH.fx {n : Nat} {r r' : rr_S} (h : FH n r r') : FX r r' := ⟨fun j a _ => h.1 j a, h.2.1, h.2.2.1⟩
theorem FX.fs {r r' : rr_S} (h : FX r r') : FS r r' := ⟨fun k hk => h.1 k (by omega) (by omega), fun k hk => h.2.1 k (by omega) (by omega) (by omega), fun i _ => by rw [h.2.1 19 (by decide) (by decide) (by decide)]⟩
theorem SI.cong {L : Nat → Nat} {m j s e : Nat} {r r' : rr_S} (h : SI L m r j s e) (h1 : r'.2.1 13 j = r.2.1 13 j) (h2 : r'.2.1 14 j = r.2.1 14 j) (h3 : ∀ k, k < 4 → r'.2.1 15 (4 * j + k) = r.2.1 15 (4 * j + k)) : SI L m r' j s e := by
  obtain ⟨a1, a2, a3, a4, a5, a6, a7⟩ := h
  have := th_ln5 (th_sh (L s))
  exact ⟨h1.trans a1, h2.trans a2, a3, a4, a5, a6, fun k hk => (h3 k (by omega)).trans (a7 k hk)⟩
theorem SI.fh {L : Nat → Nat} {m n j s e : Nat} {r r' : rr_S} (h : SI L m r j s e) (hF : FH n r r') (hj : j < n) : SI L m r' j s e := h.cong (hF.2.2.2.1 j hj).1 (hF.2.2.2.1 j hj).2 (fun k _ => hF.2.2.2.2 (4 * j + k) (by omega))
theorem SI.le {L : Nat → Nat} {m j s e : Nat} {r : rr_S} (h : SI L m r j s e) : s + 3 ≤ e ∧ e ≤ m ∧ (th_sh (L s) = 2 ∨ th_sh (L s) = 3 ∨ th_sh (L s) = 4) := by
  obtain ⟨-, -, a3, a4, a5, -, -⟩ := h
  have h1 := (th_shc (L s)).resolve_left a3
  have h2 := th_lnc h1
  exact ⟨by omega, a5, h1⟩
noncomputable def hJ (r : rr_S) : Option (Int32 × rr_S) := pp_ob (R_passesAll (rr_I r 16 0) 1 1) (fun r13 => pp_it hF2 200 (r13, (0 : Int32)))
section HF1
variable {r : rr_S} {self : rr_S × Int32 → Option (Int32 × rr_S)}
theorem hF1_go (hgo : r.1 17 < r.1 16 ∨ r.1 18 = 0) : hF1 self (r, 1) = pp_ob (R_statement r) (fun r37 => if r37.1 = 0 then self (rr_I r37.2 18 (r37.2.1 18 + 0), r37.1) else self (rr_I r37.2 18 (r37.2.1 18 + 1), r37.1)) := by
  simp only [hF1, pp_lj]
  rw [if_neg pu_10]
  by_cases h : r.1 17 < r.1 16
  · rw [if_pos h]
  · rw [if_neg h, if_pos (hgo.resolve_left h)]
theorem hF1_bad : hF1 self (r, 0) = some (-1000 - r.1 17, rr_I r 16 0) := by
  simp only [hF1, pp_lj, if_true]
  rfl
theorem hF1_end (h1 : ¬ r.1 17 < r.1 16) (h2 : ¬ r.1 18 = 0) : hF1 self (r, 1) = hJ r := by
  simp only [hF1, pp_lj]
  rw [if_neg pu_10, if_neg h1, if_neg h2, if_neg pu_10]
  rfl
end HF1
theorem hp_parse {m : Nat} {L : Nat → Nat} {t : rr_S} (hT : TL m L t) : ∀ (D s n i : Nat) (r : rr_S), m - s ≤ D → LR m L r → r.1 17 = nI s → r.1 18 = nI n → s ≤ m → 3 * n ≤ s → (n = 0 → s = 0) → ((i = 0 ∧ n = 0) ∨ ((i = 2 ∨ i = 3 ∨ i = 4) ∧ 0 < n)) → (∃ st : Nat → Nat, st 0 = 0 ∧ st n = s ∧ ∀ j, j < n → SI L m r j (st j) (st (j + 1))) →
    (∃ r' e, (∀ f, D + 2 ≤ f → pp_it hF1 f (r, (1 : Int32)) = some (-1000 - nI e, rr_I r' 16 0)) ∧ (∀ f, D + 8 ≤ f → pp_it (uF t) f (i, nI (th_ln i), nI s) = some (nI e)) ∧ FX r r' ∧ e ≤ m) ∨
    (∃ (r' : rr_S) (n' : Nat) (st : Nat → Nat), (∀ f, D + 2 ≤ f → pp_it hF1 f (r, (1 : Int32)) = hJ r') ∧ (∀ f, D + 8 ≤ f → pp_it (uF t) f (i, nI (th_ln i), nI s) = some (-9)) ∧ FX r r' ∧ r'.1 18 = nI n' ∧ 0 < n' ∧ 3 * n' ≤ m ∧ st 0 = 0 ∧ st n' = m ∧ ∀ j, j < n' → SI L m r' j (st j) (st (j + 1))) := by
  have hm80 := hT.1
  intro D
  induction D using Nat.strongRecOn with
  | ind D ih =>
    intro s n i r hD hL h17 h18 hsm h3n hn0 hi hst
    have hi' : i = 0 ∨ i = 2 ∨ i = 3 ∨ i = 4 := by omega
    by_cases hend : s = m ∧ 0 < n
    · right
      obtain ⟨hse, hnp⟩ := hend
      subst hse
      obtain ⟨st, t1, t2, t3⟩ := hst
      have hi2 : i = 2 ∨ i = 3 ∨ i = 4 := by omega
      refine ⟨r, n, st, fun f hf => ?_, fun f hf => ?_, FX.rf, h18, hnp, h3n, t1, t2, t3⟩
      · obtain ⟨z, rfl⟩ : ∃ z, f = z + 1 := ⟨f - 1, by omega⟩
        rw [pp_it_s]
        exact hF1_end (by rw [h17, hL.2.1]; exact nI_nlt (Nat.le_refl _) (by omega)) (by rw [h18]; exact nI_ne0 hnp (by omega))
      · obtain ⟨z, rfl⟩ : ∃ z, f = z + 1 := ⟨f - 1, by omega⟩
        rw [pp_it_s]
        exact uF_end hT (by omega) hi2
    · have hgo : r.1 17 < r.1 16 ∨ r.1 18 = 0 := by
        by_cases hs : s < m
        · left; rw [h17, hL.2.1]; exact nI_lt hs (by omega)
        · right; rw [h18, show n = 0 by omega]; rfl
      rcases pr_stat hL h17 hsm h18 (by omega) with ⟨r1, e, e1, hF, e17, hB⟩ | ⟨r1, e, e1, hF, e17, hS⟩
      · left
        obtain ⟨u1, u2⟩ := uF_bad (i := i) hT hi' (by omega) hB
        refine ⟨rr_I r1 18 (r1.1 18 + 0), e, fun f hf => ?_, fun f hf => u1 f (by omega), hF.fx.tr FX.I18, u2⟩
        obtain ⟨z, rfl⟩ : ∃ z, f = z + 1 + 1 := ⟨f - 2, by omega⟩
        rw [pp_it_s, hF1_go hgo, e1, pp_ob_s, if_pos rfl, pp_it_s, hF1_bad]
        show some (-1000 - r1.1 17, _) = _
        rw [e17]
      · obtain ⟨l1, l2, l3⟩ := hS.le
        obtain ⟨st, t1, t2, t3⟩ := hst
        have k18 : r1.1 18 + 1 = nI (n + 1) := by rw [hF.1 18 (by decide), h18, pu_i1]
        have hL1 : LR m L r1 := hL.fh hF
        have hL2 : LR m L (rr_I r1 18 (r1.1 18 + 1)) := hL1
        have hst2 : ∃ st' : Nat → Nat, st' 0 = 0 ∧ st' (n + 1) = e ∧ ∀ j, j < n + 1 → SI L m (rr_I r1 18 (r1.1 18 + 1)) j (st' j) (st' (j + 1)) := by
          refine ⟨fun j => if j = n + 1 then e else st j, (if_neg (show ¬ 0 = n + 1 by omega)).trans t1, if_pos rfl, fun j hj => ?_⟩
          by_cases hjn : j = n
          · subst hjn
            show SI L m r1 j (if j = j + 1 then e else st j) (if j + 1 = j + 1 then e else st (j + 1))
            rw [if_neg (by omega), if_pos rfl, t2]; exact hS
          · show SI L m r1 j (if j = n + 1 then e else st j) (if j + 1 = n + 1 then e else st (j + 1))
            rw [if_neg (by omega), if_neg (by omega)]
            exact (t3 j (by omega)).fh hF (by omega)
        have hstep : ∀ f, D + 2 ≤ f → pp_it hF1 f (r, (1 : Int32)) = pp_it hF1 (f - 1) (rr_I r1 18 (r1.1 18 + 1), (1 : Int32)) := fun f hf => by
          obtain ⟨z, rfl⟩ : ∃ z, f = z + 1 := ⟨f - 1, by omega⟩
          rw [pp_it_s, hF1_go hgo, e1, pp_ob_s, if_neg pu_10]
          rfl
        have hustep : ∀ f, D + 8 ≤ f → pp_it (uF t) f (i, nI (th_ln i), nI s) = pp_it (uF t) (f - (e - s)) (th_sh (L s), nI (th_ln (th_sh (L s))), nI e) := fun f hf => by
          have g := uF_good hT hi' hS (f - (e - s))
          rw [show f - (e - s) + (e - s) = f by omega] at g
          exact g
        have hFX : FX r (rr_I r1 18 (r1.1 18 + 1)) := hF.fx.tr FX.I18
        rcases ih (m - e) (by omega) e (n + 1) (th_sh (L s)) (rr_I r1 18 (r1.1 18 + 1)) (Nat.le_refl _) hL2 e17 (rr_Ie.trans k18) l2 (by omega) (by omega) (Or.inr ⟨l3, by omega⟩) hst2 with ⟨r', e', g1, g2, g3, g4⟩ | ⟨r', n', st', g1, g2, g3, g4⟩
        · left
          exact ⟨r', e', fun f hf => (hstep f hf).trans (g1 _ (by omega)), fun f hf => (hustep f hf).trans (g2 _ (by omega)), hFX.tr g3, g4⟩
        · right
          exact ⟨r', n', st', fun f hf => (hstep f hf).trans (g1 _ (by omega)), fun f hf => (hustep f hf).trans (g2 _ (by omega)), hFX.tr g3, g4⟩
/-! the statements told -/
noncomputable def tF (t : rr_S) (self : cc_CT × Int32 × Int32 × Int32 → Option (Int32 × cc_CT)) (a : cc_CT × Int32 × Int32 × Int32) : Option (Int32 × cc_CT) := if (t.1 1) ≤ a.2.2.2 then some (a.2.1, a.1) else pp_ob (T_letterAt t a.2.2.2) (fun r1 => if r1 = (59 : Int32) then pp_ob (T_tellStatement t a.1 a.2.2.1) (fun r2 => if r2.1 = (0 : Int32) then some ((-2000 : Int32) - a.2.2.1, r2.2) else self (r2.2, a.2.1 + 1, a.2.2.2 + (1 : Int32), a.2.2.2 + 1)) else self (a.1, a.2.1, a.2.2.1, a.2.2.2 + 1))
theorem tF_eq (t : rr_S) (x : cc_CT) : T_tellTo t x = pp_it (tF t) 200 (x, (0 : Int32), (0 : Int32), (0 : Int32)) := rfl
section TELL
variable {m p s k : Nat} {L : Nat → Nat} {t : rr_S} {x : cc_CT} {c f0 : Int32}
theorem tF_skip (h : TL m L t) (hp : p < m) (hl : L p ≠ 59) (self : cc_CT × Int32 × Int32 × Int32 → Option (Int32 × cc_CT)) : tF t self (x, c, f0, nI p) = self (x, c, f0, nI (p + 1)) := by
  have hm := h.1
  have := (h.2.2 p hp).2
  simp only [tF]
  rw [h.2.1, if_neg (nI_ge hp (by omega)), pt_letter h hp, pp_ob_s, if_neg (show ¬ nI (L p) = 59 from pu_ne (b := 59) (by omega) (by decide) hl), pu_i1]
theorem tF_semi (h : TL m L t) (hp : p < m) (hl : L p = 59) (self : cc_CT × Int32 × Int32 × Int32 → Option (Int32 × cc_CT)) : tF t self (x, c, f0, nI p) = pp_ob (T_tellStatement t x f0) (fun r2 => if r2.1 = (0 : Int32) then some ((-2000 : Int32) - f0, r2.2) else self (r2.2, c + 1, nI (p + 1), nI (p + 1))) := by
  have hm := h.1
  simp only [tF]
  rw [h.2.1, if_neg (nI_ge hp (by omega)), pt_letter h hp, pp_ob_s, if_pos (show nI (L p) = 59 by rw [hl]; decide +kernel), pu_i1]
theorem tF_end (h : TL m L t) (self : cc_CT × Int32 × Int32 × Int32 → Option (Int32 × cc_CT)) : tF t self (x, c, f0, nI m) = some (c, x) := by
  simp only [tF]
  rw [h.2.1, if_pos (Int32.le_refl _)]
theorem tF_run (h : TL m L t) : ∀ k s, s + k ≤ m → (∀ q, q < k → L (s + q) ≠ 59) → ∀ f, pp_it (tF t) (f + k) (x, c, f0, nI s) = pp_it (tF t) f (x, c, f0, nI (s + k)) := by
  intro k
  induction k with
  | zero => intro s _ _ f; rfl
  | succ k ih =>
    intro s hs hq f
    have e : f + (k + 1) = f + k + 1 := by omega
    have h0 : L s ≠ 59 := hq 0 (by omega)
    rw [e, pp_it_s, tF_skip h (by omega) h0, ih (s + 1) (by omega) (fun q hqk => by rw [show s + 1 + q = s + (q + 1) by omega]; exact hq (q + 1) (by omega)) f, show s + 1 + k = s + (k + 1) by omega]
/-- a whole statement -/
theorem tF_stat {j s e : Nat} {r : rr_S} (h : TL m L t) (hS : SI L m r j s e) (f : Nat) : pp_it (tF t) (f + (e - s)) (x, c, nI s, nI s) = pp_ob (T_tellStatement t x (nI s)) (fun r2 => if r2.1 = (0 : Int32) then some ((-2000 : Int32) - nI s, r2.2) else pp_it (tF t) f (r2.2, c + 1, nI e, nI e)) := by
  obtain ⟨l1, l2, l3⟩ := hS.le
  have hln := th_lnc l3
  obtain ⟨-, -, a3, a4, a5, a6, -⟩ := hS
  have hn59 : ∀ q, q < th_ln (th_sh (L s)) → L (s + q) ≠ 59 := fun q hq => by
    rcases Nat.eq_zero_or_pos q with h0 | h0
    · subst h0
      rw [Nat.add_zero]
      intro e59
      rw [e59] at a3
      exact a3 (by decide)
    · have g := a6 (q - 1) (by omega)
      have hsg : th_sg (th_sh (L s)) (q - 1) = 107 ∨ th_sg (th_sh (L s)) (q - 1) = 100 := by
        unfold th_sg
        rw [if_neg (by omega)]
        by_cases h2 : th_sh (L s) = 2 ∧ q - 1 = 1
        · rw [if_pos h2]; exact Or.inl rfl
        · rw [if_neg h2]; exact Or.inr rfl
      rw [show s + 1 + (q - 1) = s + q by omega] at g
      intro e59
      rw [e59] at g
      rcases hsg with e | e <;> rw [e] at g <;> exact absurd g (by decide)
  have h59 : L (e - 1) = 59 := by
    have g := a6 (th_ln (th_sh (L s)) - 1) (by omega)
    have hsg : th_sg (th_sh (L s)) (th_ln (th_sh (L s)) - 1) = 59 := by unfold th_sg; rw [if_pos (by omega)]
    rw [hsg, show s + 1 + (th_ln (th_sh (L s)) - 1) = e - 1 by omega] at g
    unfold th_ft at g
    rw [if_neg (by decide), if_neg (by decide)] at g
    exact of_decide_eq_true g
  have e1 : f + (e - s) = f + 1 + th_ln (th_sh (L s)) := by omega
  rw [e1, tF_run h _ s (by omega) hn59 (f + 1), pp_it_s, show s + th_ln (th_sh (L s)) = e - 1 by omega, tF_semi h (by omega) h59, show e - 1 + 1 = e by omega]
end TELL
theorem hp_tell {m n' G : Nat} {L : Nat → Nat} {t r1 : rr_S} {st : Nat → Nat} (hT : TL m L t) (hn : n' < 40) (hG : G < 2 ^ 29) (h18 : r1.1 18 = nI n') (hst : st n' = m) (hS : ∀ j, j < n' → SI L m r1 j (st j) (st (j + 1))) : ∀ (d j : Nat), j + d = n' → ∀ (x : cc_CT) (r : rr_S) (fR fC : Nat), d + 1 ≤ fR → m - st j + 1 ≤ fC → CW 9999 (G + j) x r → FR r1 r →
    (∃ k rk xk, k < n' ∧ pp_it hF2 fR (r, nI j) = pp_ob (R_passesAll rk 1 0) (fun r23 => pp_ix (nI k) 40 (some ((-2000 : Int32) - r23.2.1 14 (Int32.toNatClampNeg (nI k)), r23))) ∧ pp_it (tF t) fC (x, nI j, nI (st j), nI (st j)) = some ((-2000 : Int32) - nI (st k), xk) ∧ FR r1 rk) ∨
    (∃ rn xn, pp_it hF2 fR (r, nI j) = some (nI n', rn) ∧ pp_it (tF t) fC (x, nI j, nI (st j), nI (st j)) = some (nI n', xn) ∧ CW 9999 (G + n') xn rn ∧ FR r1 rn) := by
  intro d
  induction d with
  | zero =>
    intro j hj x r fR fC hR hC h hF
    have hjn : j = n' := by omega
    subst hjn
    right
    obtain ⟨z, rfl⟩ : ∃ z, fR = z + 1 := ⟨fR - 1, by omega⟩
    obtain ⟨y, rfl⟩ : ∃ y, fC = y + 1 := ⟨fC - 1, by omega⟩
    have k18 : r.1 18 = nI j := (hF.1 18 (by decide) (by decide) (by decide)).trans h18
    refine ⟨r, x, ?_, ?_, h, hF⟩
    · rw [pp_it_s]
      simp only [hF2, k18]
      rw [if_pos (Int32.le_refl _)]
    · rw [pp_it_s, hst]
      exact tF_end hT _
  | succ d ih =>
    intro j hj x r fR fC hR hC h hF
    have hjn : j < n' := by omega
    obtain ⟨z, rfl⟩ : ∃ z, fR = z + 1 := ⟨fR - 1, by omega⟩
    have k18 : r.1 18 = nI n' := (hF.1 18 (by decide) (by decide) (by decide)).trans h18
    have hSj := hS j hjn
    have hSr : SI L m r j (st j) (st (j + 1)) := hSj.cong (by rw [hF.2.1 13 (by decide)]) (by rw [hF.2.1 14 (by decide)]) (fun k _ => by rw [hF.2.1 15 (by decide)])
    obtain ⟨l1, l2, -⟩ := hSj.le
    obtain ⟨y, rfl⟩ : ∃ y, fC = y + (st (j + 1) - st j) := ⟨fC - (st (j + 1) - st j), by omega⟩
    have hle : ¬ nI n' ≤ nI j := nI_ge hjn (by omega)
    rw [pp_it_s, tF_stat hT hSj y]
    rcases pi_told h (by omega) hT (by omega) hSr with ⟨e1, e2⟩ | ⟨x', r', e1, e2, e3, e4⟩
    · left
      refine ⟨j, r, x, hjn, ?_, ?_, hF⟩
      · simp only [hF2, k18, pp_lj]
        rw [if_neg hle, e1, pp_ob_s, if_pos rfl]
      · rw [e2, pp_ob_s, if_pos rfl]
    · have g1 : hF2 (pp_it hF2 z) (r, nI j) = pp_it hF2 z (r', nI (j + 1)) := by
        simp only [hF2, k18, pp_lj]
        rw [if_neg hle, e1, pp_ob_s, if_neg pu_10, pu_i1]
      have h' : CW 9999 (G + (j + 1)) x' r' := e3
      rw [g1, e2, pp_ob_s, if_neg pu_10, pu_i1]
      exact ih (j + 1) (by omega) x' r' z y (by omega) (by omega) h' (hF.tr e4)
