/-- what a duel answers -/
noncomputable def duv (w A : Nat) (v6 : Int32) : Int64 := if v6 - v6 / 2 * 2 = 0 then lN w / lN (Nat.gcd w A) else lN A / lN (Nat.gcd w A)
section MAIN
variable {h c n s : Nat} {W0 : Nat → Nat} {v6 : Int32}
theorem du_b (hh : h < 20) (hc : c < 20) (hn : n ≤ 9) (h0 : sN W0 25 = 1) : wN (dW h c W0 n) s 4 < 2 ^ 48 ∧ 40 ^ n < 2 ^ 48 ∧ 0 < 40 ^ n := by
  have h1 := wN_le (dW h c W0 n) s
  rw [dW_sum hh hc h0] at h1
  have h2 : 40 ^ n ≤ 40 ^ 9 := Nat.pow_le_pow_right (by decide) hn
  have h3 : 40 ^ 9 < 2 ^ 48 := by decide
  have h4 : 0 < 40 ^ n := Nat.pow_pos (by decide)
  omega
theorem pp_dl_n {β : Type} {y : Int64} (h : ¬ y = 0) (a : Option β) : pp_dl y a = a := by unfold pp_dl; rw [if_neg h]
theorem pr_du12 {q9 : rr_S} {F : Nat → Nat} {A : Nat} (hF : LC (q9.2.2 23) F) (hs : (s = 0 ∧ ¬ 2 ≤ v6) ∨ (s = 1 ∧ 2 ≤ v6)) (hw : wN F s 4 < 2 ^ 48) (hA : A < 2 ^ 48) (h0 : 0 < A) : pp_it (du12 v6 q9 (lN A)) 200 ((0 : Int64), (1 : Int32)) = some (duv (wN F s 4) A v6, q9) := by
  have e5 : ∀ l, l < 5 → (5 : Int32) * nI l = nI (5 * l) := by decide +kernel
  obtain ⟨v, e, rfl⟩ := pp_one (F := du12 v6 q9 (lN A)) (P := fun (i : Nat) (a : Int64 × Int32) => a = (lN (wN F s i), nI (i + 1))) (Q := fun v => v = (duv (wN F s 4) A v6, q9)) 4 (by
    rintro i a hi rfl
    by_cases hi4 : i = 4
    · left
      subst hi4
      refine ⟨_, fun self => ?_, rfl⟩
      have hg : Nat.gcd (wN F s 4) A < 2 ^ 63 := Nat.lt_of_le_of_lt (Nat.gcd_le_right _ h0) (by omega)
      have hg0 : ¬ lN (Nat.gcd (wN F s 4) A) = 0 := lN_n0 hg (Nat.gcd_pos_of_pos_right _ h0)
      simp only [du12, pp_lj]
      rw [if_pos (show (5 : Int32) ≤ nI (4 + 1) by decide +kernel), (pe_div hw hA).1, pp_ob_s, pp_ob_s, pp_dl_n hg0, pp_dl_n hg0]
      unfold duv
      by_cases hp : v6 - v6 / 2 * 2 = 0
      · rw [if_pos hp, if_pos hp]
      · rw [if_neg hp, if_neg hp]
    · right
      have hi' : i < 4 := by omega
      refine ⟨hi', _, fun self => ?_, rfl⟩
      simp only [du12, pp_lj]
      rw [if_neg (by rw [pu_5']; exact nI_ge (by omega) (by decide)), e5 (i + 1) (by omega), pp_ix_n (show 5 * (i + 1) < 25 by omega) (by decide), pp_ix_n (show i + 1 < 25 by omega) (by decide), pu_c (show 5 * (i + 1) < 2 ^ 31 by omega), pu_c (show i + 1 < 2 ^ 31 by omega), hF _ (show 5 * (i + 1) < 25 by omega), hF _ (show i + 1 < 25 by omega), lN_add, lN_add, pu_i1]
      show _ = self (lN (wN F s i + F (if s = 0 then 5 * (i + 1) else i + 1)), _)
      rcases hs with ⟨rfl, h2⟩ | ⟨rfl, h2⟩
      · rw [if_neg h2, if_pos rfl]
      · rw [if_pos h2, if_neg (by decide)]) 5 0 (0, 1) 200 (by decide) (by decide) rfl (by decide)
  exact e
theorem pr_du9 {q : rr_S} (hh : h < 20) (hc : c < 20) (hn : n ≤ 9) (h0 : sN W0 25 = 1) (hs : (s = 0 ∧ ¬ 2 ≤ v6) ∨ (s = 1 ∧ 2 ≤ v6)) (hW : LC (q.2.2 23) W0) : ∃ r', pp_it (du9 (nI h) (nI c) (nI n) v6) 200 (q, (1 : Int64), (0 : Int32)) = some (duv (wN (dW h c W0 n) s 4) (40 ^ n) v6, r') ∧ r'.1 = q.1 ∧ r'.2.1 = q.2.1 := by
  obtain ⟨b1, b2, b3⟩ := du_b (s := s) hh hc hn h0
  obtain ⟨⟨v, r'⟩, e, e1, e2, e3⟩ := pp_one (F := du9 (nI h) (nI c) (nI n) v6) (P := fun (t : Nat) (a : rr_S × Int64 × Int32) => a.2 = (lN (40 ^ t), nI t) ∧ a.1.1 = q.1 ∧ a.1.2.1 = q.2.1 ∧ LC (a.1.2.2 23) (dW h c W0 t)) (Q := fun (b : Int64 × rr_S) => b.1 = duv (wN (dW h c W0 n) s 4) (40 ^ n) v6 ∧ b.2.1 = q.1 ∧ b.2.2.1 = q.2.1) n (by
    rintro t ⟨y, AA⟩ ht ⟨e, h1, h2, h3⟩
    have e : AA = (lN (40 ^ t), nI t) := e
    subst e
    have h3 : LC (y.2.2 23) (dW h c W0 t) := h3
    by_cases htn : t = n
    · left
      subst htn
      have e := pr_du12 (v6 := v6) h3 hs b1 b2 b3
      exact ⟨_, fun self => (if_pos (nI_le (Nat.le_refl _) (by omega))).trans e, rfl, h1, h2⟩
    · right
      have ht' : t < n := by omega
      have er : nI t - nI t / 2 * 2 = nI (t % 2) := by rw [pu_2', pk_rem (by omega) (by decide) (by decide)]
      have ep : lN (40 ^ t) * 40 = lN (40 ^ (t + 1)) := by rw [pd_l40, lN_mul, Nat.pow_succ]
      rcases (show t % 2 = 0 ∨ t % 2 = 1 by omega) with hp | hp
      · obtain ⟨y', g, g1, g2, g3⟩ := pr_goes (q := y) (v3 := 1) (th := 0) hh hc (Or.inl ⟨rfl, rfl⟩) h3
        refine ⟨ht', (y', lN (40 ^ (t + 1)), nI (t + 1)), fun self => ?_, rfl, g1.trans h1, g2.trans h2, ?_⟩
        · simp only [du9, pp_lj]
          rw [if_neg (nI_ge ht' (by omega)), er, hp, if_pos (show nI 0 = 0 from rfl), g, pp_ob_s, ep, pu_i1]
        · show LC (y'.2.2 23) (dmd h c (t % 2) (dW h c W0 t) 25)
          rw [hp]; exact g3
      · obtain ⟨y', g, g1, g2, g3⟩ := pr_goes (q := y) (v3 := 0) (th := 1) hh hc (Or.inr ⟨rfl, rfl⟩) h3
        refine ⟨ht', (y', lN (40 ^ (t + 1)), nI (t + 1)), fun self => ?_, rfl, g1.trans h1, g2.trans h2, ?_⟩
        · simp only [du9, pp_lj]
          rw [if_neg (nI_ge ht' (by omega)), er, hp, if_neg (show ¬ nI 1 = 0 by decide +kernel), g, pp_ob_s, ep, pu_i1]
        · show LC (y'.2.2 23) (dmd h c (t % 2) (dW h c W0 t) 25)
          rw [hp]; exact g3) (n + 1) 0 (q, (1 : Int64), (0 : Int32)) 200 (by omega) (by omega) ⟨rfl, rfl, rfl, hW⟩ (by omega)
  have e1 : v = duv (wN (dW h c W0 n) s 4) (40 ^ n) v6 := e1
  subst e1
  exact ⟨r', e, e2, e3⟩
theorem pr_duM {q : rr_S} {a b : Nat} (ha : a < 5) (hb : b < 5) (hh : h < 20) (hc : c < 20) (hn : n ≤ 9) (hs : (s = 0 ∧ ¬ 2 ≤ v6) ∨ (s = 1 ∧ 2 ≤ v6)) : ∃ r', pp_it (du6 (nI a) (nI b) (nI h) (nI c) (nI n) v6) 200 (q, (0 : Int32)) = some (duv (wN (dW h c (addN (fun _ => 0) (5 * a + b) 1) n) s 4) (40 ^ n) v6, r') ∧ r'.1 = q.1 ∧ r'.2.1 = q.2.1 := by
  have e5 : ∀ a, a < 5 → ∀ b, b < 5 → (5 : Int32) * nI a + nI b = nI (5 * a + b) := by decide +kernel
  have h0 : sN (addN (fun _ => 0) (5 * a + b) 1) 25 = 1 := by rw [sN_add, sN_zero, if_pos (by omega)]
  obtain ⟨⟨v, r'⟩, e, e1, e2, e3⟩ := pp_one (F := du6 (nI a) (nI b) (nI h) (nI c) (nI n) v6) (P := fun (i : Nat) (z : rr_S × Int32) => z.2 = nI i ∧ z.1.1 = q.1 ∧ z.1.2.1 = q.2.1 ∧ ∀ k, k < i → z.1.2.2 23 k = lN (addN (fun _ => 0) (5 * a + b) 1 k)) (Q := fun (o : Int64 × rr_S) => o.1 = duv (wN (dW h c (addN (fun _ => 0) (5 * a + b) 1) n) s 4) (40 ^ n) v6 ∧ o.2.1 = q.1 ∧ o.2.2.1 = q.2.1) 25 (by
    rintro i ⟨y, ii⟩ hi ⟨e, h1, h2, h3⟩
    have e : ii = nI i := e
    subst e
    by_cases h25 : i = 25
    · left
      subst h25
      obtain ⟨r', g, g1, g2⟩ := pr_du9 (q := y) hh hc hn h0 hs h3
      exact ⟨_, fun self => (if_pos (show (25 : Int32) ≤ nI 25 by decide +kernel)).trans g, rfl, g1.trans h1, g2.trans h2⟩
    · right
      have hi' : i < 25 := by omega
      have hW : ∀ v : Int64, v = lN (addN (fun _ => 0) (5 * a + b) 1 i) → ∀ k, k < i + 1 → vp_updL (y.2.2 23) i v k = lN (addN (fun _ => 0) (5 * a + b) 1 k) := fun v hv k hk => by
        by_cases hki : k = i
        · subst hki; rw [pk_uLs, hv]
        · rw [pk_uLn hki]; exact h3 k (by omega)
      have n25 : ¬ (25 : Int32) ≤ nI i := by rw [pu_25']; exact nI_ge hi' (by decide)
      by_cases hie : i = 5 * a + b
      · refine ⟨hi', (rr_L y 23 i 1, nI (i + 1)), fun self => ?_, rfl, h1, h2, hW 1 ?_⟩
        · simp only [du6, pp_lj]
          rw [if_neg n25, e5 a ha b hb, if_pos (by rw [hie]), pp_ix_n hi' (by decide), pu_c (by omega), pu_i1]
        · unfold addN; rw [if_pos hie]; rfl
      · refine ⟨hi', (rr_L y 23 i 0, nI (i + 1)), fun self => ?_, rfl, h1, h2, hW 0 ?_⟩
        · simp only [du6, pp_lj]
          rw [if_neg n25, e5 a ha b hb, if_neg (pu_ne (by omega) (by omega) hie), pp_ix_n hi' (by decide), pu_c (by omega), pu_i1]
        · unfold addN; rw [if_neg hie]; rfl) 26 0 (q, (0 : Int32)) 200 (by decide) (by decide) ⟨pu_0, rfl, rfl, fun k hk => absurd hk (Nat.not_lt_zero k)⟩ (by decide)
  have e1 : v = duv (wN (dW h c (addN (fun _ => 0) (5 * a + b) 1) n) s 4) (40 ^ n) v6 := e1
  subst e1
  exact ⟨r', e, e2, e3⟩
/-- the landed duel's turns -/
theorem pd_duM {q : cc_S} {x0 : rr_S} (hh : h < 20) (hc : c < 20) (hn : n ≤ 9) (h0 : sN W0 25 = 1) (hs2 : s < 2) (hv6 : v6 / 2 = nI s) (d0 : DI h c 0 1 W0 x0) : ∃ x', pp_it (fun (self53 : cc_S × Int32 → Option (Int64 × cc_S)) (a53 : cc_S × Int32) => (if nI n ≤ a53.2 then pp_ob (D_waysWonBy (cc_gD a53.1) (v6 / (2 : Int32))) (fun r56 => pp_ob (C_commonDivisor r56 ((cc_gD a53.1).2.2 5 0)) (fun r60 => (if (0 : Int32) ≤ (lg_cmp r60 (1 : Int64)) then (if (v6 - (v6 / (2 : Int32)) * (2 : Int32)) = (0 : Int32) then pp_dl r60 (some ((r56 / r60), a53.1)) else pp_dl r60 (some ((((cc_gD a53.1).2.2 5 0) / r60), a53.1))) else (if (v6 - (v6 / (2 : Int32)) * (2 : Int32)) = (0 : Int32) then pp_dl 1 (some ((r56 / 1), a53.1)) else pp_dl 1 (some ((((cc_gD a53.1).2.2 5 0) / 1), a53.1)))))) else pp_ob (D_throwNext (cc_gD a53.1)) (fun r77 => self53 (cc_pD a53.1 r77, a53.2 + 1)))) 200 (cc_pD q x0, (0 : Int32)) = some (duv (wN (dW h c W0 n) s 4) (40 ^ n) v6, cc_pD q x') := by
  obtain ⟨b1, b2, b3⟩ := du_b (s := s) hh hc hn h0
  obtain ⟨⟨v, q'⟩, e, e1, x', e2⟩ := pp_one (F := fun (self53 : cc_S × Int32 → Option (Int64 × cc_S)) (a53 : cc_S × Int32) => (if nI n ≤ a53.2 then pp_ob (D_waysWonBy (cc_gD a53.1) (v6 / (2 : Int32))) (fun r56 => pp_ob (C_commonDivisor r56 ((cc_gD a53.1).2.2 5 0)) (fun r60 => (if (0 : Int32) ≤ (lg_cmp r60 (1 : Int64)) then (if (v6 - (v6 / (2 : Int32)) * (2 : Int32)) = (0 : Int32) then pp_dl r60 (some ((r56 / r60), a53.1)) else pp_dl r60 (some ((((cc_gD a53.1).2.2 5 0) / r60), a53.1))) else (if (v6 - (v6 / (2 : Int32)) * (2 : Int32)) = (0 : Int32) then pp_dl 1 (some ((r56 / 1), a53.1)) else pp_dl 1 (some ((((cc_gD a53.1).2.2 5 0) / 1), a53.1)))))) else pp_ob (D_throwNext (cc_gD a53.1)) (fun r77 => self53 (cc_pD a53.1 r77, a53.2 + 1)))) (P := fun (t : Nat) (a : cc_S × Int32) => a.2 = nI t ∧ ∃ x, a.1 = cc_pD q x ∧ DI h c (t % 2) (40 ^ t) (dW h c W0 t) x) (Q := fun (b : Int64 × cc_S) => b.1 = duv (wN (dW h c W0 n) s 4) (40 ^ n) v6 ∧ ∃ x, b.2 = cc_pD q x) n (by
    rintro t ⟨y, tt⟩ ht ⟨e, x, hx, hd⟩
    have e : tt = nI t := e
    subst e
    have hx : y = cc_pD q x := hx
    subst hx
    have hgD : cc_gD (cc_pD q x) = x := rfl
    by_cases htn : t = n
    · left
      subst htn
      have hg : Nat.gcd (wN (dW h c W0 t) s 4) (40 ^ t) < 2 ^ 63 := Nat.lt_of_le_of_lt (Nat.gcd_le_right _ b3) (by omega)
      have hgp := Nat.gcd_pos_of_pos_right (wN (dW h c W0 t) s 4) b3
      have hg0 : ¬ lN (Nat.gcd (wN (dW h c W0 t) s 4) (40 ^ t)) = 0 := lN_n0 hg hgp
      refine ⟨(duv (wN (dW h c W0 t) s 4) (40 ^ t) v6, cc_pD q x), fun self => ?_, rfl, x, rfl⟩
      simp only [hgD]
      rw [if_pos (nI_le (Nat.le_refl _) (by omega)), hv6, pd_won hd.2.2.2.2 hs2, pp_ob_s, hd.2.2.2.1, (pe_div b1 b2).2, pp_ob_s, if_pos (lg_1 hg hgp), pp_dl_n hg0, pp_dl_n hg0, ← hv6]
      unfold duv
      by_cases hp : v6 - v6 / 2 * 2 = 0
      · rw [if_pos hp, if_pos hp]
      · rw [if_neg hp, if_neg hp]
    · right
      have ht' : t < n := by omega
      obtain ⟨x', g1, g2⟩ := pd_next hd hh hc (Nat.mod_lt t (by decide))
      refine ⟨ht', (cc_pD q x', nI (t + 1)), fun self => ?_, rfl, x', rfl, ?_⟩
      · simp only [hgD]
        rw [if_neg (nI_ge ht' (by omega)), g1, pp_ob_s, pu_i1]
        rfl
      · have z : 1 - t % 2 = (t + 1) % 2 := by omega
        rw [z] at g2
        exact g2) (n + 1) 0 (cc_pD q x0, (0 : Int32)) 200 (by omega) (by omega) ⟨pu_0, x0, rfl, d0⟩ (by omega)
  have e1 : v = duv (wN (dW h c W0 n) s 4) (40 ^ n) v6 := e1
  have e2 : q' = cc_pD q x' := e2
  subst e1
  subst e2
  exact ⟨x', e⟩
end MAIN
