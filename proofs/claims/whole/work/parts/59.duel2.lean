theorem pp_oneK {σ τ β : Type} {F : (τ → Option β) → (σ → Option β) → σ → Option β} (P : Nat → σ → Prop) (Q : τ → Prop) (n : Nat)
    (h : ∀ i a, i ≤ n → P i a → (∃ b, (∀ K self, F K self a = K b) ∧ Q b) ∨ (i < n ∧ ∃ a', (∀ K self, F K self a = self a') ∧ P (i + 1) a')) :
    ∀ (k i : Nat) (a : σ) (f : Nat), n < i + k → i ≤ n → P i a → k ≤ f → ∃ b, (∀ K, pp_it (F K) f a = K b) ∧ Q b := by
  intro k
  induction k with
  | zero => intro i a f h1 h2; omega
  | succ k ih =>
    intro i a f h1 h2 hP hf
    obtain ⟨f, rfl⟩ : ∃ z, f = z + 1 := ⟨f - 1, by omega⟩
    rcases h i a h2 hP with ⟨b, e, hQ⟩ | ⟨hi, a', e, hP'⟩
    · exact ⟨b, fun K => e K _, hQ⟩
    · obtain ⟨b, g, hQ⟩ := ih (i + 1) a' f (by omega) (by omega) hP' (by omega)
      exact ⟨b, fun K => (e K _).trans (g K), hQ⟩
theorem pu_5' : (5 : Int32) = nI 5 := by decide +kernel
theorem pu_25' : (25 : Int32) = nI 25 := by decide +kernel
/-- the landed duel between two throws -/
def DI (h c th A : Nat) (W : Nat → Nat) (x : rr_S) : Prop := x.1 2 = nI h ∧ x.1 3 = nI c ∧ x.1 4 = nI th ∧ x.2.2 5 0 = lN A ∧ LC (x.2.2 0) W
section NEXT
variable {h c th A : Nat} {W F : Nat → Nat} {x : rr_S}
theorem pd_row {a : Nat} (d : DS h c th A W (dmd h c th W (5 * a)) x) (hh : h < 20) (hc : c < 20) (ht : th < 2) (ha : a < 5) : ∃ b : rr_S × Int32, (∀ K : rr_S × Int32 → Option rr_S, pp_it (fun (self13 : rr_S × Int32 → Option rr_S) (a13 : rr_S × Int32) => (if (5 : Int32) ≤ a13.2 then K (a13.1, nI a + 1) else pp_ix (((5 : Int32) * nI a) + a13.2) 25 (pp_ob (D_throwFrom a13.1 (nI a) a13.2 (a13.1.2.2 1 (Int32.toNatClampNeg (((5 : Int32) * nI a) + a13.2)))) (fun r21 => self13 (r21, a13.2 + 1))))) 200 (x, (0 : Int32)) = K b) ∧ (b.2 = nI (a + 1) ∧ DS h c th A W (dmd h c th W (5 * (a + 1))) b.1) := by
  have e5 : ∀ a, a < 5 → ∀ b, b < 5 → (5 : Int32) * nI a + nI b = nI (5 * a + b) := by decide +kernel
  refine pp_oneK (F := fun (K : rr_S × Int32 → Option rr_S) (self13 : rr_S × Int32 → Option rr_S) (a13 : rr_S × Int32) => (if (5 : Int32) ≤ a13.2 then K (a13.1, nI a + 1) else pp_ix (((5 : Int32) * nI a) + a13.2) 25 (pp_ob (D_throwFrom a13.1 (nI a) a13.2 (a13.1.2.2 1 (Int32.toNatClampNeg (((5 : Int32) * nI a) + a13.2)))) (fun r21 => self13 (r21, a13.2 + 1)))))
    (P := fun (b : Nat) (a13 : rr_S × Int32) => a13.2 = nI b ∧ DS h c th A W (dmd h c th W (5 * a + b)) a13.1) (Q := fun (b : rr_S × Int32) => b.2 = nI (a + 1) ∧ DS h c th A W (dmd h c th W (5 * (a + 1))) b.1) 5 ?_ 6 0 (x, 0) 200 (by decide) (by decide) ⟨pu_0, d⟩ (by decide)
  rintro b ⟨y, bb⟩ hb ⟨e, hd⟩
  have e : bb = nI b := e
  subst e
  by_cases hb5 : b = 5
  · left
    subst hb5
    exact ⟨(y, nI a + 1), fun K self => if_pos (show (5 : Int32) ≤ nI 5 by decide +kernel), pu_i1, hd⟩
  · right
    have hb' : b < 5 := by omega
    obtain ⟨y', e1, e2⟩ := pd_from hd hh hc ht ha hb'
    refine ⟨hb', (y', nI (b + 1)), fun K self => ?_, rfl, e2⟩
    simp only [e5 a ha b hb', pp_ix_n (show 5 * a + b < 25 by omega) (show 25 < 2 ^ 31 by decide), pu_c (show 5 * a + b < 2 ^ 31 by omega)]
    rw [if_neg (by rw [pu_5']; exact nI_ge hb' (by decide)), e1, pp_ob_s, pu_i1]
theorem pd_fin {z : rr_S} {G : Nat → Nat} (hd : DS h c th A W G z) (ht : th < 2) : DI h c (1 - th) (A * 40) G (rr_L (rr_I z 4 (1 - z.1 4)) 5 0 (z.2.2 5 0 * 40)) := by
  obtain ⟨z1, z2, z3, z4, z5, z6⟩ := hd
  refine ⟨z1, z2, ?_, ?_, ?_⟩
  · show (1 : Int32) - z.1 4 = _
    rw [z3]
    rcases (show th = 0 ∨ th = 1 by omega) with rfl | rfl <;> decide +kernel
  · show vp_updL (z.2.2 5) 0 (z.2.2 5 0 * 40) 0 = _
    rw [pk_uLs, z4, pd_l40, lN_mul]
  · exact z6
theorem pd_cpy {y : rr_S} {f : Nat → Int64} (d : DI h c th A W x) (hf : ∀ k, k < 25 → f k = x.2.2 0 k) (y1 : y.1 = (rr_LL x 1 f).1) (y3 : ∀ k, k ≠ 0 → y.2.2 k = (rr_LL x 1 f).2.2 k) (y4 : LC (y.2.2 0) (fun _ => 0)) : DS h c th A W (dmd h c th W (5 * 0)) y := by
  obtain ⟨d1, d2, d3, d4, d5⟩ := d
  refine ⟨by rw [y1]; exact d1, by rw [y1]; exact d2, by rw [y1]; exact d3, by rw [y3 5 (by decide)]; exact d4, fun k hk => ?_, y4⟩
  rw [y3 1 (by decide)]
  show f k = _
  rw [hf k hk]
  exact d5 k hk
theorem pd_loop {y : rr_S} {M : Nat → Nat → Nat} (ht : th < 2) (hs : ∀ a z, a < 5 → DS h c th A W (M a) z → ∃ b : rr_S × Int32, (∀ K : rr_S × Int32 → Option rr_S, pp_it (fun (self13 : rr_S × Int32 → Option rr_S) (a13 : rr_S × Int32) => (if (5 : Int32) ≤ a13.2 then K (a13.1, nI a + 1) else pp_ix (((5 : Int32) * nI a) + a13.2) 25 (pp_ob (D_throwFrom a13.1 (nI a) a13.2 (a13.1.2.2 1 (Int32.toNatClampNeg (((5 : Int32) * nI a) + a13.2)))) (fun r21 => self13 (r21, a13.2 + 1))))) 200 (z, (0 : Int32)) = K b) ∧ (b.2 = nI (a + 1) ∧ DS h c th A W (M (a + 1)) b.1)) (h0 : DS h c th A W (M 0) y) : ∃ x', pp_it (fun (self5 : rr_S × Int32 → Option rr_S) (a5 : rr_S × Int32) => (if (5 : Int32) ≤ a5.2 then pp_lj (rr_I a5.1 4 ((1 : Int32) - (a5.1.1 4)) : rr_S) (fun x8 => pp_lj (rr_L x8 5 0 ((x8.2.2 5 0) * (40 : Int64)) : rr_S) (fun x10 => some x10)) else pp_it (fun (self13 : rr_S × Int32 → Option rr_S) (a13 : rr_S × Int32) => (if (5 : Int32) ≤ a13.2 then pp_lj (a5.2 + 1 : Int32) (fun x16 => self5 (a13.1, x16)) else pp_ix (((5 : Int32) * a5.2) + a13.2) 25 (pp_ob (D_throwFrom a13.1 a5.2 a13.2 (a13.1.2.2 1 (Int32.toNatClampNeg (((5 : Int32) * a5.2) + a13.2)))) (fun r21 => pp_lj (a13.2 + 1 : Int32) (fun x23 => self13 (r21, x23)))))) 200 (a5.1, (0 : Int32)))) 200 (y, (0 : Int32)) = some x' ∧ DI h c (1 - th) (A * 40) (M 5) x' := by
  refine pp_one (P := fun (a : Nat) (a5 : rr_S × Int32) => a5.2 = nI a ∧ DS h c th A W (M a) a5.1) (Q := fun (x' : rr_S) => DI h c (1 - th) (A * 40) (M 5) x') 5 ?_ 6 0 (y, 0) 200 (by decide) (by decide) ⟨pu_0, h0⟩ (by decide)
  rintro a ⟨z, aa⟩ ha ⟨e, hd⟩
  have e : aa = nI a := e
  subst e
  by_cases ha5 : a = 5
  · left
    subst ha5
    exact ⟨_, fun self => if_pos (show (5 : Int32) ≤ nI 5 by decide +kernel), pd_fin hd ht⟩
  · right
    have ha' : a < 5 := by omega
    obtain ⟨b, e1, e2, e3⟩ := hs a z ha' hd
    exact ⟨ha', b, fun self => (if_neg (by rw [pu_5']; exact nI_ge ha' (by decide))).trans (e1 self), e2, e3⟩
theorem pp_lj_eq {α β : Type} {F : α} {G : α → β} : pp_lj F G = G F := rfl
theorem pd_c25 : Int32.toNatClampNeg (Int32.ofNat 25) = 25 := by decide +kernel
theorem pd_next (d : DI h c th A W x) (hh : h < 20) (hc : c < 20) (ht : th < 2) : ∃ x', D_throwNext x = some x' ∧ DI h c (1 - th) (A * 40) (dmd h c th W (5 * 5)) x' := by
  obtain ⟨y, e, y1, y2, y3, y4⟩ := pd_clear (rr_LL x 1 (va_cpy (x.2.2 0) (x.2.2 1) (Int32.toNatClampNeg (0 : Int32)) (Int32.toNatClampNeg (0 : Int32)) (Int32.toNatClampNeg (Int32.ofNat 25))))
  have hy := pd_cpy d (f := (va_cpy (x.2.2 0) (x.2.2 1) (Int32.toNatClampNeg (0 : Int32)) (Int32.toNatClampNeg (0 : Int32)) (Int32.toNatClampNeg (Int32.ofNat 25)))) (fun k hk => by rw [pu_c0, pd_c25, pk_cpy_in (Nat.zero_le k) (by omega), Nat.zero_add, Nat.sub_zero]) y1 y3 y4
  obtain ⟨x', e1, e2⟩ := pd_loop (M := fun a => dmd h c th W (5 * a)) ht (fun a z ha hz => pd_row hz hh hc ht ha) hy
  refine ⟨x', ?_, e2⟩
  unfold D_throwNext
  rw [pp_lj_eq, e, pp_ob_s]
  exact e1
theorem pd_begin {a b : Nat} (ha : a < 5) (hb : b < 5) : ∃ x', D_begin x (nI a) (nI b) (nI h) (nI c) = some x' ∧ DI h c 0 1 (addN (fun _ => 0) (5 * a + b) 1) x' := by
  simp only [D_begin, pp_lj, pp_ob_some]
  obtain ⟨y, e, y1, y2, y3, y4⟩ := pd_clear x
  rw [e, pp_ob_s, pd_add ha hb]
  refine ⟨_, rfl, rfl, rfl, pu_0, ?_, ?_⟩
  · rw [rr_Ln (by decide)]; rfl
  · have y4' : LC ((rr_L (rr_I (rr_I (rr_I y 2 (nI h)) 3 (nI c)) 4 0) 5 0 1).2.2 0) (fun _ => 0) := y4
    exact y4'.add (v := 1) (by omega)
end NEXT
/-- who has won, in how many ways -/
def wN (F : Nat → Nat) (s : Nat) : Nat → Nat
  | 0 => 0
  | l + 1 => wN F s l + F (if s = 0 then 5 * (l + 1) else l + 1)
theorem wN_le (F : Nat → Nat) (s : Nat) : wN F s 4 ≤ sN F 25 := by
  by_cases h : s = 0
  · simp only [wN, sN, if_pos h]
    show 0 + F 5 + F 10 + F 15 + F 20 ≤ _
    omega
  · simp only [wN, sN, if_neg h]
    show 0 + F 1 + F 2 + F 3 + F 4 ≤ _
    omega
theorem pd_won {x : rr_S} {F : Nat → Nat} {s : Nat} (hF : LC (x.2.2 0) F) (hs : s < 2) : D_waysWonBy x (nI s) = some (lN (wN F s 4)) := by
  have e5 : ∀ l, l < 5 → (5 : Int32) * nI l = nI (5 * l) := by decide +kernel
  unfold D_waysWonBy
  obtain ⟨v, e, rfl⟩ := pp_one (F := fun (self1 : Int64 × Int32 → Option Int64) (a1 : Int64 × Int32) => (if (5 : Int32) ≤ a1.2 then some a1.1 else (if nI s = (0 : Int32) then pp_ix ((5 : Int32) * a1.2) 25 (self1 (a1.1 + (x.2.2 0 (Int32.toNatClampNeg ((5 : Int32) * a1.2))), a1.2 + 1)) else pp_ix a1.2 25 (self1 (a1.1 + (x.2.2 0 (Int32.toNatClampNeg a1.2)), a1.2 + 1)))))
    (P := fun (i : Nat) (a : Int64 × Int32) => a = (lN (wN F s i), nI (i + 1))) (Q := fun v => v = lN (wN F s 4)) 4 (by
      rintro i a hi rfl
      by_cases hi4 : i = 4
      · left
        subst hi4
        exact ⟨_, fun self => if_pos (show (5 : Int32) ≤ nI 5 by decide +kernel), rfl⟩
      · right
        have hi' : i < 4 := by omega
        refine ⟨hi', _, fun self => ?_, rfl⟩
        simp only [e5 (i + 1) (by omega), pp_ix_n (show 5 * (i + 1) < 25 by omega) (show 25 < 2 ^ 31 by decide), pp_ix_n (show i + 1 < 25 by omega) (show 25 < 2 ^ 31 by decide), pu_c (show 5 * (i + 1) < 2 ^ 31 by omega), pu_c (show i + 1 < 2 ^ 31 by omega), hF _ (show 5 * (i + 1) < 25 by omega), hF _ (show i + 1 < 25 by omega), lN_add, pu_i1]
        rw [if_neg (by rw [pu_5']; exact nI_ge (by omega) (by decide))]
        show _ = self (lN (wN F s i + F (if s = 0 then 5 * (i + 1) else i + 1)), _)
        by_cases h0 : s = 0
        · rw [if_pos (by rw [h0]; rfl), if_pos h0]
        · rw [if_neg (nI_ne0 (by omega) (by omega)), if_neg h0]) 5 0 (0, 1) 200 (by decide) (by decide) rfl (by decide)
  exact e
/-! the common divisor -/
theorem lg_0 {y : Nat} (hy : y < 2 ^ 63) : lg_cmp (lN y) 0 = if y = 0 then 0 else 1 := by
  unfold lg_cmp
  by_cases h : y = 0
  · subst h; rfl
  · rw [if_neg h, if_pos (show lN y > 0 from (pk_lLT (a := 0) (by decide) hy).mpr (by omega))]
theorem lN_n0 {y : Nat} (hy : y < 2 ^ 63) (h : 0 < y) : ¬ lN y = 0 := fun e => by
  have := (pk_lEQ (b := 0) hy (by decide)).mp e
  omega
theorem lg_p {y : Nat} (hy : y < 2 ^ 63) : (0 : Int32) ≤ lg_cmp (lN y) 0 := by
  rw [lg_0 hy]; split <;> decide
theorem lg_1 {y : Nat} (hy : y < 2 ^ 63) (h : 0 < y) : (0 : Int32) ≤ lg_cmp (lN y) 1 := by
  unfold lg_cmp
  by_cases h1 : lN y > 1
  · rw [if_pos h1]; decide
  · rw [if_neg h1]
    have : y = 1 := by
      have h2 : ¬ 1 < y := fun hlt => h1 ((pk_lLT (a := 1) (by decide) hy).mpr hlt)
      omega
    rw [this, if_pos (show lN 1 = 1 from rfl)]; decide
noncomputable def eR (self1 : Int64 × Int64 → Option Int64) (a1 : Int64 × Int64) : Option Int64 := (if (lg_cmp a1.2 (0 : Int64)) = (0 : Int32) then (if (0 : Int32) ≤ (lg_cmp a1.1 (0 : Int64)) then some a1.1 else some (-a1.1)) else pp_dl a1.2 (self1 (a1.2, (a1.1 - (a1.1 / a1.2) * a1.2))))
noncomputable def eC (self1 : Int64 × Int64 × Int32 → Option Int64) (a1 : Int64 × Int64 × Int32) : Option Int64 := (if (100 : Int32) ≤ a1.2.2 then some a1.1 else (if (lg_cmp a1.2.1 (0 : Int64)) = (0 : Int32) then some a1.1 else pp_dl a1.2.1 (self1 (a1.2.1, (a1.1 - (a1.1 / a1.2.1) * a1.2.1), a1.2.2 + 1))))
theorem pe_g (x y : Nat) : Nat.gcd x y = Nat.gcd y (x % y) := by rw [Nat.gcd_comm x y, Nat.gcd_rec y x, Nat.gcd_comm]
theorem pe_half {y y1 k : Nat} (h1 : 0 < y1) (hlt : y1 < y) (hk : y < 2 ^ (k + 1)) : y % y1 < 2 ^ k := by
  have h2 := Nat.mod_lt y h1
  have h3 := Nat.div_add_mod y y1
  have h4 : 0 < y / y1 := Nat.div_pos (by omega) h1
  have h5 : y1 * 1 ≤ y1 * (y / y1) := Nat.mul_le_mul_left y1 h4
  rw [Nat.pow_succ] at hk
  omega
theorem eR_e {x : Nat} (hx : x < 2 ^ 63) (self : Int64 × Int64 → Option Int64) : eR self (lN x, lN 0) = some (lN x) := by
  simp only [eR]
  rw [lg_0 (by decide), if_pos rfl, if_pos rfl, if_pos (lg_p hx)]
theorem eR_s {x y : Nat} (hx : x < 2 ^ 63) (hy : y < 2 ^ 63) (h0 : 0 < y) (self : Int64 × Int64 → Option Int64) : eR self (lN x, lN y) = self (lN y, lN (x % y)) := by
  simp only [eR, pp_dl]
  rw [lg_0 hy, if_neg (show ¬ y = 0 by omega), if_neg pu_10, if_neg (lN_n0 hy h0), pk_lRem hx h0 hy]
theorem pe_R : ∀ (k x y f : Nat), x < 2 ^ 63 → y < 2 ^ k → k ≤ 62 → 2 * k + 1 ≤ f → pp_it eR f (lN x, lN y) = some (lN (Nat.gcd x y)) := by
  intro k
  induction k with
  | zero =>
    intro x y f hx hy _ hf
    have h0 : y = 0 := by simp at hy; exact hy
    subst h0
    obtain ⟨f, rfl⟩ : ∃ z, f = z + 1 := ⟨f - 1, by omega⟩
    rw [pp_it_s, eR_e hx, Nat.gcd_zero_right]
  | succ k ih =>
    intro x y f hx hy hk hf
    have hy63 : y < 2 ^ 63 := Nat.lt_of_lt_of_le hy (Nat.pow_le_pow_right (by decide) (by omega))
    obtain ⟨f, rfl⟩ : ∃ z, f = z + 1 + 1 := ⟨f - 2, by omega⟩
    rcases Nat.eq_zero_or_pos y with h0 | h0
    · subst h0
      rw [pp_it_s, eR_e hx, Nat.gcd_zero_right]
    · have hm := Nat.mod_lt x h0
      rw [pp_it_s, eR_s hx hy63 h0, pe_g]
      rcases Nat.eq_zero_or_pos (x % y) with h1 | h1
      · rw [h1, pp_it_s, eR_e hy63, Nat.gcd_zero_right]
      · rw [pp_it_s, eR_s hy63 (by omega) h1, pe_g]
        exact ih _ _ f (by omega) (pe_half h1 hm hy) (by omega) (by omega)
theorem eC_e {x i : Nat} (hi : i < 100) (self : Int64 × Int64 × Int32 → Option Int64) : eC self (lN x, lN 0, nI i) = some (lN x) := by
  simp only [eC]
  rw [if_neg (by rw [show (100 : Int32) = nI 100 from by decide +kernel]; exact nI_ge hi (by decide)), lg_0 (by decide), if_pos rfl, if_pos rfl]
theorem eC_s {x y i : Nat} (hx : x < 2 ^ 63) (hy : y < 2 ^ 63) (h0 : 0 < y) (hi : i < 100) (self : Int64 × Int64 × Int32 → Option Int64) : eC self (lN x, lN y, nI i) = self (lN y, lN (x % y), nI (i + 1)) := by
  simp only [eC, pp_dl]
  rw [if_neg (by rw [show (100 : Int32) = nI 100 from by decide +kernel]; exact nI_ge hi (by decide)), lg_0 hy, if_neg (show ¬ y = 0 by omega), if_neg pu_10, if_neg (lN_n0 hy h0), pk_lRem hx h0 hy, pu_i1]
theorem pe_C : ∀ (k x y i f : Nat), x < 2 ^ 63 → y < 2 ^ k → k ≤ 62 → i + 2 * k + 1 ≤ 100 → 2 * k + 1 ≤ f → pp_it eC f (lN x, lN y, nI i) = some (lN (Nat.gcd x y)) := by
  intro k
  induction k with
  | zero =>
    intro x y i f hx hy _ hi hf
    have h0 : y = 0 := by simp at hy; exact hy
    subst h0
    obtain ⟨f, rfl⟩ : ∃ z, f = z + 1 := ⟨f - 1, by omega⟩
    rw [pp_it_s, eC_e (by omega), Nat.gcd_zero_right]
  | succ k ih =>
    intro x y i f hx hy hk hi hf
    have hy63 : y < 2 ^ 63 := Nat.lt_of_lt_of_le hy (Nat.pow_le_pow_right (by decide) (by omega))
    obtain ⟨f, rfl⟩ : ∃ z, f = z + 1 + 1 := ⟨f - 2, by omega⟩
    rcases Nat.eq_zero_or_pos y with h0 | h0
    · subst h0
      rw [pp_it_s, eC_e (by omega), Nat.gcd_zero_right]
    · have hm := Nat.mod_lt x h0
      rw [pp_it_s, eC_s hx hy63 h0 (by omega), pe_g]
      rcases Nat.eq_zero_or_pos (x % y) with h1 | h1
      · rw [h1, pp_it_s, eC_e (by omega), Nat.gcd_zero_right]
      · rw [pp_it_s, eC_s hy63 (by omega) h1 (by omega), pe_g]
        exact ih _ _ _ f (by omega) (pe_half h1 hm hy) (by omega) (by omega) (by omega)
theorem pe_div {x y : Nat} (hx : x < 2 ^ 48) (hy : y < 2 ^ 48) : R_divisor (lN x) (lN y) = some (lN (Nat.gcd x y)) ∧ C_commonDivisor (lN x) (lN y) = some (lN (Nat.gcd x y)) :=
  ⟨pe_R 48 x y 200 (by omega) hy (by decide) (by decide), pe_C 48 x y 0 200 (by omega) hy (by decide) (by decide) (by decide)⟩
