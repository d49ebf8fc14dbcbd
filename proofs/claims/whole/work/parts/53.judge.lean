/-! two loops side by side, d steps of the one for each of the other -/
theorem pp_twoN {σ1 σ2 β1 β2 : Type} {F1 : (σ1 → Option β1) → σ1 → Option β1} {F2 : (σ2 → Option β2) → σ2 → Option β2} (P : Nat → σ1 → σ2 → Prop) (Q : β1 → β2 → Prop) (n d e : Nat)
    (h : ∀ i a1 a2, i ≤ n → P i a1 a2 → (∃ b1 b2, (∀ f, e ≤ f → pp_it F1 f a1 = some b1) ∧ (∀ f, e ≤ f → pp_it F2 f a2 = some b2) ∧ Q b1 b2) ∨ (i < n ∧ ∃ a1' a2', (∀ f, pp_it F1 (f + d) a1 = pp_it F1 f a1') ∧ (∀ f, pp_it F2 (f + 1) a2 = pp_it F2 f a2') ∧ P (i + 1) a1' a2')) :
    ∀ (k i : Nat) (a1 : σ1) (a2 : σ2) (f1 f2 : Nat), n < i + k → i ≤ n → P i a1 a2 → k * d + e ≤ f1 → k + e ≤ f2 → ∃ b1 b2, pp_it F1 f1 a1 = some b1 ∧ pp_it F2 f2 a2 = some b2 ∧ Q b1 b2 := by
  intro k
  induction k with
  | zero => intro i a1 a2 f1 f2 h1 h2; omega
  | succ k ih =>
    intro i a1 a2 f1 f2 h1 h2 hP hf1 hf2
    rw [Nat.add_mul, Nat.one_mul] at hf1
    rcases h i a1 a2 h2 hP with ⟨b1, b2, e1, e2, hQ⟩ | ⟨hi, a1', a2', e1, e2, hP'⟩
    · exact ⟨b1, b2, e1 f1 (by omega), e2 f2 (by omega), hQ⟩
    · obtain ⟨f1, rfl⟩ : ∃ z, f1 = z + d := ⟨f1 - d, by omega⟩
      obtain ⟨f2, rfl⟩ : ∃ z, f2 = z + 1 := ⟨f2 - 1, by omega⟩
      obtain ⟨b1, b2, g1, g2, hQ⟩ := ih (i + 1) a1' a2' f1 f2 (by omega) (by omega) hP' (by omega) (by omega)
      exact ⟨b1, b2, (e1 f1).trans g1, (e2 f2).trans g2, hQ⟩
theorem pp_it_s {α β : Type} {F : (α → Option β) → α → Option β} {n : Nat} {a : α} : pp_it F (n + 1) a = F (pp_it F n) a := rfl
theorem pp_ob_id {α β : Type} (o : Option (α × β)) : pp_ob o (fun r => some (r.1, r.2)) = o := by cases o <;> rfl
theorem pp_fin {α β1 β2 : Type} {o1 : Option (α × β1)} {o2 : Option (α × β2)} {I : β2 → β1 → Prop} (h : ∃ b1 b2, o1 = some b1 ∧ o2 = some b2 ∧ (b1.1 = b2.1 ∧ I b2.2 b1.2)) : ∃ v q1 r1, o2 = some (v, q1) ∧ o1 = some (v, r1) ∧ I q1 r1 := by
  obtain ⟨⟨v1, b1⟩, ⟨v2, b2⟩, rfl, rfl, h1, h2⟩ := h
  have h1 : v1 = v2 := h1
  subst h1
  exact ⟨_, _, _, rfl, rfl, h2⟩
theorem pu_least {P : Nat → Prop} (n : Nat) : (∀ b, b < n → ¬ P b) ∨ ∃ b, b < n ∧ P b ∧ ∀ c, c < b → ¬ P c := by
  induction n with
  | zero => exact Or.inl (fun b hb => absurd hb (Nat.not_lt_zero b))
  | succ n ih =>
    rcases ih with h | ⟨b, h1, h2, h3⟩
    · by_cases hn : P n
      · exact Or.inr ⟨n, Nat.lt_succ_self n, hn, h⟩
      · refine Or.inl (fun b hb => ?_)
        by_cases hbn : b = n
        · subst hbn; exact hn
        · exact h b (by omega)
    · exact Or.inr ⟨b, by omega, h2, h3⟩
theorem pu_m0 : ∀ m, m < 64 → (∀ b, b < 6 → m.testBit b = false) → m = 0 := by decide +kernel
section LEAST
variable {T G : Nat} {x : cc_CT} {r : rr_S}
/-- the ball of the least number that he holds -/
theorem pq_least (h : CW T G x r) {p : Nat} (hp : p < zn r) {β : Type} (B : Int32 → Option β) : (R_holds r (nI p) = some 0 ∧ K_leastBallOf x (nI p) = some (-9)) ∨ (∃ b m, b < 6 ∧ r.2.1 6 b = nI p ∧ R_holds r (nI p) = some m ∧ m ≠ 0 ∧ K_leastBallOf x (nI p) = some (nI b) ∧ pp_it (fun (self25 : Int32 → Option β) (a25 : Int32) => pp_ix a25 6 (if (r.2.1 6 (Int32.toNatClampNeg a25)) = nI p then B a25 else self25 (a25 + 1))) 200 (0 : Int32) = B (nI b)) := by
  obtain ⟨m, hm, hb, e1, -⟩ := pq_balls h hp
  have ePl := (pq_plY h hp).2
  rcases pu_least (P := fun b => r.2.1 6 b = nI p) 6 with hno | ⟨b, hb6, hbe, hbl⟩
  · left
    have hm0 : m = 0 := pu_m0 m hm (fun b hb6 => by rw [hb b hb6]; exact decide_eq_false (hno b hb6))
    refine ⟨by rw [e1, hm0]; rfl, ?_⟩
    unfold K_leastBallOf
    obtain ⟨v, e, rfl⟩ := pp_one (F := fun (self1 : Int32 → Option Int32) (a1 : Int32) => (if (6 : Int32) ≤ a1 then some (-9 : Int32) else pp_ob (K_isPlayer x (nI p)) (fun r5 => (if r5 = (0 : Int32) then some (-9 : Int32) else pp_ix a1 6 ((if (x.1.2.1 4 (Int32.toNatClampNeg a1)) = nI p then some a1 else pp_lj (a1 + 1 : Int32) (fun x14 => self1 x14)))))))
      (P := fun i a => a = nI i) (Q := fun v => v = -9) 6 (by
        rintro i a hi rfl
        by_cases h6 : i = 6
        · left; subst h6
          exact ⟨_, fun self => if_pos (show (6 : Int32) ≤ nI 6 by decide +kernel), rfl⟩
        · right
          have hi6 : i < 6 := by omega
          refine ⟨hi6, nI (i + 1), fun self => ?_, rfl⟩
          simp only [pp_lj]
          rw [if_neg (by rw [pu_6]; exact nI_ge hi6 (by decide)), ePl, pp_ob_s, if_neg pu_10, pp_ix_n hi6 (by decide), pu_c (by omega), (h.2.2.2.2.1 i hi6).1, if_neg (hno i hi6), pu_i1]) 7 0 0 200 (by decide) (by decide) pu_0 (by decide)
    exact e
  · right
    have hm0 : nI m ≠ 0 := by
      have ht : m.testBit b = true := by rw [hb b hb6]; exact decide_eq_true hbe
      refine nI_ne0 ?_ (by omega)
      rcases Nat.eq_zero_or_pos m with h0 | h0
      · rw [h0, Nat.zero_testBit] at ht; cases ht
      · exact h0
    refine ⟨b, nI m, hb6, hbe, e1, hm0, ?_, ?_⟩
    · unfold K_leastBallOf
      obtain ⟨v, e, rfl⟩ := pp_one (F := fun (self1 : Int32 → Option Int32) (a1 : Int32) => (if (6 : Int32) ≤ a1 then some (-9 : Int32) else pp_ob (K_isPlayer x (nI p)) (fun r5 => (if r5 = (0 : Int32) then some (-9 : Int32) else pp_ix a1 6 ((if (x.1.2.1 4 (Int32.toNatClampNeg a1)) = nI p then some a1 else pp_lj (a1 + 1 : Int32) (fun x14 => self1 x14)))))))
        (P := fun i a => a = nI i) (Q := fun v => v = nI b) b (by
          rintro i a hi rfl
          have hi6 : i < 6 := by omega
          have n6 : ¬ (6 : Int32) ≤ nI i := by rw [pu_6]; exact nI_ge hi6 (by decide)
          by_cases hib : i = b
          · left; subst hib
            refine ⟨nI i, fun self => ?_, rfl⟩
            simp only [pp_lj]
            rw [if_neg n6, ePl, pp_ob_s, if_neg pu_10, pp_ix_n hi6 (by decide), pu_c (by omega), (h.2.2.2.2.1 i hi6).1, if_pos hbe]
          · right
            refine ⟨by omega, nI (i + 1), fun self => ?_, rfl⟩
            simp only [pp_lj]
            rw [if_neg n6, ePl, pp_ob_s, if_neg pu_10, pp_ix_n hi6 (by decide), pu_c (by omega), (h.2.2.2.2.1 i hi6).1, if_neg (hbl i (by omega)), pu_i1]) 7 0 0 200 (by omega) (by omega) pu_0 (by decide)
      exact e
    · have go : ∀ d i f, i + d = b → d < f → pp_it (fun (self25 : Int32 → Option β) (a25 : Int32) => pp_ix a25 6 (if (r.2.1 6 (Int32.toNatClampNeg a25)) = nI p then B a25 else self25 (a25 + 1))) f (nI i) = B (nI b) := by
        intro d
        induction d with
        | zero =>
          intro i f hi hf
          obtain ⟨f, rfl⟩ : ∃ z, f = z + 1 := ⟨f - 1, by omega⟩
          have hib : i = b := by omega
          subst hib
          rw [pp_it_s]
          rw [pp_ix_n hb6 (by decide), pu_c (by omega), if_pos hbe]
        | succ d ih =>
          intro i f hi hf
          obtain ⟨f, rfl⟩ : ∃ z, f = z + 1 := ⟨f - 1, by omega⟩
          rw [pp_it_s]
          rw [pp_ix_n (show i < 6 by omega) (by decide), pu_c (by omega), if_neg (hbl i (by omega)), pu_i1]
          exact ih (i + 1) f (by omega) (by omega)
      exact go b 0 200 (by omega) (by omega)
theorem pq_leastN (h : CW T G x r) {v : Int32} (hv : R_isPlayer r v = some 0) : K_leastBallOf x v = some (-9) := by
  have e : K_isPlayer x v = some 0 := by
    rcases pq_pl h v with ⟨p, -, -, a, -⟩ | ⟨-, b, -⟩
    · rw [a] at hv; cases hv
    · exact b
  unfold K_leastBallOf
  show (if (6 : Int32) ≤ 0 then some (-9 : Int32) else pp_ob (K_isPlayer x v) _) = _
  rw [if_neg (by decide), e, pp_ob_s, if_pos rfl]
theorem pk_can9 (h : CW T G x r) (w : Int32) : K_canThrow x (-9) w = some 0 := by
  simp only [K_canThrow, K_holderOf, pp_lj]
  rw [show C_isBall (-9) = some 0 from by decide +kernel, pp_ob_s, if_pos rfl, pp_ob_s]
  rcases pq_ag h (-9) w with ⟨p, p', hp, -, e, -⟩ | ⟨-, e⟩
  · exact absurd e.symm (fun e2 => pu_neg (a := p) (by have := h.1.1.2; omega) (by rw [e2]; decide))
  · rw [e, pp_ob_s, pp_bz_n (Or.inl rfl)]
theorem pk_canB (h : CW T G x r) {b : Nat} (hb : b < 6) {v : Int32} (hv : r.2.1 6 b = v) {w z : Int32} (hz : z = 0 ∨ z = 1) (e : K_areOpposed x v w = some z) : K_canThrow x (nI b) w = some z := by
  simp only [K_canThrow, K_holderOf, pp_lj]
  rw [pk_isBall hb, pp_ob_s, if_neg pu_10, pp_ix_n hb (by decide), pu_c (by omega), pp_ob_s, (h.2.2.2.2.1 b hb).1, hv, e, pp_ob_s, pp_bz_n hz]
end LEAST
theorem pi_hd : ∀ k, k < 10 → (C_isHow (nI k) = some 1 ∧ C_isEnd (nI k) = some 1 ∧ ¬ (2 : Int32) < nI k ∧ (nI k = 0 ∨ nI k = 1 ∨ nI k = 2)) ∨ (C_isHow (nI k) = some 0 ∧ C_isEnd (nI k) = some 0 ∧ (2 : Int32) < nI k) := by decide +kernel
/-- a told throw, tried out -/
theorem pi_thrown {T G : Nat} {q : cc_S} {r : rr_S} (h : CW T G (q.2.2.1 1) r) (hT : T < 2 ^ 30) (hG : G < 2 ^ 29) {v : Nat} (hv : v ≤ 9999) : (R_isThrown r (nI v) = some (0, r) ∧ C_throwInMind q (nI v) = some (0, q)) ∨ (∃ x1 r1, R_isThrown r (nI v) = some (1, r1) ∧ C_throwInMind q (nI v) = some (1, cc_pC q 1 x1) ∧ CW (T + 1) (G + 1) x1 r1 ∧ FR r r1) := by
  have h : CW T G (cc_gC q 1) r := h
  have d1 : nI v / 1000 = nI (v / 1000) := by rw [show (1000 : Int32) = nI 1000 from by decide +kernel, pk_div (by omega) (by decide) (by decide)]
  have d2 : nI v / 100 - nI v / 100 / 10 * 10 = nI (v / 100 % 10) := by rw [show (100 : Int32) = nI 100 from by decide +kernel, pu_10', pk_div (by omega) (by decide) (by decide), pk_rem (by omega) (by decide) (by decide)]
  have d3 : nI v / 10 - nI v / 10 / 10 * 10 = nI (v / 10 % 10) := by rw [pu_10', pk_div (by omega) (by decide) (by decide), pk_rem (by omega) (by decide) (by decide)]
  have d4 : nI v - nI v / 10 * 10 = nI (v % 10) := by rw [pu_10', pk_rem (by omega) (by decide) (by decide)]
  simp only [R_isThrown, C_throwInMind, pp_lj]
  rw [d1, d2, d3, d4]
  have la : v / 1000 < 10 := by omega
  have lw : v / 100 % 10 < 10 := by omega
  have lc : v / 10 % 10 < 10 := by omega
  have le : v % 10 < 10 := by omega
  generalize v / 1000 = a at la ⊢
  generalize v / 100 % 10 = w at lw ⊢
  generalize v / 10 % 10 = c at lc ⊢
  generalize v % 10 = e at le ⊢
  have hleast : (K_leastBallOf (cc_gC q 1) (nI a) = some (-9) ∧ (R_isPlayer r (nI a) = some 0 ∨ R_isPlayer r (nI a) = some 1 ∧ R_holds r (nI a) = some 0)) ∨ (∃ b m, a < zn r ∧ b < 6 ∧ r.2.1 6 b = nI a ∧ R_isPlayer r (nI a) = some 1 ∧ R_holds r (nI a) = some m ∧ m ≠ 0 ∧ K_leastBallOf (cc_gC q 1) (nI a) = some (nI b) ∧ pp_it (fun (self25 : Int32 → Option (Int32 × rr_S)) (a25 : Int32) => pp_ix a25 6 (if (r.2.1 6 (Int32.toNatClampNeg a25)) = nI a then pp_ob (R_finishes r a25 (nI w) (nI e)) (fun r30 => some ((1 : Int32), r30)) else self25 (a25 + 1))) 200 (0 : Int32) = pp_ob (R_finishes r (nI b) (nI w) (nI e)) (fun r30 => some ((1 : Int32), r30))) := by
    rcases pq_pl h (nI a) with ⟨p, hp, ep, e1, -⟩ | ⟨e1, -, -⟩
    · have hpa : p = a := ((nI_eq (by omega) (by have := h.1.1.2; omega)).mp ep).symm
      subst hpa
      rcases pq_least h hp (fun a25 => pp_ob (R_finishes r a25 (nI w) (nI e)) (fun r30 => some ((1 : Int32), r30))) with ⟨f1, f2⟩ | ⟨b, m, f1, f2, f3, f4, f5, f6⟩
      · exact Or.inl ⟨f2, Or.inr ⟨e1, f1⟩⟩
      · exact Or.inr ⟨b, m, hp, f1, f2, e1, f3, f4, f5, f6⟩
    · exact Or.inl ⟨pq_leastN h e1, Or.inl e1⟩
  have hc := pi_hd c lc
  have he := pi_hd e le
  rcases hleast with ⟨k1, k2⟩ | ⟨b, m, ha, hb, hh, k0, k2, k3, k1, k4⟩
  · left
    rw [k1, pp_ob_s]
    rcases hc with ⟨c1, -, c2, -⟩ | ⟨c1, -, c2⟩
    rotate_left
    · rw [c1, pp_ob_s, if_pos rfl, if_pos c2]; exact ⟨rfl, rfl⟩
    rw [c1, pp_ob_s, if_neg pu_10, if_neg c2]
    rcases he with ⟨-, e1, e2, -⟩ | ⟨-, e1, e2⟩
    rotate_left
    · rw [e1, pp_ob_s, if_pos rfl, if_pos e2]; exact ⟨rfl, rfl⟩
    rw [e1, pp_ob_s, if_neg pu_10, if_neg e2, pk_can9 h, pp_ob_s, if_pos rfl]
    refine ⟨?_, rfl⟩
    rcases k2 with k2 | ⟨k2, k3⟩
    · rw [k2, pp_ob_s, if_pos rfl]
    · rw [k2, pp_ob_s, if_neg pu_10, k3, pp_ob_s, if_pos rfl]
  · rw [k1, pp_ob_s]
    rcases hc with ⟨c1, -, c2, -⟩ | ⟨c1, -, c2⟩
    rotate_left
    · left; rw [c1, pp_ob_s, if_pos rfl, if_pos c2]; exact ⟨rfl, rfl⟩
    rw [c1, pp_ob_s, if_neg pu_10, if_neg c2]
    rcases he with ⟨-, e1, e2, e3⟩ | ⟨-, e1, e2⟩
    rotate_left
    · left; rw [e1, pp_ob_s, if_pos rfl, if_pos e2]; exact ⟨rfl, rfl⟩
    rw [e1, pp_ob_s, if_neg pu_10, if_neg e2, k0, pp_ob_s, if_neg pu_10, k2, pp_ob_s, if_neg k3]
    rcases pq_ag h (nI a) (nI w) with ⟨p, p', hp, hp', ep, ep', o1, o2, hne, g1, g2⟩ | ⟨g1, g2⟩
    · right
      have hpa : p = a := ((nI_eq (by omega) (by have := h.1.1.2; omega)).mp ep).symm
      have hpw : p' = w := ((nI_eq (by omega) (by have := h.1.1.2; omega)).mp ep').symm
      subst hpa
      subst hpw
      obtain ⟨x1, r1, y1, y2, y3, y4, -, -⟩ := pi_end h hT hG hb hh hp hp' o1 o2 hne e3
      rw [g1, pp_ob_s, if_neg pu_10, k4, y2, pp_ob_s, pk_canB h hb hh (Or.inr rfl) g2, pp_ob_s, if_neg pu_10, y1, pp_ob_s]
      exact ⟨x1, r1, rfl, rfl, y3, y4⟩
    · left
      rw [g1, pp_ob_s, if_pos rfl, pk_canB h hb hh (Or.inl rfl) g2, pp_ob_s, if_pos rfl]
      exact ⟨rfl, rfl⟩
/-! who is IN, as bits -/
theorem pu_orp8 : ∀ m, m < 256 → ∀ i, i < 8 → m < 2 ^ i → m ||| 2 ^ i < 2 ^ (i + 1) ∧ ∀ b, b < 8 → (m ||| 2 ^ i).testBit b = (m.testBit b || decide (b = i)) := by decide +kernel
theorem pu_256 {m n : Nat} (hm : m < 256) (hn : n < 256) (h : ∀ b, b < 8 → m.testBit b = n.testBit b) : m = n := by
  apply Nat.eq_of_testBit_eq
  intro b
  by_cases hb : b < 8
  · exact h b hb
  · have h8 : 2 ^ 8 ≤ 2 ^ b := Nat.pow_le_pow_right (by decide) (by omega)
    rw [Nat.testBit_lt_two_pow (by omega), Nat.testBit_lt_two_pow (by omega)]
theorem pq_bits {T G : Nat} {x : cc_CT} {r : rr_S} (h : CW T G x r) : ∃ v, R_hereBits r = some v ∧ K_inBits x = some v := by
  obtain ⟨m0, e0, l0, -, b0⟩ := pq_in8 h (s := 0) (by decide)
  obtain ⟨m1, e1, l1, -, b1⟩ := pq_in8 h (s := 1) (by decide)
  have hn := h.1.1.1
  have hn8 := h.1.1.2
  have hM : m0 ||| m1 < 256 := Nat.or_lt_two_pow (n := 8) l0 l1
  have hbit : ∀ b, b < 8 → (m0 ||| m1).testBit b = (decide (b < zn r) && decide (zc r 5 b = 0)) := fun b hb => by
    rw [Nat.testBit_or, b0 b hb, b1 b hb]
    unfold zi
    by_cases hbn : b < zn r
    · have := (h.1.2.2.2.1 b hbn).2.1
      rcases (show zc r 1 b = 0 ∨ zc r 1 b = 1 by omega) with e | e <;> simp [e, hbn]
    · simp [hbn]
  refine ⟨nI (m0 ||| m1), ?_, ?_⟩
  · unfold R_hereBits
    obtain ⟨v, e, rfl⟩ := pp_one (F := fun (self1 : Int32 × Int32 → Option Int32) (a1 : Int32 × Int32) => (if (r.1 9) ≤ a1.2 then some a1.1 else pp_ix a1.2 8 (pp_lj (fun (a7 : Int32) => (pp_lj ((a1.1 ||| a7) : Int32) (fun x10 => pp_lj (a1.2 + 1 : Int32) (fun x12 => self1 (x10, x12))) : Option Int32)) (fun j7 => (if (r.2.1 5 (Int32.toNatClampNeg a1.2)) = (0 : Int32) then j7 ((1 : Int32) <<< (a1.2 &&& 31)) else j7 (0 : Int32))))))
      (P := fun i a => ∃ m, m < 256 ∧ m < 2 ^ i ∧ a = (nI m, nI i) ∧ ∀ b, b < 8 → m.testBit b = (decide (b < i) && (m0 ||| m1).testBit b)) (Q := fun v => v = nI (m0 ||| m1)) (zn r) (by
        rintro i a hi ⟨m, hm, hmi, rfl, hb⟩
        by_cases hin : i = zn r
        · left
          refine ⟨nI m, fun self => if_pos (by rw [hn]; exact nI_le (by omega) (by omega)), ?_⟩
          rw [pu_256 hm hM (fun b hb8 => ?_)]
          rw [hb b hb8, hbit b hb8, hin]
          by_cases hbn : b < zn r <;> simp [hbn]
        · right
          have hi' : i < zn r := by omega
          have hi8 : i < 8 := by omega
          have h5 := (pq_row h hi').2.2.2.2
          refine ⟨hi', (nI (if zc r 5 i = 0 then m ||| 2 ^ i else m), nI (i + 1)), fun self => ?_, _, ?_, ?_, rfl, ?_⟩
          · simp only [pp_lj]
            rw [hn, if_neg (nI_ge hi' (by omega)), pp_ix_n hi8 (by decide), pu_c (by omega), pu_i1]
            by_cases ho : zc r 5 i = 0
            · rw [if_pos ho, if_pos (by rw [h5, ho]; rfl), pu_shl i hi8, pu_or]
            · rw [if_neg ho, if_neg (fun e => ho (by show (r.2.1 5 i).toNatClampNeg = 0; rw [e]; decide +kernel)), pu_or0]
          · have h1 := (pu_orp8 m hm i hi8 hmi).1
            have h2 : 2 ^ (i + 1) ≤ 2 ^ 8 := Nat.pow_le_pow_right (by decide) (by omega)
            split <;> omega
          · have h1 := (pu_orp8 m hm i hi8 hmi).1
            have h2 : 2 ^ i < 2 ^ (i + 1) := Nat.pow_lt_pow_right (by decide) (by omega)
            split <;> omega
          · intro b hb8
            by_cases ho : zc r 5 i = 0
            · rw [if_pos ho, (pu_orp8 m hm i hi8 hmi).2 b hb8, hb b hb8]
              by_cases hbi : b = i
              · subst hbi; rw [hbit b hb8]; simp [ho, hi']
              · simp [hbi, show (b < i + 1) = (b < i) from propext ⟨fun h => by omega, fun h => by omega⟩]
            · rw [if_neg ho, hb b hb8]
              by_cases hbi : b = i
              · subst hbi; rw [hbit b hb8]; simp [ho]
              · simp [show (b < i + 1) = (b < i) from propext ⟨fun h => by omega, fun h => by omega⟩]) 9 0 (0, 0) 200 (by omega) (by omega) ⟨0, by decide, by decide, rfl, fun b _ => by simp⟩ (by decide)
    exact e
  · unfold K_inBits
    have e0' : (cc_gS x 0).1 0 = nI m0 := e0
    have e1' : (cc_gS x 1).1 0 = nI m1 := e1
    rw [e0', e1', pu_or]
