/-! two loops side by side that go on behind their end -/
theorem pp_twoK {σ1 σ2 τ1 τ2 β1 β2 : Type} {F1 : (τ1 → Option β1) → (σ1 → Option β1) → σ1 → Option β1} {F2 : (τ2 → Option β2) → (σ2 → Option β2) → σ2 → Option β2} (P : Nat → σ1 → σ2 → Prop) (Q : τ1 → τ2 → Prop) (n : Nat)
    (h : ∀ i a1 a2, i ≤ n → P i a1 a2 → (∃ b1 b2, (∀ K self, F1 K self a1 = K b1) ∧ (∀ K self, F2 K self a2 = K b2) ∧ Q b1 b2) ∨ (i < n ∧ ∃ a1' a2', (∀ K self, F1 K self a1 = self a1') ∧ (∀ K self, F2 K self a2 = self a2') ∧ P (i + 1) a1' a2')) :
    ∀ (k i : Nat) (a1 : σ1) (a2 : σ2) (f1 f2 : Nat), n < i + k → i ≤ n → P i a1 a2 → k ≤ f1 → k ≤ f2 → ∃ b1 b2, (∀ K, pp_it (F1 K) f1 a1 = K b1) ∧ (∀ K, pp_it (F2 K) f2 a2 = K b2) ∧ Q b1 b2 := by
  intro k
  induction k with
  | zero => intro i a1 a2 f1 f2 h1 h2; omega
  | succ k ih =>
    intro i a1 a2 f1 f2 h1 h2 hP hf1 hf2
    obtain ⟨f1, rfl⟩ : ∃ z, f1 = z + 1 := ⟨f1 - 1, by omega⟩
    obtain ⟨f2, rfl⟩ : ∃ z, f2 = z + 1 := ⟨f2 - 1, by omega⟩
    rcases h i a1 a2 h2 hP with ⟨b1, b2, e1, e2, hQ⟩ | ⟨hi, a1', a2', e1, e2, hP'⟩
    · exact ⟨b1, b2, fun K => e1 K _, fun K => e2 K _, hQ⟩
    · obtain ⟨b1, b2, g1, g2, hQ⟩ := ih (i + 1) a1' a2' f1 f2 (by omega) (by omega) hP' (by omega) (by omega)
      exact ⟨b1, b2, fun K => (e1 K _).trans (g1 K), fun K => (e2 K _).trans (g2 K), hQ⟩
theorem pp_ix_c {β : Type} {i : Int32} {n : Nat} {X Y : Option β} (h : ¬ (i < 0 ∨ n ≤ i.toNatClampNeg) → X = Y) : pp_ix i n X = pp_ix i n Y := by
  unfold pp_ix
  by_cases q : i < 0 ∨ n ≤ i.toNatClampNeg
  · rw [if_pos q, if_pos q]
  · rw [if_neg q, if_neg q]; exact h q
section SUM
variable {T G : Nat} {x : cc_CT} {r : rr_S}
theorem pq_sumI (h : CW T G x r) (hT : T < 2 ^ 30) (s a : Int32) {i : Nat} (hi : i < zn r) : ∃ c1 c2 : Int32 × Int32,
    (∀ K : Int32 × Int32 → Option Int32, pp_it (fun (self5 : Int32 × Int32 → Option Int32) (a5 : Int32 × Int32) => (if (r.1 9) ≤ a5.2 then K (a5.1, nI i + 1) else pp_ix a5.2 8 (if (r.2.1 1 (Int32.toNatClampNeg a5.2)) = s then pp_ob (R_areAgainst r (nI i) a5.2) (fun r21 => (if r21 = (0 : Int32) then self5 (a5.1, a5.2 + 1) else pp_ob (R_hitOf r (nI i) a5.2 (0 : Int32)) (fun r26 => pp_ob (R_caughtOf r a5.2 (0 : Int32)) (fun r28 => self5 (a5.1 + (r26 - ((2 : Int32) * r28)), a5.2 + 1))))) else self5 (a5.1, a5.2 + 1)))) 200 (a, (0 : Int32)) = K c1) ∧
    (∀ K : Int32 × Int32 → Option Int32, pp_it (fun (self5 : Int32 × Int32 → Option Int32) (a5 : Int32 × Int32) => (if (x.1.1 1) ≤ a5.2 then K (a5.1, nI i + 1) else pp_ob (K_sideOf x a5.2) (fun r11 => (if r11 = s then pp_ob (K_areOpposed x (nI i) a5.2) (fun r21 => (if r21 = (0 : Int32) then self5 (a5.1, a5.2 + 1) else pp_ob (K_gainOf x (nI i) a5.2 (0 : Int32)) (fun r26 => self5 (a5.1 + r26, a5.2 + 1)))) else self5 (a5.1, a5.2 + 1))))) 200 (a, (0 : Int32)) = K c2) ∧ (c1 = c2 ∧ c1.2 = nI (i + 1)) := by
  have hn := h.1.1.1
  have hn8 := h.1.1.2
  have hx := h.2.1
  refine pp_twoK (F1 := fun (K : Int32 × Int32 → Option Int32) (self5 : Int32 × Int32 → Option Int32) (a5 : Int32 × Int32) => (if (r.1 9) ≤ a5.2 then K (a5.1, nI i + 1) else pp_ix a5.2 8 (if (r.2.1 1 (Int32.toNatClampNeg a5.2)) = s then pp_ob (R_areAgainst r (nI i) a5.2) (fun r21 => (if r21 = (0 : Int32) then self5 (a5.1, a5.2 + 1) else pp_ob (R_hitOf r (nI i) a5.2 (0 : Int32)) (fun r26 => pp_ob (R_caughtOf r a5.2 (0 : Int32)) (fun r28 => self5 (a5.1 + (r26 - ((2 : Int32) * r28)), a5.2 + 1))))) else self5 (a5.1, a5.2 + 1))))
    (F2 := fun (K : Int32 × Int32 → Option Int32) (self5 : Int32 × Int32 → Option Int32) (a5 : Int32 × Int32) => (if (x.1.1 1) ≤ a5.2 then K (a5.1, nI i + 1) else pp_ob (K_sideOf x a5.2) (fun r11 => (if r11 = s then pp_ob (K_areOpposed x (nI i) a5.2) (fun r21 => (if r21 = (0 : Int32) then self5 (a5.1, a5.2 + 1) else pp_ob (K_gainOf x (nI i) a5.2 (0 : Int32)) (fun r26 => self5 (a5.1 + r26, a5.2 + 1)))) else self5 (a5.1, a5.2 + 1)))))
    (P := fun k a1 a2 => a1 = a2 ∧ a1.2 = nI k) (Q := fun c1 c2 => c1 = c2 ∧ c1.2 = nI (i + 1)) (zn r) ?_ 9 0 (a, 0) (a, 0) 200 200 (by omega) (by omega) ⟨rfl, pu_0⟩ (by decide) (by decide)
  rintro k ⟨b, kk⟩ a2 hk ⟨rfl, e⟩
  have e : kk = nI k := e
  subst e
  by_cases hkn : k = zn r
  · left
    have hle : r.1 9 ≤ nI k := by rw [hn]; exact nI_le (by omega) (by omega)
    exact ⟨(b, nI i + 1), (b, nI i + 1), fun K self => if_pos hle, fun K self => if_pos (by rw [hx]; exact hle), rfl, pu_i1⟩
  · right
    have hk' : k < zn r := by omega
    have hle : ¬ r.1 9 ≤ nI k := by rw [hn]; exact nI_ge hk' (by omega)
    have hle1 : ¬ x.1.1 1 ≤ nI k := by rw [hx]; exact hle
    simp only [if_neg hle, if_neg hle1, pp_ix_n (show k < 8 by omega) (show 8 < 2 ^ 31 by decide), pu_c (show k < 2 ^ 31 by omega), pq_side h hk', pp_ob_s]
    by_cases hs : r.2.1 1 k = s
    · simp only [if_pos hs]
      rcases pq_ag h (nI i) (nI k) with ⟨p, p', hp, hp', e1, e2, -, -, -, g1, g2⟩ | ⟨g1, g2⟩
      · obtain ⟨u, u1, u2⟩ := pq_hit h hT hi hk' (hw := 0) (Or.inl rfl)
        obtain ⟨v, v1, v2⟩ := pq_caught h hk' (hw := 0) (Or.inl rfl)
        refine ⟨hk', (b + (u - 2 * v), nI (k + 1)), (b + (u - 2 * v), nI (k + 1)), fun K self => ?_, fun K self => ?_, rfl, rfl⟩
        · rw [g1, pp_ob_s, if_neg pu_10, u1, pp_ob_s, v1, pp_ob_s, pu_i1]
        · unfold K_gainOf
          rw [g2, pp_ob_s, if_neg pu_10, u2, pp_ob_s, v2, pp_ob_s, pp_ob_s, pu_i1]
      · refine ⟨hk', (b, nI (k + 1)), (b, nI (k + 1)), fun K self => ?_, fun K self => ?_, rfl, rfl⟩
        · rw [g1, pp_ob_s, if_pos rfl, pu_i1]
        · rw [g2, pp_ob_s, if_pos rfl, pu_i1]
    · simp only [if_neg hs]
      exact ⟨hk', _, _, fun K self => rfl, fun K self => rfl, rfl, pu_i1⟩
theorem pq_sum (h : CW T G x r) (hT : T < 2 ^ 30) (s : Int32) : ∃ v1 v2, R_sumAt r s = some v1 ∧ K_gainAt x s = some v2 ∧ v1 = v2 := by
  have hn := h.1.1.1
  have hn8 := h.1.1.2
  have hx := h.2.1
  unfold R_sumAt K_gainAt
  refine pp_two (P := fun k a1 a2 => a1 = a2 ∧ a1.2 = nI k) (Q := fun c1 c2 => c1 = c2) (zn r) ?_ 9 0 (0, 0) (0, 0) 200 200 (by omega) (by omega) ⟨rfl, pu_0⟩ (by decide) (by decide)
  rintro k ⟨b, kk⟩ a2 hk ⟨rfl, e⟩
  have e : kk = nI k := e
  subst e
  by_cases hkn : k = zn r
  · left
    have hle : r.1 9 ≤ nI k := by rw [hn]; exact nI_le (by omega) (by omega)
    exact ⟨b, b, fun self => if_pos hle, fun self => if_pos (by rw [hx]; exact hle), rfl⟩
  · right
    have hk' : k < zn r := by omega
    have hle : ¬ r.1 9 ≤ nI k := by rw [hn]; exact nI_ge hk' (by omega)
    have hle1 : ¬ x.1.1 1 ≤ nI k := by rw [hx]; exact hle
    obtain ⟨c1, c2, g1, g2, rfl, g3⟩ := pq_sumI h hT s b hk'
    exact ⟨hk', c1, c1, fun self => (if_neg hle).trans (g1 self), fun self => (if_neg hle1).trans (g2 self), rfl, g3⟩
end SUM
section SUMC
variable {T G : Nat} {x : cc_CT} {r r' : rr_S}
theorem pr_holdsC {v : Int32} (hb : ∀ b, b < 6 → (r.2.1 6 b = v ↔ r'.2.1 6 b = v)) : R_holds r v = R_holds r' v := by
  unfold R_holds
  refine congrArg (fun F => pp_it F 200 ((0 : Int32), (0 : Int32))) (funext fun self => funext fun a => ?_)
  by_cases h6 : (6 : Int32) ≤ a.2
  · rw [if_pos h6, if_pos h6]
  · rw [if_neg h6, if_neg h6]
    refine pp_ix_c (fun hin => ?_)
    have hb6 := hb a.2.toNatClampNeg (by omega)
    simp only [pp_lj]
    by_cases he : r.2.1 6 a.2.toNatClampNeg = v
    · rw [if_pos he, if_pos (hb6.mp he)]
    · rw [if_neg he, if_neg (fun e => he (hb6.mpr e))]
/-- the sum of gains reads players, tenth, and the balls of who is IN -/
theorem pr_sumC (h : CW T G x r) (hr : ∀ k, k ≤ 5 → r.2.1 k = r'.2.1 k) (h9 : r.1 9 = r'.1 9) (h10 : r.1 10 = r'.1 10) (hb : ∀ p, p < zn r → zc r 5 p = 0 → ∀ b, b < 6 → (r.2.1 6 b = nI p ↔ r'.2.1 6 b = nI p)) (s : Int32) : R_sumAt r s = R_sumAt r' s := by
  have r1 := hr 1 (by decide)
  have r2 := hr 2 (by decide)
  have r3 := hr 3 (by decide)
  have r4 := hr 4 (by decide)
  have r5 := hr 5 (by decide)
  have hA : ∀ v w, R_areAgainst r v w = R_areAgainst r' v w := fun v w => by
    simp only [R_areAgainst, R_isHere, R_isPlayer, h9, r1, r5]
  have hC : ∀ w, R_caughtOf r w 0 = R_caughtOf r' w 0 := fun w => by
    simp only [R_caughtOf, R_graspOf, R_hereOf, h9, r1, r2, r3, r4, r5]
  have hH : ∀ v p, p < zn r → zc r 5 p = 0 → R_hitOf r v (nI p) 0 = R_hitOf r' v (nI p) 0 := fun v p hp ho => by
    simp only [R_hitOf, R_aimOf, R_dodgeOf, h10, r2, r3, r4, pr_holdsC (hb p hp ho)]
  unfold R_sumAt
  refine congrArg (fun F => pp_it F 200 ((0 : Int32), (0 : Int32))) (funext fun self => funext fun a => ?_)
  rw [h9, r1]
  refine congrArg (fun z => if r'.1 9 ≤ a.2 then some a.1 else z) (congrArg (fun F => pp_it F 200 (a.1, (0 : Int32))) (funext fun self5 => funext fun a5 => ?_))
  simp only [pp_lj]
  rcases pq_ag h a.2 a5.2 with ⟨p, p', hp, hp', e1, e2, o1, o2, -, e3, -⟩ | ⟨e3, -⟩
  · have E : R_hitOf r a.2 a5.2 0 = R_hitOf r' a.2 a5.2 0 := by rw [e2]; exact hH _ _ hp' o2
    rw [E, hC, hA]
  · have e4 := hA a.2 a5.2
    rw [e3] at e4
    rw [e3, ← e4]
    simp only [pp_ob_s, if_true]
end SUMC
theorem st_worth : lw_S1 II C_worth R_worth := by
  intro j q r v1 hj h
  simp only [C_worth, R_worth, pp_lj]
  obtain ⟨q1, r1, n1, -, n2, -, hI1⟩ := pi_no h (Or.inl rfl)
  obtain ⟨q3, r3', n5, -, n6, -, hI3⟩ := pi_no h (Or.inr (Or.inr (Or.inl rfl)))
  have hC : CW 9999 (40 * j) (cc_gC q 0) r := h.1
  have m1 : ¬ (-1 : Int32) = 0 := by decide
  have m3 : ¬ (-3 : Int32) = 0 := by decide
  simp only [if_neg m1, if_neg m3, n1, n2, n5, n6, pp_ob_s, if_true]
  rcases pq_pl hC v1 with ⟨p, hp, rfl, e1, f1⟩ | ⟨e1, f1, -⟩ <;> rw [e1, f1, pp_ob_s, pp_ob_s]
  rotate_left
  · rw [if_pos rfl, if_pos rfl]; exact ⟨_, _, _, rfl, rfl, hI1⟩
  rw [if_neg pu_10, if_neg pu_10, (pq_in hC hp).1, (pq_in hC hp).2, pp_ob_s, pp_ob_s]
  by_cases ho : zc r 5 p = 0
  rotate_left
  · rw [if_neg ho, if_pos rfl, if_pos rfl]; exact ⟨_, _, _, rfl, rfl, hI3⟩
  have hp8 := pq_lt hC hp
  have hr5 : r.2.1 5 p = 0 := by rw [(pq_row hC hp).2.2.2.2, ho]; rfl
  rw [if_pos ho, if_neg pu_10, if_neg pu_10, pq_side hC hp, pp_ob_s, pp_ix_n hp8 (by decide), pu_c (by omega)]
  obtain ⟨x1, g1, hL⟩ := pk_like (cc_gC q 1) (cc_gC q 0)
  obtain ⟨x2, rO, g2, -, hO, hF, k9, k10, krow, -, kb, kb9, k5⟩ := pi_out (hC.like hL) (by omega) hp ho
  obtain ⟨s1, s1', a1, a2, rfl⟩ := pq_sum hC (by decide) (r.2.1 1 p)
  obtain ⟨s2, s2', b1, b2, rfl⟩ := pq_sum hO (by decide) (r.2.1 1 p)
  have hrows : ∀ k, k ≤ 5 → rO.2.1 k = (rr_A r 5 p (r.1 11 + 1)).2.1 k := fun k hk => by
    funext i
    rw [rr_Ap]
    by_cases hki : k = 5 ∧ i = p
    · obtain ⟨rfl, rfl⟩ := hki
      rw [if_pos ⟨rfl, rfl⟩, k5]
    · rw [if_neg hki, krow k i hk (by omega)]
  have hsum := pr_sumC (r' := rr_A r 5 p (r.1 11 + 1)) hO hrows k9 k10 (fun p' hp' ho' b hb => by
    have hne : p' ≠ p := fun e => by
      have : rO.2.1 5 p = r.1 11 + 1 := k5
      rw [e] at ho'
      unfold zc at ho'
      rw [this, hC.1.2.2.1.1, pu_i1, pu_c (by have := hC.1.2.2.1.2; omega)] at ho'
      omega
    show rO.2.1 6 b = nI p' ↔ r.2.1 6 b = nI p'
    have hp8' : p' < 8 := pq_lt hO hp'
    by_cases hbp : r.2.1 6 b = nI p
    · rw [kb9 b hb hbp, hbp]
      exact ⟨fun e => absurd e.symm (fun e2 => pu_neg (a := p') (by omega) (by rw [e2]; decide)), fun e => absurd ((nI_eq (by omega) (by omega)).mp e).symm hne⟩
    · rw [(kb b hb hbp).1]) (r.2.1 1 p)
  rw [b1] at hsum
  rw [a1, pp_ob_s, g1, pp_ob_s]
  show ∃ v q1 r1, pp_ob (K_goOut x1 (nI p)) _ = some (v, q1) ∧ _ ∧ _
  rw [g2, pp_ob_s]
  show ∃ v q1 r1, pp_ob (K_gainAt x2 (r.2.1 1 p)) (fun r19 => pp_ob (K_gainAt (cc_gC q 0) (r.2.1 1 p)) _) = some (v, q1) ∧ _ ∧ _
  rw [b2, pp_ob_s, a2, pp_ob_s]
  show ∃ v q1 r1, _ ∧ pp_ob (R_sumAt (rr_A r 5 p (r.1 11 + 1)) ((rr_A r 5 p (r.1 11 + 1)).2.1 1 p)) _ = some (v, r1) ∧ _
  have e1p : (rr_A r 5 p (r.1 11 + 1)).2.1 1 p = r.2.1 1 p := by rw [rr_An (by decide)]
  rw [e1p, ← hsum, pp_ob_s]
  refine ⟨_, _, _, rfl, rfl, h.court rfl rfl rfl ((FR.A (by decide) (by decide)).tr (FR.A (by decide) (by decide))) ?_⟩
  refine (hC.mono (Nat.le_refl _) (by omega)).cong rfl rfl rfl (fun k i _ _ _ => ?_) (fun k b k6 _ _ => ?_)
  · rw [rr_Ap, rr_Ap]
    by_cases hki : k = 5 ∧ i = p
    · obtain ⟨rfl, rfl⟩ := hki
      rw [if_pos ⟨rfl, rfl⟩, hr5]
    · rw [if_neg hki, if_neg hki]
  · rw [rr_Ap, rr_Ap, if_neg (by omega), if_neg (by omega)]
