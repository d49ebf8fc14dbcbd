/-! who comes in again -/
theorem pu_setb : ∀ m, m < 256 → ∀ p, p < 8 → nI m ||| ((1 : Int32) <<< (nI p &&& 31)) = nI (m ||| 2 ^ p) ∧ (m ||| 2 ^ p) < 256 ∧ ∀ q, q < 8 → (m ||| 2 ^ p).testBit q = (m.testBit q || decide (q = p)) := by decide +kernel
def rin (r : rr_S) (p : Nat) : rr_S := rr_A r 5 p 0
section IN
variable {T G : Nat} {x : cc_CT} {r : rr_S} {p s : Nat}
theorem rin_n {k i : Nat} (h : k ≠ 5 ∨ i ≠ p) : (rin r p).2.1 k i = r.2.1 k i := by unfold rin; rw [rr_Ap, if_neg (by omega)]
theorem rin_e : (rin r p).2.1 5 p = 0 := by unfold rin; rw [rr_Ap, if_pos ⟨rfl, rfl⟩]
theorem rin_c {k i : Nat} (h : k ≠ 5 ∨ i ≠ p) : zc (rin r p) k i = zc r k i := by unfold zc; rw [rin_n h]
theorem rin_z : zc (rin r p) 5 p = 0 := by unfold zc; rw [rin_e]; decide +kernel
theorem zw_d (h : zw r s p = true) : p < zn r ∧ zc r 1 p = s ∧ 0 < zc r 5 p := by
  unfold zw at h
  simp at h
  exact ⟨h.1, h.2.1, h.2.2⟩
theorem rin_i (hp : p < zn r) (s q : Nat) : zi (rin r p) s q = if q = p then decide (zc r 1 p = s) else zi r s q := by
  by_cases hq : q = p
  · subst hq
    rw [if_pos rfl]
    unfold zi; rw [rin_z, rin_c (Or.inl (by decide)), show zn (rin r q) = zn r from rfl, decide_eq_true hp]; simp
  · rw [if_neg hq]
    unfold zi; rw [rin_c (Or.inr hq), rin_c (Or.inr hq)]; rfl
theorem rin_w (s q : Nat) : zw (rin r p) s q = (zw r s q && !decide (q = p)) := by
  by_cases hq : q = p
  · subst hq
    unfold zw; rw [rin_z]; simp
  · unfold zw; rw [rin_c (Or.inr hq), rin_c (Or.inr hq)]; simp [hq]; rfl
theorem za_first (h : CW T G x r) (hp : zw r s p = true) (h0 : za r s (zc r 5 p) = 0) {q : Nat} (hq : zw r s q = true) (hne : q ≠ p) : zc r 5 p < zc r 5 q := by
  obtain ⟨p1, p2, p3⟩ := zw_d hp
  obtain ⟨q1, q2, q3⟩ := zw_d hq
  apply Nat.lt_of_not_le
  intro hle
  rcases Nat.lt_or_eq_of_le hle with hlt | heq
  · unfold za at h0
    have := List.countP_eq_zero.mp h0 q (List.mem_range.mpr (pq_lt h q1))
    rw [hq, decide_eq_true hlt] at this
    exact this rfl
  · exact hne (h.1.2.2.2.2.1 q p q1 p1 heq q3)
theorem rin_a (h : CW T G x r) (hp : zw r s p = true) (h0 : za r s (zc r 5 p) = 0) {q : Nat} (hq : zw r s q = true) (hne : q ≠ p) : za r s (zc r 5 q) = za (rin r p) s (zc r 5 q) + 1 := by
  have hlt := za_first h hp h0 hq hne
  have hp8 := pq_lt h (zw_d hp).1
  unfold za
  rw [pu_add1 (fun k => zw (rin r p) s k && decide (zc (rin r p) 5 k < zc r 5 q)) (fun k => zw r s k && decide (zc r 5 k < zc r 5 q)) p (by rw [rin_w]; simp) (by rw [hp, decide_eq_true hlt]; rfl) (fun k hk => by rw [rin_w, rin_c (Or.inr hk), decide_eq_false hk]; simp), if_pos hp8]
theorem rin_k (h : CW T G x r) (hp : zw r s p = true) : zk r s = zk (rin r p) s + 1 := by
  have hp8 := pq_lt h (zw_d hp).1
  unfold zk
  rw [pu_add1 (fun k => zw (rin r p) s k) (fun k => zw r s k) p (by rw [rin_w]; simp) hp (fun k hk => by rw [rin_w, decide_eq_false hk]; simp), if_pos hp8]
theorem CW.in (h : CW T G x r) (hs : s < 2) (hp : zw r s p = true) (h0 : za r s (zc r 5 p) = 0) {y : rr_S} (e0 : y.1 0 = (x.2.1 s).1 0 ||| ((1 : Int32) <<< (nI p &&& 31))) (e2 : y.1 2 = nI (zk r s - 1)) (e1 : ∀ j, j < zk r s - 1 → y.2.1 1 j = (x.2.1 s).2.1 1 (j + 1)) : CW T G (cc_kS x s y) (rin r p) := by
  obtain ⟨p1, p2, p3⟩ := zw_d hp
  have hp8 := pq_lt h p1
  have hk := rin_k h hp
  obtain ⟨⟨⟨a1, a2⟩, ⟨a3, a4⟩, ⟨a5, a6⟩, a7, a8, a9⟩, c1, c2, c3, c4, c5⟩ := id h
  refine ⟨⟨⟨a1, a2⟩, ⟨a3, a4⟩, ⟨a5, a6⟩, fun q hq => ?_, fun q q' hq hq' he hpos => ?_, fun b hb => ?_⟩, c1, c2, fun q hq => ?_, fun b hb => ?_, fun s' hs' => ?_⟩
  · have hq : q < zn r := hq
    obtain ⟨d0, d1, d2, d3, d4, d5⟩ := a7 q hq
    rw [rin_c (Or.inl (by decide)), rin_c (Or.inl (by decide)), rin_c (Or.inl (by decide)), rin_c (Or.inl (by decide))]
    refine ⟨fun k hk => ?_, d1, d2, d3, d4, ?_⟩
    · by_cases hkq : k = 5 ∧ q = p
      · obtain ⟨rfl, rfl⟩ := hkq
        left; rw [rin_z, rin_e]; exact pu_0
      · rw [rin_n (by omega), rin_c (by omega)]; exact d0 k hk
    · by_cases hqp : q = p
      · subst hqp; rw [rin_z]; exact Nat.zero_le _
      · rw [rin_c (Or.inr hqp)]; exact d5
  · have hq : q < zn r := hq
    have hq' : q' < zn r := hq'
    by_cases h1 : q = p
    · rw [h1, rin_z] at hpos; omega
    · rw [rin_c (Or.inr h1)] at he hpos
      by_cases h2 : q' = p
      · rw [h2, rin_z] at he; omega
      · rw [rin_c (Or.inr h2)] at he
        exact a8 q q' hq hq' he hpos
  · rw [rin_n (Or.inl (by decide)), rin_n (Or.inl (by decide)), rin_n (Or.inl (by decide)), rin_c (k := 6) (Or.inl (by decide)), rin_c (k := 8) (Or.inl (by decide))]
    rcases a9 b hb with d | ⟨d1, d2, d3, d4⟩
    · exact Or.inl d
    · have hne : zc r 6 b ≠ p := fun e => by rw [e] at d3; omega
      exact Or.inr ⟨d1, d2, by rw [rin_c (Or.inr hne)]; exact d3, d4⟩
  · have hq : q < zn r := hq
    rw [rin_n (Or.inl (by decide)), rin_n (Or.inl (by decide)), rin_n (Or.inl (by decide)), rin_n (Or.inl (by decide))]
    exact c3 q hq
  · rw [rin_n (Or.inl (by decide)), rin_n (Or.inl (by decide)), rin_n (Or.inl (by decide))]
    exact c4 b hb
  · obtain ⟨⟨m, m1, m2, m3⟩, m4, m5, m6⟩ := c5 s' hs'
    by_cases hss : s' = s
    · subst hss
      have e : (cc_kS x s' y).2.1 s' = y := if_pos rfl
      rw [e]
      obtain ⟨k1, k2, k3⟩ := pu_setb m m2 p hp8
      refine ⟨⟨m ||| 2 ^ p, by rw [e0, m1]; exact k1, k2, fun q hq => ?_⟩, by rw [e2, hk]; rfl, fun j hj => ?_, fun q hq => ?_⟩
      · rw [k3 q hq, m3 q hq, rin_i p1]
        by_cases hqp : q = p
        · rw [if_pos hqp, decide_eq_true hqp, p2]; simp
        · rw [if_neg hqp, decide_eq_false hqp, Bool.or_false]
      · obtain ⟨q, q1, q2, q3⟩ := m5 (j + 1) (by omega)
        have hqp : q ≠ p := fun e => by rw [e, h0] at q2; omega
        have ha := rin_a h hp h0 q1 hqp
        refine ⟨q, by rw [rin_w, q1, decide_eq_false hqp]; rfl, by rw [rin_c (Or.inr hqp)]; omega, by rw [e1 j (by omega)]; exact q3⟩
      · rw [rin_w] at hq
        by_cases hqp : q = p
        · rw [decide_eq_true hqp] at hq; simp at hq
        · rw [decide_eq_false hqp] at hq
          have hq : zw r s' q = true := by simpa using hq
          have ha := rin_a h hp h0 hq hqp
          obtain ⟨w1, w2⟩ := m6 q hq
          rw [rin_c (Or.inr hqp)]
          refine ⟨by omega, ?_⟩
          rw [e1 _ (by omega), ← ha]; exact w2
    · have e : (cc_kS x s y).2.1 s' = x.2.1 s' := if_neg hss
      rw [e]
      have hw : ∀ q, zw (rin r p) s' q = zw r s' q := fun q => by
        rw [rin_w]
        by_cases hqp : q = p
        · subst hqp
          have : zw r s' q = false := by unfold zw; rw [decide_eq_false (show ¬ zc r 1 q = s' from fun e => hss (e.symm.trans p2))]; simp
          rw [this, Bool.false_and]
        · rw [decide_eq_false hqp]; simp
      have hzk : zk (rin r p) s' = zk r s' := by unfold zk; exact List.countP_congr (fun k _ => by rw [hw])
      have hq5 : ∀ q, zw r s' q = true → zc (rin r p) 5 q = zc r 5 q := fun q hq => by
        refine rin_c (Or.inr (fun e => ?_))
        subst e
        exact hss ((zw_d hq).2.1.symm.trans p2)
      have hza : ∀ o, za (rin r p) s' o = za r s' o := fun o => by
        unfold za
        refine List.countP_congr (fun k _ => ?_)
        rw [hw]
        by_cases hk : zw r s' k = true
        · rw [hq5 k hk]
        · rw [Bool.not_eq_true] at hk; rw [hk, Bool.false_and, Bool.false_and]
      rw [hzk]
      refine ⟨⟨m, m1, m2, fun q hq => ?_⟩, m4, fun j hj => ?_, fun q hq => ?_⟩
      · rw [m3 q hq, rin_i p1]
        by_cases hqp : q = p
        · subst hqp
          rw [if_pos rfl]
          unfold zi
          rw [decide_eq_false (show ¬ zc r 1 q = s' from fun e => hss (e.symm.trans p2))]; simp
        · rw [if_neg hqp]
      · obtain ⟨q, q1, q2, q3⟩ := m5 j hj
        exact ⟨q, by rw [hw]; exact q1, by rw [hza, hq5 q q1]; exact q2, q3⟩
      · rw [hw] at hq
        rw [hza, hq5 q hq]; exact m6 q hq
end IN
