/-! who goes out -/
def pclr (m p : Nat) : Nat := if m.testBit p then m - 2 ^ p else m
theorem pu_clr : ∀ m, m < 256 → ∀ p, p < 8 → nI m &&& (((1 : Int32) <<< (nI p &&& 31)) ^^^ (-1 : Int32)) = nI (pclr m p) ∧ pclr m p < 256 ∧ ∀ q, q < 8 → (pclr m p).testBit q = (m.testBit q && !decide (q = p)) := by decide +kernel
theorem pu_add1 (f f' : Nat → Bool) (p : Nat) (h1 : f p = false) (h2 : f' p = true) (h3 : ∀ k, k ≠ p → f' k = f k) : ∀ n, (List.range n).countP f' = (List.range n).countP f + if p < n then 1 else 0 := by
  intro n
  induction n with
  | zero => simp
  | succ n ih =>
    rw [pu_cs, pu_cs, ih]
    by_cases hn : n = p
    · subst hn; rw [h1, h2, if_neg (Nat.lt_irrefl _), if_pos (Nat.lt_succ_self _)]; simp
    · rw [h3 n hn]
      have e : (p < n + 1) ↔ (p < n) := ⟨fun h => by omega, fun h => by omega⟩
      simp only [e]; omega
/-- the rows when p has gone -/
def rgo (r : rr_S) (p : Nat) : rr_S := rr_A (rr_I r 11 (r.1 11 + 1)) 5 p (r.1 11 + 1)
section OUT
variable {T G : Nat} {x : cc_CT} {r : rr_S} {p : Nat}
theorem rgo_n {k i : Nat} (h : k ≠ 5 ∨ i ≠ p) : (rgo r p).2.1 k i = r.2.1 k i := by
  unfold rgo; rw [rr_Ap, if_neg (by omega)]; rfl
theorem rgo_e : (rgo r p).2.1 5 p = r.1 11 + 1 := by unfold rgo; rw [rr_Ap, if_pos ⟨rfl, rfl⟩]
theorem rgo_c {k i : Nat} (h : k ≠ 5 ∨ i ≠ p) : zc (rgo r p) k i = zc r k i := by unfold zc; rw [rgo_n h]
theorem rgo_z (h : CW T G x r) (hG : G < 2 ^ 30) : zc (rgo r p) 5 p = zg r + 1 := by
  have := h.1.2.2.1
  unfold zc; rw [rgo_e, this.1, pu_i1]; exact pu_c (by omega)
theorem rgo_g (h : CW T G x r) (hG : G < 2 ^ 30) : (rgo r p).1 11 = nI (zg r + 1) ∧ zg (rgo r p) = zg r + 1 := by
  have := h.1.2.2.1
  have e : (rgo r p).1 11 = nI (zg r + 1) := by
    show (rr_I r 11 (r.1 11 + 1)).1 11 = _
    rw [rr_Ie, this.1, pu_i1]
  exact ⟨e, by show ((rgo r p).1 11).toNatClampNeg = _; rw [e]; exact pu_c (by omega)⟩
theorem rgo_i (h : CW T G x r) (hG : G < 2 ^ 30) (s q : Nat) : zi (rgo r p) s q = (zi r s q && !decide (q = p)) := by
  by_cases hq : q = p
  · subst hq
    unfold zi; rw [rgo_z h hG]; simp
  · unfold zi; rw [rgo_c (Or.inr hq), rgo_c (Or.inr hq)]; simp [hq]; rfl
theorem rgo_w (h : CW T G x r) (hG : G < 2 ^ 30) (hp : p < zn r) (s q : Nat) : zw (rgo r p) s q = if q = p then decide (zc r 1 p = s) else zw r s q := by
  by_cases hq : q = p
  · subst hq
    rw [if_pos rfl]
    unfold zw; rw [rgo_z h hG, rgo_c (Or.inl (by decide)), show zn (rgo r q) = zn r from rfl, decide_eq_true hp]; simp
  · rw [if_neg hq]
    unfold zw; rw [rgo_c (Or.inr hq), rgo_c (Or.inr hq)]; rfl
theorem zw_n (ho : zc r 5 p = 0) (s : Nat) : zw r s p = false := by unfold zw; rw [ho]; simp
theorem rgo_a (h : CW T G x r) (hG : G < 2 ^ 30) (hp : p < zn r) (ho : zc r 5 p = 0) {s o : Nat} (hle : o ≤ zg r + 1) : za (rgo r p) s o = za r s o := by
  unfold za
  refine List.countP_congr (fun k _ => ?_)
  by_cases hk : k = p
  · subst hk
    rw [rgo_z h hG, zw_n ho, decide_eq_false (by omega)]; simp
  · rw [rgo_w h hG hp, if_neg hk, rgo_c (Or.inr hk)]
theorem za_all (h : CW T G x r) {s o : Nat} (ho : zg r < o) : za r s o = zk r s := by
  unfold za zk
  refine List.countP_congr (fun k _ => ?_)
  by_cases hk : k < zn r
  · have := (h.1.2.2.2.1 k hk).2.2.2.2.2
    rw [decide_eq_true (show zc r 5 k < o by omega), Bool.and_true]
  · have : zw r s k = false := by unfold zw; rw [decide_eq_false hk, Bool.false_and]
    rw [this, Bool.false_and]
theorem rgo_k (h : CW T G x r) (hG : G < 2 ^ 30) (hp : p < zn r) (ho : zc r 5 p = 0) (s : Nat) : zk (rgo r p) s = zk r s + if zc r 1 p = s then 1 else 0 := by
  have hp8 := pq_lt h hp
  unfold zk
  by_cases hs : zc r 1 p = s
  · rw [pu_add1 (fun k => zw r s k) (fun k => zw (rgo r p) s k) p (zw_n ho s) (by rw [rgo_w h hG hp, if_pos rfl]; simp [hs]) (fun k hk => by rw [rgo_w h hG hp, if_neg hk]), if_pos hp8, if_pos hs]
  · rw [if_neg hs, Nat.add_zero]
    refine List.countP_congr (fun k _ => ?_)
    rw [rgo_w h hG hp]
    by_cases hk : k = p
    · subst hk; rw [if_pos rfl, zw_n ho]; simp [hs]
    · rw [if_neg hk]
theorem zk_lt (h : CW T G x r) (hG : G < 2 ^ 30) (hp : p < zn r) (ho : zc r 5 p = 0) : zk r (zc r 1 p) < 8 := by
  have e := rgo_k h hG hp ho (zc r 1 p)
  rw [if_pos rfl] at e
  have : zk (rgo r p) (zc r 1 p) ≤ 8 := by unfold zk; exact Nat.le_trans List.countP_le_length (by simp)
  omega
/-- the side when p has gone -/
def ygo (y : rr_S) (p : Nat) : rr_S := rr_I (rr_A (rr_I y 0 ((y.1 0) &&& (((1 : Int32) <<< (nI p &&& 31)) ^^^ (-1 : Int32)))) 1 (Int32.toNatClampNeg (y.1 2)) (nI p)) 2 (y.1 2 + 1)
theorem CW.out (h : CW T G x r) (hG : G < 2 ^ 30) (hp : p < zn r) (ho : zc r 5 p = 0) (hno : ∀ b, b < 6 → r.2.1 6 b ≠ nI p) : CW T (G + 1) (cc_kS x (zc r 1 p) (ygo (x.2.1 (zc r 1 p)) p)) (rgo r p) := by
  have hp8 := pq_lt h hp
  have hk8 := zk_lt h hG hp ho
  have hz5 := rgo_z h hG (p := p)
  obtain ⟨⟨⟨a1, a2⟩, ⟨a3, a4⟩, ⟨a5, a6⟩, a7, a8, a9⟩, c1, c2, c3, c4, c5⟩ := id h
  have hout : ∀ q, q < zn r → zc r 5 q ≤ zg r := fun q hq => (a7 q hq).2.2.2.2.2
  refine ⟨⟨⟨a1, a2⟩, ⟨a3, a4⟩, ⟨by rw [(rgo_g h hG).2]; exact (rgo_g h hG).1, by rw [(rgo_g h hG).2]; omega⟩, fun q hq => ?_, fun q q' hq hq' he hpos => ?_, fun b hb => ?_⟩, c1, c2, fun q hq => ?_, fun b hb => ?_, fun s hs => ?_⟩
  · have hq : q < zn r := hq
    obtain ⟨d0, d1, d2, d3, d4, d5⟩ := a7 q hq
    rw [rgo_c (Or.inl (by decide)), rgo_c (Or.inl (by decide)), rgo_c (Or.inl (by decide)), rgo_c (Or.inl (by decide)), (rgo_g h hG).2]
    refine ⟨fun k hk => ?_, d1, d2, d3, d4, ?_⟩
    · by_cases hkq : k = 5 ∧ q = p
      · obtain ⟨rfl, rfl⟩ := hkq
        left; rw [hz5, rgo_e, a5, pu_i1]
      · rw [rgo_n (by omega), rgo_c (by omega)]; exact d0 k hk
    · by_cases hqp : q = p
      · subst hqp; omega
      · rw [rgo_c (Or.inr hqp)]; omega
  · have hq : q < zn r := hq
    have hq' : q' < zn r := hq'
    by_cases h1 : q = p
    · by_cases h2 : q' = p
      · omega
      · rw [h1, hz5, rgo_c (Or.inr h2)] at he
        have := hout q' hq'; omega
    · rw [rgo_c (Or.inr h1)] at he hpos
      by_cases h2 : q' = p
      · rw [h2, hz5] at he
        have := hout q hq; omega
      · rw [rgo_c (Or.inr h2)] at he
        exact a8 q q' hq hq' he hpos
  · rw [rgo_n (Or.inl (by decide)), rgo_n (Or.inl (by decide)), rgo_n (Or.inl (by decide)), rgo_c (k := 6) (Or.inl (by decide)), rgo_c (k := 8) (Or.inl (by decide))]
    rcases a9 b hb with d | ⟨d1, d2, d3, d4⟩
    · exact Or.inl d
    · have hne : zc r 6 b ≠ p := fun e => hno b hb (by rw [d1, e])
      exact Or.inr ⟨d1, d2, by rw [rgo_c (Or.inr hne)]; exact d3, d4⟩
  · have hq : q < zn r := hq
    rw [rgo_n (Or.inl (by decide)), rgo_n (Or.inl (by decide)), rgo_n (Or.inl (by decide)), rgo_n (Or.inl (by decide))]
    exact c3 q hq
  · rw [rgo_n (Or.inl (by decide)), rgo_n (Or.inl (by decide)), rgo_n (Or.inl (by decide))]
    exact c4 b hb
  · obtain ⟨⟨m, m1, m2, m3⟩, m4, m5, m6⟩ := c5 s hs
    rw [rgo_k h hG hp ho]
    have hza : ∀ q, zw r s q = true → za (rgo r p) s (zc (rgo r p) 5 q) = za r s (zc r 5 q) ∧ q ≠ p := fun q hq => by
      have hqp : q ≠ p := fun e => by rw [e, zw_n ho] at hq; cases hq
      refine ⟨?_, hqp⟩
      rw [rgo_c (Or.inr hqp)]
      refine rgo_a h hG hp ho ?_
      by_cases hqn : q < zn r
      · have := hout q hqn; omega
      · unfold zw at hq; rw [decide_eq_false hqn, Bool.false_and] at hq; cases hq
    by_cases hsp : s = zc r 1 p
    · subst hsp
      rw [if_pos rfl]
      show (∃ m, ((if zc r 1 p = zc r 1 p then ygo (x.2.1 (zc r 1 p)) p else x.2.1 (zc r 1 p)).1 0) = nI m ∧ _) ∧ ((if zc r 1 p = zc r 1 p then ygo (x.2.1 (zc r 1 p)) p else x.2.1 (zc r 1 p)).1 2) = _ ∧ (∀ j, _ → ∃ q, _ ∧ _ ∧ ((if zc r 1 p = zc r 1 p then ygo (x.2.1 (zc r 1 p)) p else x.2.1 (zc r 1 p)).2.1 1 j) = _) ∧ (∀ q, _ → _ ∧ ((if zc r 1 p = zc r 1 p then ygo (x.2.1 (zc r 1 p)) p else x.2.1 (zc r 1 p)).2.1 1 _) = _)
      rw [if_pos rfl]
      obtain ⟨k1, k2, k3⟩ := pu_clr m m2 p hp8
      have hw : ∀ j, (ygo (x.2.1 (zc r 1 p)) p).2.1 1 j = if j = zk r (zc r 1 p) then nI p else (x.2.1 (zc r 1 p)).2.1 1 j := fun j => by
        show upd ((x.2.1 (zc r 1 p)).2.1 1) (Int32.toNatClampNeg ((x.2.1 (zc r 1 p)).1 2)) (nI p) j = _
        rw [m4, pu_c (by omega)]; rfl
      refine ⟨⟨pclr m p, ?_, k2, fun q hq => ?_⟩, ?_, fun j hj => ?_, fun q hq => ?_⟩
      · show (x.2.1 (zc r 1 p)).1 0 &&& _ = _
        rw [m1]; exact k1
      · rw [k3 q hq, m3 q hq, rgo_i h hG]
      · show (x.2.1 (zc r 1 p)).1 2 + 1 = _
        rw [m4, pu_i1]
      · by_cases hj1 : j = zk r (zc r 1 p)
        · refine ⟨p, by rw [rgo_w h hG hp, if_pos rfl]; simp, ?_, by rw [hw, if_pos hj1]⟩
          rw [hz5, rgo_a h hG hp ho (Nat.le_refl _), za_all h (Nat.lt_succ_self _), hj1]
        · obtain ⟨q, q1, q2, q3⟩ := m5 j (by omega)
          obtain ⟨z1, z2⟩ := hza q q1
          exact ⟨q, by rw [rgo_w h hG hp, if_neg z2]; exact q1, by rw [z1]; exact q2, by rw [hw, if_neg hj1]; exact q3⟩
      · rw [rgo_w h hG hp] at hq
        by_cases hqp : q = p
        · subst hqp
          rw [hz5, rgo_a h hG hp ho (Nat.le_refl _), za_all h (Nat.lt_succ_self _), hw, if_pos rfl]
          exact ⟨Nat.lt_succ_self _, rfl⟩
        · rw [if_neg hqp] at hq
          obtain ⟨z1, z2⟩ := hza q hq
          obtain ⟨w1, w2⟩ := m6 q hq
          rw [z1, hw, if_neg (by omega)]
          exact ⟨by omega, w2⟩
    · rw [if_neg (fun e => hsp e.symm), Nat.add_zero]
      have e : (cc_kS x (zc r 1 p) (ygo (x.2.1 (zc r 1 p)) p)).2.1 s = x.2.1 s := if_neg hsp
      rw [e]
      refine ⟨⟨m, m1, m2, fun q hq => ?_⟩, m4, fun j hj => ?_, fun q hq => ?_⟩
      · rw [m3 q hq, rgo_i h hG]
        by_cases hqp : q = p
        · subst hqp
          have : zi r s q = false := by unfold zi; rw [decide_eq_false (show ¬ zc r 1 q = s from fun e => hsp e.symm)]; simp
          rw [this, Bool.false_and]
        · simp [hqp]
      · obtain ⟨q, q1, q2, q3⟩ := m5 j hj
        obtain ⟨z1, z2⟩ := hza q q1
        exact ⟨q, by rw [rgo_w h hG hp, if_neg z2]; exact q1, by rw [z1]; exact q2, q3⟩
      · rw [rgo_w h hG hp] at hq
        by_cases hqp : q = p
        · rw [if_pos hqp] at hq
          exact absurd (of_decide_eq_true hq) (fun e => hsp e.symm)
        · rw [if_neg hqp] at hq
          obtain ⟨z1, z2⟩ := hza q hq
          rw [z1]; exact m6 q hq
end OUT
