/-! queries of both sides, one beside the other -/
theorem pu_c {n : Nat} (h : n < 2 ^ 31) : (nI n).toNatClampNeg = n := nI_clamp h
theorem pu_10 : ¬ (1 : Int32) = 0 := by decide
theorem pu_01 : ¬ (0 : Int32) = 1 := by decide
theorem pu_bit : ∀ m, m < 256 → ∀ p, p < 8 → ((nI m >>> (nI p &&& 31)) &&& 1) = if m.testBit p then (1 : Int32) else 0 := by decide +kernel
theorem pu_or (a b : Nat) : nI a ||| nI b = nI (a ||| b) := by
  apply Int32.toBitVec_inj.mp
  show BitVec.ofNat 32 a ||| BitVec.ofNat 32 b = BitVec.ofNat 32 (a ||| b)
  apply BitVec.eq_of_toNat_eq
  simp [Nat.or_mod_two_pow]
section PQ
variable {T G : Nat} {x : cc_CT} {r : rr_S}
theorem pq_pl (h : CW T G x r) (v : Int32) : (∃ p, p < zn r ∧ v = nI p ∧ R_isPlayer r v = some 1 ∧ K_isPlayer x v = some 1) ∨ (R_isPlayer r v = some 0 ∧ K_isPlayer x v = some 0 ∧ ∀ p, p < zn r → v ≠ nI p) := by
  obtain ⟨⟨⟨hn, hn8⟩, -⟩, hx, -⟩ := h
  simp only [R_isPlayer, K_isPlayer, pp_lj]
  rcases pu_int v with hv | ⟨k, rfl, hk⟩
  · right
    refine ⟨if_pos hv, if_pos hv, fun p hp he => pu_neg (a := p) (by omega) (he ▸ hv)⟩
  · rw [hx, hn, if_neg (pu_neg hk), if_neg (pu_neg hk), pu_8]
    by_cases h1 : nI (zn r) ≤ nI k
    · have h2 := (nI_leI (by omega) hk).mp h1
      right
      refine ⟨if_pos h1, if_pos h1, fun p hp he => ?_⟩
      have := (nI_eq hk (by omega)).mp he
      omega
    · have h2 : ¬ zn r ≤ k := fun h => h1 ((nI_leI (by omega) hk).mpr h)
      left
      refine ⟨k, by omega, rfl, if_neg h1, ?_⟩
      rw [if_neg h1, if_neg (fun h => by have := (nI_leI (by omega) hk).mp h; omega)]
theorem pq_plY (h : CW T G x r) {p : Nat} (hp : p < zn r) : R_isPlayer r (nI p) = some 1 ∧ K_isPlayer x (nI p) = some 1 := by
  rcases pq_pl h (nI p) with ⟨k, -, -, a, b⟩ | ⟨-, -, hne⟩
  · exact ⟨a, b⟩
  · exact absurd rfl (hne p hp)
theorem pq_lt (h : CW T G x r) {p : Nat} (hp : p < zn r) : p < 8 := Nat.lt_of_lt_of_le hp h.1.1.2
theorem pq_row (h : CW T G x r) {p : Nat} (hp : p < zn r) : r.2.1 1 p = nI (zc r 1 p) ∧ r.2.1 2 p = nI (zc r 2 p) ∧ r.2.1 3 p = nI (zc r 3 p) ∧ r.2.1 4 p = nI (zc r 4 p) ∧ r.2.1 5 p = nI (zc r 5 p) := by
  have h1 := (h.1.2.2.2.1 p hp).1
  exact ⟨(h1 1 (by decide)).resolve_right (by decide), (h1 2 (by decide)).resolve_right (by decide), (h1 3 (by decide)).resolve_right (by decide), (h1 4 (by decide)).resolve_right (by decide), (h1 5 (by decide)).resolve_right (by decide)⟩
theorem pq_bit (h : CW T G x r) {p : Nat} (hp : p < zn r) : ((((cc_gS x 0).1 0) ||| ((cc_gS x 1).1 0)) >>> (nI p &&& 31)) &&& (1 : Int32) = if zc r 5 p = 0 then 1 else 0 := by
  obtain ⟨m0, e0, l0, b0⟩ := (h.2.2.2.2.2 0 (by decide)).1
  obtain ⟨m1, e1, l1, b1⟩ := (h.2.2.2.2.2 1 (by decide)).1
  have hp8 := pq_lt h hp
  have hs := (h.1.2.2.2.1 p hp).2.1
  show ((((x.2.1 0).1 0) ||| ((x.2.1 1).1 0)) >>> (nI p &&& 31)) &&& (1 : Int32) = _
  rw [e0, e1, pu_or, pu_bit _ (Nat.or_lt_two_pow (n := 8) l0 l1) p hp8, Nat.testBit_or, b0 p hp8, b1 p hp8]
  unfold zi
  rw [decide_eq_true hp]
  by_cases ho : zc r 5 p = 0
  · rcases (show zc r 1 p = 0 ∨ zc r 1 p = 1 by omega) with h1 | h1 <;> simp [h1, ho]
  · simp [ho]
theorem pq_in (h : CW T G x r) {p : Nat} (hp : p < zn r) : R_isHere r (nI p) = some (if zc r 5 p = 0 then 1 else 0) ∧ K_isIn x (nI p) = some (if zc r 5 p = 0 then 1 else 0) := by
  obtain ⟨h1, h2⟩ := pq_plY h hp
  have hp8 := pq_lt h hp
  have h5 := (pq_row h hp).2.2.2.2
  have hb := (h.1.2.2.2.1 p hp).2.2.2.2.2
  constructor
  · simp only [R_isHere, pp_lj]
    rw [h1, pp_ob_s, if_neg pu_10, pp_ix_n hp8 (by decide), pu_c (by omega), h5]
    by_cases ho : zc r 5 p = 0
    · rw [if_pos ho, ho, if_pos (by decide +kernel)]
    · rw [if_neg ho, if_neg]
      intro he
      apply ho
      have h6 : zc r 5 p = (r.2.1 5 p).toNatClampNeg := rfl
      rw [h6, h5, he]; decide +kernel
  · simp only [K_isIn, pp_lj, K_inBits]
    rw [h2, pp_ob_s, if_neg pu_10, pp_ob_s, pq_bit h hp]
    by_cases ho : zc r 5 p = 0
    · rw [if_pos ho, if_pos rfl]
    · rw [if_neg ho, if_neg pu_01]
theorem pq_inN (h : CW T G x r) {v : Int32} (hv : ∀ p, p < zn r → v ≠ nI p) : R_isHere r v = some 0 ∧ K_isIn x v = some 0 := by
  rcases pq_pl h v with ⟨p, hp, e, -, -⟩ | ⟨a, b, -⟩
  · exact absurd e (hv p hp)
  · constructor
    · simp only [R_isHere, pp_lj]; rw [a, pp_ob_s, if_pos rfl]
    · simp only [K_isIn, pp_lj]; rw [b, pp_ob_s, if_pos rfl]
theorem pq_side (h : CW T G x r) {p : Nat} (hp : p < zn r) : K_sideOf x (nI p) = some (r.2.1 1 p) := by
  have hp8 := pq_lt h hp
  unfold K_sideOf
  rw [(pq_plY h hp).2, pp_ob_s, if_neg pu_10, pp_ix_n hp8 (by decide), pu_c (by omega), (h.2.2.2.1 p hp).2.2.1]
theorem pq_kind (h : CW T G x r) {p : Nat} (hp : p < zn r) : K_kindOf x (nI p) = some (r.2.1 2 p) := by
  have hp8 := pq_lt h hp
  unfold K_kindOf
  rw [(pq_plY h hp).2, pp_ob_s, if_neg pu_10, pp_ix_n hp8 (by decide), pu_c (by omega), (h.2.2.2.1 p hp).2.1]
/-- who is against whom -/
theorem pq_ag (h : CW T G x r) (v w : Int32) : (∃ p p', p < zn r ∧ p' < zn r ∧ v = nI p ∧ w = nI p' ∧ zc r 5 p = 0 ∧ zc r 5 p' = 0 ∧ zc r 1 p ≠ zc r 1 p' ∧ R_areAgainst r v w = some 1 ∧ K_areOpposed x v w = some 1) ∨ (R_areAgainst r v w = some 0 ∧ K_areOpposed x v w = some 0) := by
  simp only [R_areAgainst, K_areOpposed, pp_lj]
  rcases pq_pl h v with ⟨p, hp, rfl, -, -⟩ | ⟨-, -, hne⟩
  rotate_left
  · right
    obtain ⟨a, b⟩ := pq_inN h hne
    rw [a, b, pp_ob_s, pp_ob_s, if_pos rfl, if_pos rfl]; exact ⟨rfl, rfl⟩
  obtain ⟨a, b⟩ := pq_in h hp
  by_cases ho : zc r 5 p = 0
  rotate_left
  · right
    rw [a, b, if_neg ho, pp_ob_s, pp_ob_s, if_pos rfl, if_pos rfl]; exact ⟨rfl, rfl⟩
  rw [a, b, if_pos ho, pp_ob_s, pp_ob_s, if_neg pu_10, if_neg pu_10]
  rcases pq_pl h w with ⟨p', hp', rfl, -, -⟩ | ⟨-, -, hne⟩
  rotate_left
  · right
    obtain ⟨a, b⟩ := pq_inN h hne
    rw [a, b, pp_ob_s, pp_ob_s, if_pos rfl, if_pos rfl]; exact ⟨rfl, rfl⟩
  obtain ⟨a', b'⟩ := pq_in h hp'
  by_cases ho' : zc r 5 p' = 0
  rotate_left
  · right
    rw [a', b', if_neg ho', pp_ob_s, pp_ob_s, if_pos rfl, if_pos rfl]; exact ⟨rfl, rfl⟩
  have hp8 := pq_lt h hp
  have hp8' := pq_lt h hp'
  rw [a', b', if_pos ho', pp_ob_s, pp_ob_s, if_neg pu_10, if_neg pu_10]
  rw [pq_side h hp, pq_side h hp', pp_ob_s, pp_ob_s, pp_ix_n hp8 (by decide), pp_ix_n hp8' (by decide), pu_c (by omega), pu_c (by omega)]
  have hs := (pq_row h hp).1
  have hs' := (pq_row h hp').1
  have l1 := (h.1.2.2.2.1 p hp).2.1
  have l2 := (h.1.2.2.2.1 p' hp').2.1
  by_cases he : zc r 1 p = zc r 1 p'
  · right
    rw [hs, hs', he, if_pos rfl]; exact ⟨rfl, rfl⟩
  · left
    refine ⟨p, p', hp, hp', rfl, rfl, ho, ho', he, ?_, ?_⟩ <;> rw [hs, hs', if_neg (fun e => he ((nI_eq (by omega) (by omega)).mp e))]
end PQ
