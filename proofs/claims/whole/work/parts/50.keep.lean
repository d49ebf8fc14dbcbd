/-! a court becomes like another; the image and what is tried out are kept, and come back -/
def KL (x' x : cc_CT) : Prop := x'.1.1 1 = x.1.1 1 ∧ x'.1.1 7 = x.1.1 7 ∧ (∀ p, p < 8 → x'.2.2 p = x.2.2 p) ∧ (∀ b, b < 6 → x'.1.2.1 4 b = x.1.2.1 4 b ∧ x'.1.2.1 5 b = x.1.2.1 5 b ∧ x'.1.2.1 6 b = x.1.2.1 6 b) ∧ (∀ s, s < 2 → (x'.2.1 s).1 0 = (x.2.1 s).1 0 ∧ (x'.2.1 s).1 2 = (x.2.1 s).1 2 ∧ ∀ j, j < 8 → (x'.2.1 s).2.1 1 j = (x.2.1 s).2.1 1 j)
theorem CW.like {T G : Nat} {x x' : cc_CT} {r : rr_S} (h : CW T G x r) (hk : KL x' x) : CW T G x' r := by
  obtain ⟨hR, c1, c2, c3, c4, c5⟩ := h
  obtain ⟨k1, k2, k3, k4, k5⟩ := hk
  refine ⟨hR, k1.trans c1, k2.trans c2, fun p hp => ?_, fun b hb => ?_, fun s hs => ?_⟩
  · rw [k3 p (by have := hR.1.2; omega)]; exact c3 p hp
  · obtain ⟨e1, e2, e3⟩ := k4 b hb
    rw [e1, e2, e3]; exact c4 b hb
  · obtain ⟨e1, e2, e3⟩ := k5 s hs
    obtain ⟨m1, m4, m5, m6⟩ := c5 s hs
    have hk8 : zk r s ≤ 8 := by unfold zk; exact Nat.le_trans List.countP_le_length (by simp)
    rw [e1, e2]
    refine ⟨m1, m4, fun j hj => ?_, fun p hp => ?_⟩
    · obtain ⟨p, p1, p2, p3⟩ := m5 j hj
      exact ⟨p, p1, p2, by rw [e3 j (by omega)]; exact p3⟩
    · obtain ⟨z1, z2⟩ := m6 p hp
      exact ⟨z1, by rw [e3 _ (by omega)]; exact z2⟩
theorem pu_c0 : Int32.toNatClampNeg (0 : Int32) = 0 := by decide +kernel
theorem pu_c6 : Int32.toNatClampNeg (6 : Int32) = 6 := by decide +kernel
theorem pu_c8 : Int32.toNatClampNeg (8 : Int32) = 8 := by decide +kernel
theorem pu_cp {f g : Nat → Int32} {n j : Nat} (h : j < n) : va_cpy f g 0 0 n j = f j := by
  rw [pk_cpy_in (Nat.zero_le j) (by omega), Nat.zero_add, Nat.sub_zero]
theorem ps_like (y y2 : rr_S) : ∃ y', S_becomeLike y y2 = some y' ∧ y'.1 0 = y2.1 0 ∧ y'.1 2 = y2.1 2 ∧ ∀ j, j < 8 → y'.2.1 1 j = y2.2.1 1 j := by
  simp only [S_becomeLike, pp_lj, pu_c0, pu_c8]
  refine ⟨_, rfl, rfl, rfl, fun j hj => ?_⟩
  show va_cpy (y2.2.1 1) (y.2.1 1) 0 0 8 j = _
  exact pu_cp hj
theorem pk_like (x x2 : cc_CT) : ∃ x', K_becomeLike x x2 = some x' ∧ KL x' x2 := by
  unfold K_becomeLike
  refine pp_one (P := fun i a => a.2 = nI i ∧ ∀ p, p < i → a.1.2.2 p = x2.2.2 p) (Q := fun x' => KL x' x2) 8 ?_ 9 0 (x, 0) 200 (by decide) (by decide) ⟨pu_0, fun p hp => absurd hp (Nat.not_lt_zero p)⟩ (by decide)
  rintro i ⟨xi, ii⟩ hi ⟨e, hp⟩
  have e : ii = nI i := e
  subst e
  by_cases h8 : i = 8
  · left
    subst h8
    obtain ⟨y0, a1, a2, a3, a4⟩ := ps_like (cc_gS (cc_ci xi 1 (x2.1.1 1)) 0) (cc_gS x2 0)
    obtain ⟨y1, b1, b2, b3, b4⟩ := ps_like (cc_gS (cc_kS (cc_ci xi 1 (x2.1.1 1)) 0 y0) 1) (cc_gS x2 1)
    refine ⟨cc_ci (cc_cA (cc_cA (cc_cA (cc_kS (cc_kS (cc_ci xi 1 (x2.1.1 1)) 0 y0) 1 y1) 4 (va_cpy (x2.1.2.1 4) (xi.1.2.1 4) 0 0 6)) 5 (va_cpy (x2.1.2.1 5) (xi.1.2.1 5) 0 0 6)) 6 (va_cpy (x2.1.2.1 6) (xi.1.2.1 6) 0 0 6)) 7 (x2.1.1 7), fun self => ?_, ?_⟩
    · simp only [pp_lj, pu_c0, pu_c6]
      rw [if_pos (show (8 : Int32) ≤ nI 8 by decide +kernel), a1, pp_ob_s, b1]
      rfl
    · refine ⟨rfl, rfl, fun p hp8 => hp p hp8, fun b hb => ⟨pu_cp hb, pu_cp hb, pu_cp hb⟩, fun s hs => ?_⟩
      rcases (show s = 0 ∨ s = 1 by omega) with rfl | rfl
      · exact ⟨a2, a3, a4⟩
      · exact ⟨b2, b3, b4⟩
  · right
    have hi' : i < 8 := by omega
    refine ⟨hi', (cc_kP xi i (x2.2.2 i), nI (i + 1)), fun self => ?_, rfl, fun p hpi => ?_⟩
    · simp only [pp_lj]
      rw [if_neg (by rw [show (8 : Int32) = nI 8 from by decide +kernel]; exact nI_ge hi' (by decide)), pp_ix_n hi' (by decide), pu_c (by omega), pu_i1]
    · show (if p = i then x2.2.2 i else xi.2.2 p) = _
      by_cases hpe : p = i
      · rw [if_pos hpe, hpe]
      · rw [if_neg hpe]; exact hp p (by omega)
/-! rows of the reference, kept and restored -/
def zof (k : Nat) : Nat := if k ≤ 6 then 8 * (k - 1) else 40 + 6 * (k - 6)
def znn (k : Nat) : Nat := if k ≤ 5 then 8 else 6
theorem zof_s {k : Nat} (h1 : 1 ≤ k) : zof k + znn k = zof (k + 1) := by
  unfold zof znn
  by_cases h5 : k ≤ 5
  · rw [if_pos (by omega), if_pos h5, if_pos (by omega)]; omega
  · rw [if_neg h5]
    by_cases h6 : k ≤ 6
    · rw [if_pos h6, if_neg (by omega)]; omega
    · rw [if_neg h6, if_neg (by omega)]; omega
theorem zof_m {a b : Nat} (h : a ≤ b) : zof a ≤ zof b := by
  unfold zof
  by_cases h1 : a ≤ 6
  · rw [if_pos h1]
    by_cases h2 : b ≤ 6
    · rw [if_pos h2]; omega
    · rw [if_neg h2]; omega
  · rw [if_neg h1, if_neg (by omega)]; omega
theorem pr_pass1 {q : rr_S} {k n c : Nat} (hk : k ≠ 19) (h21 : q.1 21 = 1) (h22 : q.1 22 = nI c) (hc : c + n ≤ 130) : ∃ q', R_passes q k n = some q' ∧ (∀ j, j ≠ 22 → q'.1 j = q.1 j) ∧ q'.1 22 = nI (c + n) ∧ (∀ j, j ≠ 19 → q'.2.1 j = q.2.1 j) ∧ (∀ i, i < n → q'.2.1 19 (c + i) = q.2.1 k i) ∧ (∀ i, (i < c ∨ c + n ≤ i) → q'.2.1 19 i = q.2.1 19 i) ∧ q'.2.2 = q.2.2 := by
  unfold R_passes
  refine pp_one (P := fun (i : Nat) (a : rr_S × Int32) => a.2 = nI i ∧ (∀ j, j ≠ 22 → a.1.1 j = q.1 j) ∧ a.1.1 22 = nI (c + i) ∧ (∀ j, j ≠ 19 → a.1.2.1 j = q.2.1 j) ∧ (∀ i', i' < i → a.1.2.1 19 (c + i') = q.2.1 k i') ∧ (∀ i', (i' < c ∨ c + i ≤ i') → a.1.2.1 19 i' = q.2.1 19 i') ∧ a.1.2.2 = q.2.2) (Q := fun (q' : rr_S) => (∀ j, j ≠ 22 → q'.1 j = q.1 j) ∧ q'.1 22 = nI (c + n) ∧ (∀ j, j ≠ 19 → q'.2.1 j = q.2.1 j) ∧ (∀ i, i < n → q'.2.1 19 (c + i) = q.2.1 k i) ∧ (∀ i, (i < c ∨ c + n ≤ i) → q'.2.1 19 i = q.2.1 19 i) ∧ q'.2.2 = q.2.2) n ?_ (n + 1) 0 (q, 0) 200 (by omega) (by omega) ⟨pu_0, fun _ _ => rfl, h22, fun _ _ => rfl, fun i hi => absurd hi (Nat.not_lt_zero i), fun _ _ => rfl, rfl⟩ (by omega)
  rintro i ⟨a, ii⟩ hi ⟨e, h1, h2, h3, h4, h5, h6⟩
  have e : ii = nI i := e
  subst e
  have h1 : ∀ j, j ≠ 22 → a.1 j = q.1 j := h1
  have h2 : a.1 22 = nI (c + i) := h2
  have h3 : ∀ j, j ≠ 19 → a.2.1 j = q.2.1 j := h3
  by_cases hin : i = n
  · left
    subst hin
    exact ⟨a, fun self => if_pos (nI_le (Nat.le_refl _) (by omega)), h1, h2, h3, h4, h5, h6⟩
  · right
    have hi' : i < n := by omega
    have h21' : a.1 21 = 1 := (h1 21 (by decide)).trans h21
    refine ⟨hi', (rr_I (rr_A a 19 (c + i) (a.2.1 k i)) 22 (nI (c + i + 1)), nI (i + 1)), fun self => ?_, rfl, fun j hj => (rr_In hj).trans (h1 j hj), rr_Ie, fun j hj => (rr_An hj).trans (h3 j hj), fun i' hi2 => ?_, fun i' hi2 => ?_, h6⟩
    · simp only [pp_lj]
      rw [if_neg (show ¬ Int32.ofNat n ≤ nI i from nI_ge hi' (by omega)), h21', if_neg pu_10, pp_ix_n hi' (by omega), h2, pp_ix_n (by omega) (by decide), pu_c (by omega), pu_c (by omega)]
      show self (rr_I (rr_A a 19 (c + i) (a.2.1 k i)) 22 (a.1 22 + 1), nI i + 1) = _
      rw [h2, pu_i1, pu_i1]
    · show (rr_A a 19 (c + i) (a.2.1 k i)).2.1 19 (c + i') = _
      rw [rr_Ap]
      by_cases hii : i' = i
      · subst hii; rw [if_pos ⟨rfl, rfl⟩, h3 k hk]
      · rw [if_neg (by omega)]; exact h4 i' (by omega)
    · show (rr_A a 19 (c + i) (a.2.1 k i)).2.1 19 i' = _
      rw [rr_Ap, if_neg (by omega)]; exact h5 i' (by omega)
theorem pr_pass0 {q : rr_S} {k n c : Nat} (hk : k ≠ 19) (h21 : q.1 21 = 0) (h22 : q.1 22 = nI c) (hc : c + n ≤ 130) : ∃ q', R_passes q k n = some q' ∧ (∀ j, j ≠ 22 → q'.1 j = q.1 j) ∧ q'.1 22 = nI (c + n) ∧ (∀ j, j ≠ k → q'.2.1 j = q.2.1 j) ∧ (∀ i, i < n → q'.2.1 k i = q.2.1 19 (c + i)) ∧ q'.2.2 = q.2.2 := by
  unfold R_passes
  refine pp_one (P := fun (i : Nat) (a : rr_S × Int32) => a.2 = nI i ∧ (∀ j, j ≠ 22 → a.1.1 j = q.1 j) ∧ a.1.1 22 = nI (c + i) ∧ (∀ j, j ≠ k → a.1.2.1 j = q.2.1 j) ∧ (∀ i', i' < i → a.1.2.1 k i' = q.2.1 19 (c + i')) ∧ a.1.2.2 = q.2.2) (Q := fun (q' : rr_S) => (∀ j, j ≠ 22 → q'.1 j = q.1 j) ∧ q'.1 22 = nI (c + n) ∧ (∀ j, j ≠ k → q'.2.1 j = q.2.1 j) ∧ (∀ i, i < n → q'.2.1 k i = q.2.1 19 (c + i)) ∧ q'.2.2 = q.2.2) n ?_ (n + 1) 0 (q, 0) 200 (by omega) (by omega) ⟨pu_0, fun _ _ => rfl, h22, fun _ _ => rfl, fun i hi => absurd hi (Nat.not_lt_zero i), rfl⟩ (by omega)
  rintro i ⟨a, ii⟩ hi ⟨e, h1, h2, h3, h4, h6⟩
  have e : ii = nI i := e
  subst e
  have h1 : ∀ j, j ≠ 22 → a.1 j = q.1 j := h1
  have h2 : a.1 22 = nI (c + i) := h2
  have h3 : ∀ j, j ≠ k → a.2.1 j = q.2.1 j := h3
  by_cases hin : i = n
  · left
    subst hin
    exact ⟨a, fun self => if_pos (nI_le (Nat.le_refl _) (by omega)), h1, h2, h3, h4, h6⟩
  · right
    have hi' : i < n := by omega
    have h21' : a.1 21 = 0 := (h1 21 (by decide)).trans h21
    refine ⟨hi', (rr_I (rr_A a k i (a.2.1 19 (c + i))) 22 (nI (c + i + 1)), nI (i + 1)), fun self => ?_, rfl, fun j hj => (rr_In hj).trans (h1 j hj), rr_Ie, fun j hj => (rr_An hj).trans (h3 j hj), fun i' hi2 => ?_, h6⟩
    · simp only [pp_lj]
      rw [if_neg (show ¬ Int32.ofNat n ≤ nI i from nI_ge hi' (by omega)), h21', if_pos rfl, pp_ix_n hi' (by omega), h2, pp_ix_n (by omega) (by decide), pu_c (by omega), pu_c (by omega)]
      show self (rr_I (rr_A a k i (a.2.1 19 (c + i))) 22 (a.1 22 + 1), nI i + 1) = _
      rw [h2, pu_i1, pu_i1]
    · show (rr_A a k i (a.2.1 19 (c + i))).2.1 k i' = _
      rw [rr_Ap]
      by_cases hii : i' = i
      · subst hii; rw [if_pos ⟨rfl, rfl⟩, h3 19 (fun e => hk e.symm)]
      · rw [if_neg (by omega)]; exact h4 i' (by omega)
theorem pr_one1 {q : rr_S} {c : Nat} {v : Int32} (h21 : q.1 21 = 1) (h22 : q.1 22 = nI c) (hc : c < 130) : R_passOne q v = some (v, rr_I (rr_A q 19 c v) 22 (nI (c + 1))) := by
  simp only [R_passOne, pp_lj]
  rw [h21, if_neg pu_10, if_neg pu_10, h22, pp_ix_n hc (by decide), pu_c (by omega)]
  show some (v, rr_I (rr_A q 19 c v) 22 (q.1 22 + 1)) = _
  rw [h22, pu_i1]
theorem pr_one0 {q : rr_S} {c : Nat} {v : Int32} (h21 : q.1 21 = 0) (h22 : q.1 22 = nI c) (hc : c < 130) : R_passOne q v = some (q.2.1 19 c, rr_I q 22 (nI (c + 1))) := by
  simp only [R_passOne, pp_lj]
  rw [h21, if_pos rfl, if_pos rfl, h22, pp_ix_n hc (by decide), pu_c (by omega), pu_i1]
/-- the first rows are kept -/
def KP (q0 q : rr_S) (w K : Nat) : Prop := (∀ j, j ≠ 22 → q.1 j = q0.1 j) ∧ q.1 22 = nI (w + zof K) ∧ (∀ j, j ≠ 19 → q.2.1 j = q0.2.1 j) ∧ (∀ k i, 1 ≤ k → k < K → i < znn k → q.2.1 19 (w + zof k + i) = q0.2.1 k i) ∧ (∀ i, i < w ∨ w + zof K ≤ i → q.2.1 19 i = q0.2.1 19 i) ∧ q.2.2 = q0.2.2
theorem KP.step {q0 q : rr_S} {w K : Nat} (h : KP q0 q w K) (h1 : 1 ≤ K) (h8 : K ≤ 8) (hw : w + 61 ≤ 130) (h21 : q0.1 21 = 1) : ∃ q', R_passes q K (znn K) = some q' ∧ KP q0 q' w (K + 1) := by
  obtain ⟨a1, a2, a3, a4, a5, a6⟩ := h
  have hz := zof_s h1
  have hz9 : zof (K + 1) ≤ 58 := zof_m (show K + 1 ≤ 9 by omega)
  obtain ⟨q', e, b1, b2, b3, b4, b5, b6⟩ := pr_pass1 (q := q) (k := K) (n := znn K) (c := w + zof K) (by omega) ((a1 21 (by decide)).trans h21) a2 (by omega)
  refine ⟨q', e, fun j hj => (b1 j hj).trans (a1 j hj), by rw [b2, Nat.add_assoc, hz], fun j hj => (b3 j hj).trans (a3 j hj), fun k i k1 kK hi => ?_, fun i hi => ?_, b6.trans a6⟩
  · by_cases hk : k = K
    · subst hk; rw [b4 i hi, a3 k (by omega)]
    · have := zof_s k1
      have := zof_m (show k + 1 ≤ K by omega)
      rw [b5 _ (Or.inl (by omega)), a4 k i k1 (by omega) hi]
  · rw [b5 i (by omega)]; exact a5 i (by omega)
/-- the first rows are restored -/
def RP (q0 q : rr_S) (w K : Nat) : Prop := (∀ j, j ≠ 22 → q.1 j = q0.1 j) ∧ q.1 22 = nI (w + zof K) ∧ (∀ j, j < 1 ∨ K ≤ j → q.2.1 j = q0.2.1 j) ∧ (∀ k i, 1 ≤ k → k < K → i < znn k → q.2.1 k i = q0.2.1 19 (w + zof k + i)) ∧ q.2.2 = q0.2.2
theorem RP.step {q0 q : rr_S} {w K : Nat} (h : RP q0 q w K) (h1 : 1 ≤ K) (h8 : K ≤ 8) (hw : w + 61 ≤ 130) (h21 : q0.1 21 = 0) : ∃ q', R_passes q K (znn K) = some q' ∧ RP q0 q' w (K + 1) := by
  obtain ⟨a1, a2, a3, a4, a6⟩ := h
  have hz := zof_s h1
  have hz9 : zof (K + 1) ≤ 58 := zof_m (show K + 1 ≤ 9 by omega)
  obtain ⟨q', e, b1, b2, b3, b4, b6⟩ := pr_pass0 (q := q) (k := K) (n := znn K) (c := w + zof K) (by omega) ((a1 21 (by decide)).trans h21) a2 (by omega)
  refine ⟨q', e, fun j hj => (b1 j hj).trans (a1 j hj), by rw [b2, Nat.add_assoc, hz], fun j hj => (b3 j (by omega)).trans (a3 j (by omega)), fun k i k1 kK hi => ?_, b6.trans a6⟩
  by_cases hk : k = K
  · subst hk; rw [b4 i hi, a3 19 (by omega)]
  · rw [b3 k hk, a4 k i k1 (by omega) hi]
/-- all is kept at w -/
def KF (w : Nat) (r r' : rr_S) : Prop := (∀ j, j ≠ 21 → j ≠ 22 → r'.1 j = r.1 j) ∧ (∀ j, j ≠ 19 → r'.2.1 j = r.2.1 j) ∧ r'.2.2 = r.2.2 ∧ (∀ i, i < w ∨ w + 61 ≤ i → r'.2.1 19 i = r.2.1 19 i) ∧ (∀ k i, 1 ≤ k → k ≤ 8 → i < znn k → r'.2.1 19 (w + zof k + i) = r.2.1 k i) ∧ r'.2.1 19 (w + 58) = r.1 9 ∧ r'.2.1 19 (w + 59) = r.1 10 ∧ r'.2.1 19 (w + 60) = r.1 11
/-- all comes back from w -/
def RF (w : Nat) (r r' : rr_S) : Prop := (∀ j, j ≠ 9 → j ≠ 10 → j ≠ 11 → j ≠ 21 → j ≠ 22 → r'.1 j = r.1 j) ∧ (∀ j, j < 1 ∨ 9 ≤ j → r'.2.1 j = r.2.1 j) ∧ r'.2.2 = r.2.2 ∧ (∀ k i, 1 ≤ k → k ≤ 8 → i < znn k → r'.2.1 k i = r.2.1 19 (w + zof k + i)) ∧ r'.1 9 = r.2.1 19 (w + 58) ∧ r'.1 10 = r.2.1 19 (w + 59) ∧ r'.1 11 = r.2.1 19 (w + 60)
theorem pr_keep (r : rr_S) {v : Int32} {w : Nat} (hv : (v = 0 ∧ w = 0) ∨ (v = 1 ∧ w = 65)) : ∃ r', R_passesAll r v 1 = some r' ∧ KF w r r' := by
  have hw : w + 61 ≤ 130 := by omega
  have e65 : (65 : Int32) * v = nI w := by rcases hv with ⟨rfl, rfl⟩ | ⟨rfl, rfl⟩ <;> decide +kernel
  simp only [R_passesAll, pp_lj]
  rw [pp_bz_n (Or.inr rfl), e65]
  have h0 : KP (rr_I (rr_I r 22 (nI w)) 21 1) (rr_I (rr_I r 22 (nI w)) 21 1) w 1 := ⟨fun _ _ => rfl, by show nI w = _; rfl, fun _ _ => rfl, fun k i a b => absurd b (by omega), fun _ _ => rfl, rfl⟩
  generalize hq0 : rr_I (rr_I r 22 (nI w)) 21 1 = q0 at h0 ⊢
  have h21 : q0.1 21 = 1 := by rw [← hq0]; rfl
  have hi0 : ∀ j, j ≠ 21 → j ≠ 22 → q0.1 j = r.1 j := fun j a b => by rw [← hq0]; exact (rr_In a).trans (rr_In b)
  have ha0 : q0.2 = r.2 := by rw [← hq0]; rfl
  obtain ⟨q1, e1, h1⟩ := h0.step (by decide) (by decide) hw h21
  obtain ⟨q2, e2, h2⟩ := h1.step (by decide) (by decide) hw h21
  obtain ⟨q3, e3, h3⟩ := h2.step (by decide) (by decide) hw h21
  obtain ⟨q4, e4, h4⟩ := h3.step (by decide) (by decide) hw h21
  obtain ⟨q5, e5, h5⟩ := h4.step (by decide) (by decide) hw h21
  obtain ⟨q6, e6, h6⟩ := h5.step (by decide) (by decide) hw h21
  obtain ⟨q7, e7, h7⟩ := h6.step (by decide) (by decide) hw h21
  obtain ⟨q8, e8, h8⟩ := h7.step (by decide) (by decide) hw h21
  have e1 : R_passes q0 1 8 = some q1 := e1
  have e2 : R_passes q1 2 8 = some q2 := e2
  have e3 : R_passes q2 3 8 = some q3 := e3
  have e4 : R_passes q3 4 8 = some q4 := e4
  have e5 : R_passes q4 5 8 = some q5 := e5
  have e6 : R_passes q5 6 6 = some q6 := e6
  have e7 : R_passes q6 7 6 = some q7 := e7
  have e8 : R_passes q7 8 6 = some q8 := e8
  obtain ⟨a1, a2, a3, a4, a5, a6⟩ := h8
  have a2 : q8.1 22 = nI (w + 58) := a2
  have a5 : ∀ i, i < w ∨ w + 58 ≤ i → q8.2.1 19 i = q0.2.1 19 i := a5
  have t21 : q8.1 21 = 1 := (a1 21 (by decide)).trans h21
  have f1 := pr_one1 (q := q8) (v := q8.1 9) t21 a2 (by omega)
  have f2 := pr_one1 (q := rr_I (rr_I (rr_A q8 19 (w + 58) (q8.1 9)) 22 (nI (w + 58 + 1))) 9 (q8.1 9)) (c := w + 59) (v := q8.1 10) t21 rfl (by omega)
  have f3 := pr_one1 (q := rr_I (rr_I (rr_A (rr_I (rr_I (rr_A q8 19 (w + 58) (q8.1 9)) 22 (nI (w + 58 + 1))) 9 (q8.1 9)) 19 (w + 59) (q8.1 10)) 22 (nI (w + 59 + 1))) 10 (q8.1 10)) (c := w + 60) (v := q8.1 11) t21 rfl (by omega)
  rw [e1, pp_ob_s, e2, pp_ob_s, e3, pp_ob_s, e4, pp_ob_s, e5, pp_ob_s, e6, pp_ob_s, e7, pp_ob_s, e8, pp_ob_s, f1, pp_ob_s]
  refine ⟨_, (pp_ob_e f2 _).trans ((pp_ob_e f3 _).trans rfl), fun j j1 j2 => ?_, fun j hj => ?_, ?_, fun i hi => ?_, fun k i k1 k8 hi => ?_, ?_, ?_, ?_⟩
  · have g : q8.1 j = r.1 j := (a1 j j2).trans (hi0 j j1 j2)
    by_cases c11 : j = 11
    · subst c11; exact g
    by_cases c10 : j = 10
    · subst c10; exact g
    by_cases c9 : j = 9
    · subst c9; exact g
    exact (rr_In c11).trans ((rr_In j2).trans ((rr_In c10).trans ((rr_In j2).trans ((rr_In c9).trans ((rr_In j2).trans g)))))
  · exact (rr_An hj).trans ((rr_An hj).trans ((rr_An hj).trans ((a3 j hj).trans (by rw [ha0]))))
  · exact a6.trans (by rw [ha0])
  · refine (rr_Ap.trans (if_neg (by omega))).trans ((rr_Ap.trans (if_neg (by omega))).trans ((rr_Ap.trans (if_neg (by omega))).trans ?_))
    rw [a5 i (by omega), ha0]
  · have := zof_s k1
    have z9 : zof (k + 1) ≤ 58 := zof_m (show k + 1 ≤ 9 by omega)
    refine (rr_Ap.trans (if_neg (by omega))).trans ((rr_Ap.trans (if_neg (by omega))).trans ((rr_Ap.trans (if_neg (by omega))).trans ?_))
    rw [a4 k i k1 (by omega) hi, ha0]
  · refine (rr_Ap.trans (if_neg (by omega))).trans ((rr_Ap.trans (if_neg (by omega))).trans ((rr_Ap.trans (if_pos ⟨rfl, rfl⟩)).trans ?_))
    exact (a1 9 (by decide)).trans (hi0 9 (by decide) (by decide))
  · refine (rr_Ap.trans (if_neg (by omega))).trans ((rr_Ap.trans (if_pos ⟨rfl, rfl⟩)).trans ?_)
    exact (a1 10 (by decide)).trans (hi0 10 (by decide) (by decide))
  · refine (rr_Ap.trans (if_pos ⟨rfl, rfl⟩)).trans ?_
    exact (a1 11 (by decide)).trans (hi0 11 (by decide) (by decide))
theorem pr_back (r : rr_S) {v : Int32} {w : Nat} (hv : (v = 0 ∧ w = 0) ∨ (v = 1 ∧ w = 65)) : ∃ r', R_passesAll r v 0 = some r' ∧ RF w r r' := by
  have hw : w + 61 ≤ 130 := by omega
  have e65 : (65 : Int32) * v = nI w := by rcases hv with ⟨rfl, rfl⟩ | ⟨rfl, rfl⟩ <;> decide +kernel
  simp only [R_passesAll, pp_lj]
  rw [pp_bz_n (Or.inl rfl), e65]
  have h0 : RP (rr_I (rr_I r 22 (nI w)) 21 0) (rr_I (rr_I r 22 (nI w)) 21 0) w 1 := ⟨fun _ _ => rfl, by show nI w = _; rfl, fun _ _ => rfl, fun k i a b => absurd b (by omega), rfl⟩
  generalize hq0 : rr_I (rr_I r 22 (nI w)) 21 0 = q0 at h0 ⊢
  have h21 : q0.1 21 = 0 := by rw [← hq0]; rfl
  have hi0 : ∀ j, j ≠ 21 → j ≠ 22 → q0.1 j = r.1 j := fun j a b => by rw [← hq0]; exact (rr_In a).trans (rr_In b)
  have ha0 : q0.2 = r.2 := by rw [← hq0]; rfl
  obtain ⟨q1, e1, h1⟩ := h0.step (by decide) (by decide) hw h21
  obtain ⟨q2, e2, h2⟩ := h1.step (by decide) (by decide) hw h21
  obtain ⟨q3, e3, h3⟩ := h2.step (by decide) (by decide) hw h21
  obtain ⟨q4, e4, h4⟩ := h3.step (by decide) (by decide) hw h21
  obtain ⟨q5, e5, h5⟩ := h4.step (by decide) (by decide) hw h21
  obtain ⟨q6, e6, h6⟩ := h5.step (by decide) (by decide) hw h21
  obtain ⟨q7, e7, h7⟩ := h6.step (by decide) (by decide) hw h21
  obtain ⟨q8, e8, h8⟩ := h7.step (by decide) (by decide) hw h21
  have e1 : R_passes q0 1 8 = some q1 := e1
  have e2 : R_passes q1 2 8 = some q2 := e2
  have e3 : R_passes q2 3 8 = some q3 := e3
  have e4 : R_passes q3 4 8 = some q4 := e4
  have e5 : R_passes q4 5 8 = some q5 := e5
  have e6 : R_passes q5 6 6 = some q6 := e6
  have e7 : R_passes q6 7 6 = some q7 := e7
  have e8 : R_passes q7 8 6 = some q8 := e8
  obtain ⟨a1, a2, a3, a4, a6⟩ := h8
  have a2 : q8.1 22 = nI (w + 58) := a2
  have t21 : q8.1 21 = 0 := (a1 21 (by decide)).trans h21
  have hr19 : q8.2.1 19 = r.2.1 19 := (a3 19 (by decide)).trans (by rw [ha0])
  have f1 := pr_one0 (q := q8) (v := q8.1 9) t21 a2 (by omega)
  have f2 := pr_one0 (q := rr_I (rr_I q8 22 (nI (w + 58 + 1))) 9 (q8.2.1 19 (w + 58))) (c := w + 59) (v := q8.1 10) t21 rfl (by omega)
  have f3 := pr_one0 (q := rr_I (rr_I (rr_I (rr_I q8 22 (nI (w + 58 + 1))) 9 (q8.2.1 19 (w + 58))) 22 (nI (w + 59 + 1))) 10 (q8.2.1 19 (w + 59))) (c := w + 60) (v := q8.1 11) t21 rfl (by omega)
  rw [e1, pp_ob_s, e2, pp_ob_s, e3, pp_ob_s, e4, pp_ob_s, e5, pp_ob_s, e6, pp_ob_s, e7, pp_ob_s, e8, pp_ob_s, f1, pp_ob_s]
  refine ⟨_, (pp_ob_e f2 _).trans ((pp_ob_e f3 _).trans rfl), fun j c9 c10 c11 j1 j2 => ?_, fun j hj => ?_, ?_, fun k i k1 k8 hi => ?_, ?_, ?_, ?_⟩
  · exact (rr_In c11).trans ((rr_In j2).trans ((rr_In c10).trans ((rr_In j2).trans ((rr_In c9).trans ((rr_In j2).trans ((a1 j j2).trans (hi0 j j1 j2)))))))
  · exact (a3 j (by omega)).trans (by rw [ha0])
  · exact a6.trans (by rw [ha0])
  · exact (a4 k i k1 (by omega) hi).trans (by rw [ha0])
  · show q8.2.1 19 (w + 58) = _
    rw [hr19]
  · show q8.2.1 19 (w + 59) = _
    rw [hr19]
  · show q8.2.1 19 (w + 60) = _
    rw [hr19]
