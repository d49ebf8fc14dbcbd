theorem ps_first {y : rr_S} {w p : Nat} (hw : y.1 2 = nI w) (h8 : w ≤ 8) (h1 : 1 ≤ w) (hp : y.2.1 1 0 = nI p) : ∃ y', S_letFirstIn y = some y' ∧ y'.1 0 = y.1 0 ||| ((1 : Int32) <<< (nI p &&& 31)) ∧ y'.1 2 = nI (w - 1) ∧ ∀ j, j < w - 1 → y'.2.1 1 j = y.2.1 1 (j + 1) := by
  have e1 : (1 : Int32) = nI 1 := by decide +kernel
  have c0 : Int32.toNatClampNeg (0 : Int32) = 0 := by decide +kernel
  have key := pp_one (F := fun (self7 : rr_S × Int32 → Option rr_S) (a7 : rr_S × Int32) => (if (a7.1.1 2) ≤ a7.2 then pp_lj (rr_I a7.1 2 ((a7.1.1 2) - (1 : Int32)) : rr_S) (fun x10 => some x10) else pp_ix a7.2 8 (pp_ix (a7.2 - (1 : Int32)) 8 (pp_lj (rr_A a7.1 1 (Int32.toNatClampNeg (a7.2 - (1 : Int32))) (a7.1.2.1 1 (Int32.toNatClampNeg a7.2)) : rr_S) (fun x17 => pp_lj (a7.2 + 1 : Int32) (fun x19 => self7 (x17, x19)))))))
    (P := fun i a => 1 ≤ i ∧ ∃ yi, a = (yi, nI i) ∧ yi.1 = (rr_I y 0 ((y.1 0) ||| ((1 : Int32) <<< (nI p &&& 31)))).1 ∧ ∀ j, yi.2.1 1 j = if j + 1 < i then y.2.1 1 (j + 1) else y.2.1 1 j)
    (Q := fun y' => y'.1 0 = y.1 0 ||| ((1 : Int32) <<< (nI p &&& 31)) ∧ y'.1 2 = nI (w - 1) ∧ ∀ j, j < w - 1 → y'.2.1 1 j = y.2.1 1 (j + 1)) w ?_ 9 1 (rr_I y 0 ((y.1 0) ||| ((1 : Int32) <<< (nI p &&& 31))), 1) 200 (by omega) h1 ⟨Nat.le_refl 1, _, by rw [e1], rfl, fun j => by rw [if_neg (by omega)]; rfl⟩ (by decide)
  · obtain ⟨y', e, q⟩ := key
    refine ⟨y', ?_, q⟩
    simp only [S_letFirstIn, S_letIn, pp_lj]
    rw [hw, if_pos (by rw [e1]; exact (nI_leI (by decide) (by omega)).mpr h1), c0, hp, pp_ob_s]
    unfold pp_ix
    rw [if_neg (by decide +kernel)]
    exact e
  · rintro i a hi ⟨hi1, yi, rfl, hq, hrow⟩
    have h2 : yi.1 2 = nI w := by rw [hq]; exact hw
    by_cases hin : i = w
    · left
      subst hin
      refine ⟨rr_I yi 2 (yi.1 2 - 1), fun self => if_pos (by show yi.1 2 ≤ nI i; rw [h2]; exact (nI_leI (by omega) (by omega)).mpr (Nat.le_refl _)), ?_, ?_, fun j hj => ?_⟩
      · show yi.1 0 = _
        rw [hq]; rfl
      · show yi.1 2 - 1 = _
        obtain ⟨k, rfl⟩ : ∃ k, i = k + 1 := ⟨i - 1, by omega⟩
        rw [h2, ← pu_i1, Int32.add_sub_cancel]; rfl
      · show yi.2.1 1 j = _
        rw [hrow, if_pos (by omega)]
    · right
      have hi' : i < w := by omega
      obtain ⟨k, rfl⟩ : ∃ k, i = k + 1 := ⟨i - 1, by omega⟩
      have em : nI (k + 1) - 1 = nI k := by rw [← pu_i1, Int32.add_sub_cancel]
      refine ⟨hi', (rr_A yi 1 k (yi.2.1 1 (k + 1)), nI (k + 1 + 1)), fun self => ?_, by omega, _, rfl, hq, fun j => ?_⟩
      · simp only [pp_lj]
        rw [h2, if_neg (nI_ge hi' (by omega)), em, pp_ix_n (by omega) (by decide), pp_ix_n (by omega) (by decide), pu_c (by omega), pu_c (by omega), pu_i1]
      · rw [rr_Ap]
        by_cases hj : j = k
        · subst hj
          rw [if_pos ⟨rfl, rfl⟩, if_pos (by omega), hrow, if_neg (by omega)]
        · rw [if_neg (fun h => hj h.2), hrow]
          by_cases hjk : j + 1 < k + 1
          · rw [if_pos hjk, if_pos (by omega)]
          · rw [if_neg hjk, if_neg (by omega)]
theorem ps_first0 {y : rr_S} (hw : y.1 2 = nI 0) : S_letFirstIn y = some y := by
  unfold S_letFirstIn; rw [hw, if_neg (by decide +kernel)]
section END
variable {T G : Nat} {x : cc_CT} {r : rr_S} {p s : Nat}
/-- the first who waits comes in -/
theorem pi_in (h : CW T G x r) (hs : s < 2) : ∃ y' r', S_letFirstIn (x.2.1 s) = some y' ∧ (∀ (β : Type) (k : rr_S → Option β), pp_ob (R_longest r (nI s)) (fun b => if b < 0 then k r else pp_ix b 8 (k (rr_A r 5 (Int32.toNatClampNeg b) 0))) = k r') ∧ CW T G (cc_kS x s y') r' ∧ FR r r' ∧ r'.1 = r.1 ∧ (∀ k q, k ≠ 5 → r'.2.1 k q = r.2.1 k q) ∧ (∀ q, zc r 5 q = 0 → zc r' 5 q = 0) := by
  have hw := (h.2.2.2.2.2 s hs).2.1
  have hk8 : zk r s ≤ 8 := by unfold zk; exact Nat.le_trans List.countP_le_length (by simp)
  rcases pq_long h hs with ⟨e, h0⟩ | ⟨p, e, hp, h0⟩
  · refine ⟨x.2.1 s, r, ps_first0 (by rw [hw, h0]), fun β k => ?_, ?_, FR.rf r, rfl, fun _ _ _ => rfl, fun _ h => h⟩
    · rw [e, pp_ob_s, if_pos (by decide)]
    · have := cc_kgS x s
      unfold cc_gS at this
      rw [this]; exact h
  · have hp8 := pq_lt h (zw_d hp).1
    obtain ⟨z1, z2⟩ := (h.2.2.2.2.2 s hs).2.2.2 p hp
    rw [h0] at z1 z2
    obtain ⟨y', f0, f1, f2, f3⟩ := ps_first hw hk8 (by omega) z2
    refine ⟨y', rin r p, f0, fun β k => ?_, h.in hs hp h0 f1 f2 f3, FR.A (by decide) (by decide), rfl, fun k q hk => rin_n (Or.inl hk), fun q hq => ?_⟩
    · rw [e, pp_ob_s, if_neg (pu_neg (by omega)), pp_ix_n hp8 (by decide), pu_c (by omega)]; rfl
    · by_cases hqp : q = p
      · subst hqp; exact rin_z
      · rw [rin_c (Or.inr hqp)]; exact hq
end END
