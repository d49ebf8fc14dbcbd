theorem pp_run {σ β : Type} {F : (σ → Option β) → σ → Option β} {res : Option β} (P : Nat → σ → Prop) (n : Nat) (h : ∀ i a, i < n → P i a → ∃ a', (∀ self, F self a = self a') ∧ P (i + 1) a') (hend : ∀ a, P n a → ∀ self, F self a = res) : ∀ (k i : Nat) (a : σ) (f : Nat), n < i + k → i ≤ n → P i a → k ≤ f → pp_it F f a = res := by
  intro k
  induction k with
  | zero => intro i a f h1 h2; omega
  | succ k ih =>
    intro i a f h1 h2 hP hf
    obtain ⟨f, rfl⟩ : ∃ z, f = z + 1 := ⟨f - 1, by omega⟩
    by_cases hi : i = n
    · subst hi; exact hend a hP _
    · obtain ⟨a', e, hP'⟩ := h i a (by omega) hP
      exact (e _).trans (ih (i + 1) a' f (by omega) (by omega) hP' (by omega))
theorem zc31 {r : rr_S} {k p : Nat} : zc r k p < 2 ^ 31 := by
  show (r.2.1 k p).toNatClampNeg < 2 ^ 31
  have h1 := (r.2.1 k p).toInt_lt
  have h2 : (r.2.1 k p).toNatClampNeg = (r.2.1 k p).toInt.toNat := rfl
  omega
/-- how many wait ahead, as the reference counts them -/
theorem pq_ahead {T G : Nat} {x : cc_CT} {r : rr_S} (h : CW T G x r) {s p : Nat} (hs : s < 2) (hp : p < zn r) {β : Type} (tail : Int32 → Option β) : pp_it (fun (self12 : Int32 × Int32 → Option β) (a12 : Int32 × Int32) => (if (r.1 9) ≤ a12.2 then tail a12.1 else pp_ix a12.2 8 ((if (r.2.1 1 (Int32.toNatClampNeg a12.2)) = nI s then (if (r.2.1 5 (Int32.toNatClampNeg a12.2)) ≤ (0 : Int32) then self12 (a12.1 + 0, a12.2 + 1) else pp_ix (nI p) 8 ((if (r.2.1 5 (Int32.toNatClampNeg (nI p))) ≤ (r.2.1 5 (Int32.toNatClampNeg a12.2)) then self12 (a12.1 + 0, a12.2 + 1) else self12 (a12.1 + 1, a12.2 + 1)))) else self12 (a12.1 + 0, a12.2 + 1))))) 200 ((0 : Int32), (0 : Int32)) = tail (nI (za r s (zc r 5 p))) := by
  obtain ⟨⟨hn, hn8⟩, -⟩ := h.1
  have hp8 := pq_lt h hp
  have f5 := (pq_row h hp).2.2.2.2
  refine pp_run (P := fun i a => a = (nI ((List.range i).countP (fun k => zw r s k && decide (zc r 5 k < zc r 5 p))), nI i)) (zn r) ?_ ?_ 9 0 (0, 0) 200 (by omega) (by omega) rfl (by decide)
  · rintro i a hi rfl
    have hi8 : i < 8 := by omega
    obtain ⟨e1, e2, e3, e4, e5⟩ := pq_row h hi
    have l1 := (h.1.2.2.2.1 i hi).2.1
    have hzw : zw r s i = (decide (zc r 1 i = s) && decide (0 < zc r 5 i)) := by unfold zw; rw [decide_eq_true hi, Bool.true_and]
    refine ⟨_, fun self => ?_, rfl⟩
    rw [pu_cs, hzw]
    show (if r.1 9 ≤ nI i then _ else _) = _
    rw [hn, if_neg (nI_ge hi (by omega)), pp_ix_n hi8 (by decide)]
    simp only [pu_c (show i < 2 ^ 31 by omega), pu_c (show p < 2 ^ 31 by omega), pp_ix_n hp8 (show 8 < 2 ^ 31 by decide), pu_i1, Int32.add_zero]
    by_cases h1 : zc r 1 i = s
    rotate_left
    · rw [if_neg (by rw [e1]; exact pu_ne (by omega) (by omega) h1), decide_eq_false h1]; simp
    rw [if_pos (by rw [e1, h1])]
    by_cases h5 : zc r 5 i = 0
    · rw [if_pos (by rw [e5, h5]; decide +kernel), h5]; simp
    rw [if_neg (by rw [e5, pu_0]; exact nI_ge (by omega) zc31), f5, e5]
    by_cases hle : zc r 5 p ≤ zc r 5 i
    · rw [if_pos ((nI_leI zc31 zc31).mpr hle), decide_eq_false (show ¬ zc r 5 i < zc r 5 p by omega)]; simp
    · rw [if_neg (fun h => hle ((nI_leI zc31 zc31).mp h)), decide_eq_true h1, decide_eq_true (show 0 < zc r 5 i by omega), decide_eq_true (show zc r 5 i < zc r 5 p by omega)]; rfl
  · rintro a rfl self
    show (if r.1 9 ≤ nI (zn r) then _ else _) = _
    rw [if_pos (by rw [hn]; exact (nI_leI (by omega) (by omega)).mpr (Nat.le_refl _))]
    unfold za
    rw [pu_cn (fun k => zw r s k && decide (zc r 5 k < zc r 5 p)) hn8 (fun k hk => by unfold zw; rw [decide_eq_false (show ¬ k < zn r by omega), Bool.false_and, Bool.false_and])]
