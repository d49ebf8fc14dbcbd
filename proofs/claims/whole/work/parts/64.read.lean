/-! the letters read: the reference -/
def LR (m : Nat) (L : Nat → Nat) (r : rr_S) : Prop := m ≤ 80 ∧ r.1 16 = nI m ∧ ∀ k, k < m → r.2.1 12 k = nI (L k) ∧ L k < 256
/-- what reading changes -/
def FH (n : Nat) (r r' : rr_S) : Prop := (∀ j, j ≠ 17 → r'.1 j = r.1 j) ∧ (∀ j, j ≠ 13 → j ≠ 14 → j ≠ 15 → r'.2.1 j = r.2.1 j) ∧ r'.2.2 = r.2.2 ∧ (∀ i, i < n → r'.2.1 13 i = r.2.1 13 i ∧ r'.2.1 14 i = r.2.1 14 i) ∧ ∀ i, i < 4 * n → r'.2.1 15 i = r.2.1 15 i
theorem FH.rf {n : Nat} {r : rr_S} : FH n r r := ⟨fun _ _ => rfl, fun _ _ _ _ => rfl, rfl, fun _ _ => ⟨rfl, rfl⟩, fun _ _ => rfl⟩
theorem FH.tr {n n' : Nat} {r r' r2 : rr_S} (h : FH n r r') (h2 : FH n' r' r2) (hn : n ≤ n') : FH n r r2 := ⟨fun j hj => (h2.1 j hj).trans (h.1 j hj), fun j a b c => (h2.2.1 j a b c).trans (h.2.1 j a b c), h2.2.2.1.trans h.2.2.1, fun i hi => ⟨(h2.2.2.2.1 i (by omega)).1.trans (h.2.2.2.1 i hi).1, (h2.2.2.2.1 i (by omega)).2.trans (h.2.2.2.1 i hi).2⟩, fun i hi => (h2.2.2.2.2 i (by omega)).trans (h.2.2.2.2 i hi)⟩
theorem LR.fh {n m : Nat} {L : Nat → Nat} {r r' : rr_S} (h : LR m L r) (hF : FH n r r') : LR m L r' := ⟨h.1, (hF.1 16 (by decide)).trans h.2.1, fun k hk => by rw [hF.2.1 12 (by decide) (by decide) (by decide)]; exact h.2.2 k hk⟩
/-- k letters of a statement that begins at s are read -/
def RD (m : Nat) (L : Nat → Nat) (n i s k : Nat) (r0 r : rr_S) : Prop := FH n r0 r ∧ (∀ j, j ≠ 15 → r.2.1 j = r0.2.1 j) ∧ r.1 17 = nI (s + 1 + k) ∧ (∀ q, q < k → r.2.1 15 (4 * n + q) = nI (th_vl i q (L (s + 1 + q)))) ∧ ∀ q, q < k → s + 1 + q < m ∧ th_ft (th_sg i q) (L (s + 1 + q)) = true
/-- letter k doesn't fit -/
def RB (m : Nat) (L : Nat → Nat) (n i s k : Nat) (r0 r : rr_S) : Prop := FH n r0 r ∧ r.1 17 = nI (s + 1 + k) ∧ s + 1 + k ≤ m ∧ (∀ q, q < k → s + 1 + q < m ∧ th_ft (th_sg i q) (L (s + 1 + q)) = true) ∧ (s + 1 + k = m ∨ th_ft (th_sg i k) (L (s + 1 + k)) = false)
theorem th_dig : ∀ v, v < 256 → (th_ft 100 v = true ∧ R_isIn (nI v) 48 57 = some 1 ∧ nI v - 48 = nI (v - 48)) ∨ (th_ft 100 v = false ∧ R_isIn (nI v) 48 57 = some 0) := by decide +kernel
section READ
variable {m n i s k : Nat} {L : Nat → Nat} {r r0 : rr_S}
theorem pr_next1 (h : LR m L r) {c : Nat} (hc : c < m) (e : r.1 17 = nI c) : R_next r = some (nI (L c)) := by
  have := h.1
  unfold R_next
  rw [h.2.1, e, if_neg (nI_ge hc (by omega)), pp_ix_n (by omega) (by decide), pu_c (by omega), (h.2.2 c hc).1]
theorem pr_next0 (h : LR m L r) (e : r.1 17 = nI m) : R_next r = some (-1) := by
  unfold R_next
  rw [h.2.1, e, if_pos (Int32.le_refl _)]
/-- one number more is read -/
theorem RD.put (h : RD m L n i s k r0 r) (hk : k < 4) (hm : s + 1 + k < m) (hft : th_ft (th_sg i k) (L (s + 1 + k)) = true) : RD m L n i s (k + 1) r0 (rr_I (rr_A r 15 (4 * n + k) (nI (th_vl i k (L (s + 1 + k))))) 17 (nI (s + 1 + k + 1))) := by
  obtain ⟨⟨f1, f2, f3, f4, f5⟩, h2, h3, h4, h5⟩ := h
  refine ⟨⟨fun j hj => (rr_In hj).trans (f1 j hj), fun j a b c => (rr_An c).trans (f2 j a b c), f3, fun q hq => ?_, fun q hq => ?_⟩, fun j hj => (rr_An hj).trans (h2 j hj), rr_Ie, fun q hq => ?_, fun q hq => ?_⟩
  · show (rr_A r 15 (4 * n + k) _).2.1 13 q = _ ∧ (rr_A r 15 (4 * n + k) _).2.1 14 q = _
    rw [rr_An (by decide), rr_An (by decide)]; exact f4 q hq
  · show (rr_A r 15 (4 * n + k) _).2.1 15 q = _
    rw [rr_Ap, if_neg (by omega)]; exact f5 q hq
  · show (rr_A r 15 (4 * n + k) _).2.1 15 (4 * n + q) = _
    rw [rr_Ap]
    by_cases hqk : q = k
    · subst hqk; rw [if_pos ⟨rfl, rfl⟩]
    · rw [if_neg (by omega)]; exact h4 q (by omega)
  · by_cases hqk : q = k
    · subst hqk; exact ⟨hm, hft⟩
    · exact h5 q (by omega)
theorem RD.le (h : RD m L n i s k r0 r) (hs : s < m) : s + 1 + k ≤ m := by
  rcases Nat.eq_zero_or_pos k with e | e
  · omega
  · have := (h.2.2.2.2 (k - 1) (by omega)).1
    omega
theorem pr_rd (hL : LR m L r) (h : RD m L n i s k r0 r) (hs : s < m) (hn : n < 40) (hk : k < 4) (hg : th_sg i k = 100) (hv : ∀ v, th_vl i k v = v - 48) : (∃ r', R_readsDigit r (nI (4 * n + k)) = some (1, r') ∧ RD m L n i s (k + 1) r0 r') ∨ (∃ r', R_readsDigit r (nI (4 * n + k)) = some (0, r') ∧ RB m L n i s k r0 r') := by
  have hm80 := hL.1
  have hle := h.le hs
  simp only [R_readsDigit, pp_lj]
  by_cases hc : s + 1 + k < m
  · have e := pr_next1 hL hc h.2.2.1
    rw [e, pp_ob_s]
    rcases th_dig (L (s + 1 + k)) (hL.2.2 _ hc).2 with ⟨t1, t2, t3⟩ | ⟨t1, t2⟩
    · left
      have hp := h.put hk hc (by rw [hg]; exact t1)
      rw [t2, pp_ob_s, if_neg pu_10, pp_ob_s, pp_ix_n (by omega) (by decide), pu_c (by omega), t3]
      rw [hv] at hp
      refine ⟨_, ?_, hp⟩
      show some ((1 : Int32), rr_I (rr_A r 15 (4 * n + k) (nI (L (s + 1 + k) - 48))) 17 (r.1 17 + 1)) = _
      rw [h.2.2.1, pu_i1]
    · right
      rw [t2, pp_ob_s, if_pos rfl]
      exact ⟨r, rfl, h.1, h.2.2.1, hle, h.2.2.2.2, Or.inr (by rw [hg]; exact t1)⟩
  · right
    have hem : s + 1 + k = m := by omega
    rw [pr_next0 hL (by rw [h.2.2.1, hem]), pp_ob_s, show R_isIn (-1) 48 57 = some 0 from by decide +kernel, pp_ob_s, if_pos rfl]
    exact ⟨r, rfl, h.1, h.2.2.1, hle, h.2.2.2.2, Or.inl hem⟩
theorem pr_rk (hL : LR m L r) (h : RD m L n 2 s 1 r0 r) (hs : s < m) (hn : n < 40) : (∃ r', R_readsKind r (nI (4 * n + 1)) = some (1, r') ∧ RD m L n 2 s 2 r0 r') ∨ (∃ r', R_readsKind r (nI (4 * n + 1)) = some (0, r') ∧ RB m L n 2 s 1 r0 r') := by
  have hm80 := hL.1
  have hle := h.le hs
  have bad : ∀ v : Int32, LR m L r → FH n r0 (rr_A r 15 (4 * n + 1) v) := fun v _ => by
    refine h.1.tr (n' := n) ⟨fun _ _ => rfl, fun j _ _ c => rr_An c, rfl, fun q hq => ?_, fun q hq => ?_⟩ (Nat.le_refl _)
    · rw [rr_An (by decide), rr_An (by decide)]; exact ⟨rfl, rfl⟩
    · rw [rr_Ap, if_neg (by omega)]
  simp only [R_readsKind, pp_lj, pp_ix_n (show 4 * n + 1 < 160 by omega) (show 160 < 2 ^ 31 by decide), pu_c (show 4 * n + 1 < 2 ^ 31 by omega)]
  have slot : ∀ v : Int32, (rr_A r 15 (4 * n + 1) v).2.1 15 (4 * n + 1) = v := fun v => by rw [rr_Ap, if_pos ⟨rfl, rfl⟩]
  by_cases hc : s + 1 + 1 < m
  · have e := pr_next1 hL hc h.2.2.1
    obtain ⟨-, t1, t2⟩ := th_kind (L (s + 1 + 1)) (hL.2.2 _ hc).2
    rw [e, pp_ob_s]
    by_cases hf : th_ft 107 (L (s + 1 + 1)) = true
    · left
      obtain ⟨t3, t4⟩ := t1 hf
      have hp := h.put (by decide) hc hf
      rw [t3, pp_ob_s, slot, if_pos (pu_le0.mpr (pu_neg (by omega)))]
      refine ⟨_, ?_, hp⟩
      show some ((1 : Int32), rr_I (rr_A r 15 (4 * n + 1) (nI (th_kd (L (s + 1 + 1))))) 17 (r.1 17 + 1)) = _
      rw [h.2.2.1, pu_i1]
      rfl
    · right
      have hf' : th_ft 107 (L (s + 1 + 1)) = false := Bool.eq_false_iff.mpr hf
      rw [t2 hf', pp_ob_s, slot, if_neg (by decide)]
      exact ⟨_, rfl, bad _ hL, h.2.2.1, hle, h.2.2.2.2, Or.inr hf'⟩
  · right
    have hem : s + 1 + 1 = m := by omega
    rw [pr_next0 hL (by rw [h.2.2.1, hem]), pp_ob_s, show R_kindOf (-1) = some (-1) from by decide +kernel, pp_ob_s, slot, if_neg (by decide)]
    exact ⟨_, rfl, bad _ hL, h.2.2.1, hle, h.2.2.2.2, Or.inl hem⟩
/-- all numbers of a statement -/
theorem pr_all (hL : LR m L r) (h : RD m L n i s 0 r r) (hs : s < m) (hn : n < 40) (hi : th_sh (L s) = i) (h0 : i ≠ 0) : (∃ r', R_readsAll r (nI (L s)) (nI (4 * n)) = some (1, r') ∧ RD m L n i s (th_ln i - 1) r r') ∨ (∃ k r', k < th_ln i - 1 ∧ R_readsAll r (nI (L s)) (nI (4 * n)) = some (0, r') ∧ RB m L n i s k r r') := by
  have q1 : nI (4 * n) + 1 = nI (4 * n + 1) := pu_i1
  have q2 : nI (4 * n) + 2 = nI (4 * n + 2) := by rw [pu_2', nI_add]
  have q3 : nI (4 * n) + 3 = nI (4 * n + 3) := by rw [show (3 : Int32) = nI 3 from by decide +kernel, nI_add]
  have hcase : (L s = 98 ∧ i = 3) ∨ (L s = 103 ∧ i = 3) ∨ (L s = 111 ∧ i = 4) ∨ (L s = 112 ∧ i = 2) := by
    unfold th_sh at hi
    by_cases c1 : L s = 98
    · rw [if_pos c1] at hi; exact Or.inl ⟨c1, hi.symm⟩
    rw [if_neg c1] at hi
    by_cases c2 : L s = 103
    · rw [if_pos c2] at hi; exact Or.inr (Or.inl ⟨c2, hi.symm⟩)
    rw [if_neg c2] at hi
    by_cases c3 : L s = 111
    · rw [if_pos c3] at hi; exact Or.inr (Or.inr (Or.inl ⟨c3, hi.symm⟩))
    rw [if_neg c3] at hi
    by_cases c4 : L s = 112
    · rw [if_pos c4] at hi; exact Or.inr (Or.inr (Or.inr ⟨c4, hi.symm⟩))
    rw [if_neg c4] at hi
    exact absurd hi.symm h0
  simp only [R_readsAll, pp_lj]
  rw [q1, q2, q3]
  have bg : i = 3 → ¬ nI (L s) = 111 → ¬ nI (L s) = 112 → (∃ r', (if nI (L s) = 111 then pp_ob (R_readsDigit r (nI (4 * n))) (fun r4 => pp_bz r4.1 (some (r4.1, r4.2))) else if nI (L s) = 112 then pp_ob (R_readsDigit r (nI (4 * n))) (fun r11 => if r11.1 = 0 then some (0, r11.2) else pp_ob (R_readsKind r11.2 (nI (4 * n + 1))) (fun r19 => if r19.1 = 0 then some (0, r19.2) else pp_ob (R_readsDigit r19.2 (nI (4 * n + 2))) (fun r24 => if r24.1 = 0 then some (0, r24.2) else pp_ob (R_readsDigit r24.2 (nI (4 * n + 3))) (fun r29 => if r29.1 = 0 then some (0, r29.2) else some (1, r29.2))))) else pp_ob (R_readsDigit r (nI (4 * n))) (fun r34 => if r34.1 = 0 then some (0, r34.2) else pp_ob (R_readsDigit r34.2 (nI (4 * n + 1))) (fun r42 => if r42.1 = 0 then some (0, r42.2) else some (1, r42.2)))) = some ((1 : Int32), r') ∧ RD m L n i s (th_ln i - 1) r r') ∨ (∃ k r', k < th_ln i - 1 ∧ (if nI (L s) = 111 then pp_ob (R_readsDigit r (nI (4 * n))) (fun r4 => pp_bz r4.1 (some (r4.1, r4.2))) else if nI (L s) = 112 then pp_ob (R_readsDigit r (nI (4 * n))) (fun r11 => if r11.1 = 0 then some (0, r11.2) else pp_ob (R_readsKind r11.2 (nI (4 * n + 1))) (fun r19 => if r19.1 = 0 then some (0, r19.2) else pp_ob (R_readsDigit r19.2 (nI (4 * n + 2))) (fun r24 => if r24.1 = 0 then some (0, r24.2) else pp_ob (R_readsDigit r24.2 (nI (4 * n + 3))) (fun r29 => if r29.1 = 0 then some (0, r29.2) else some (1, r29.2))))) else pp_ob (R_readsDigit r (nI (4 * n))) (fun r34 => if r34.1 = 0 then some (0, r34.2) else pp_ob (R_readsDigit r34.2 (nI (4 * n + 1))) (fun r42 => if r42.1 = 0 then some (0, r42.2) else some (1, r42.2)))) = some ((0 : Int32), r') ∧ RB m L n i s k r r') := by
    intro hi3 n1 n2
    subst hi3
    rw [if_neg n1, if_neg n2]
    rcases pr_rd hL h hs hn (by decide) (by decide) (fun _ => rfl) with ⟨r1, e1, d1⟩ | ⟨r1, e1, d1⟩
    rotate_left
    · exact Or.inr ⟨0, r1, by decide, (pp_ob_e e1 _).trans (if_pos rfl), d1⟩
    have e1 : R_readsDigit r (nI (4 * n)) = some (1, r1) := e1
    rw [e1, pp_ob_s, if_neg pu_10]
    rcases pr_rd (hL.fh d1.1) d1 hs hn (by decide) (by decide) (fun _ => rfl) with ⟨r2, e2, d2⟩ | ⟨r2, e2, d2⟩
    · exact Or.inl ⟨r2, (pp_ob_e e2 _).trans (if_neg pu_10), d2⟩
    · exact Or.inr ⟨1, r2, by decide, (pp_ob_e e2 _).trans (if_pos rfl), d2⟩
  rcases hcase with ⟨hc, hi3⟩ | ⟨hc, hi3⟩ | ⟨hc, hi3⟩ | ⟨hc, hi3⟩
  · exact bg hi3 (by rw [hc]; decide +kernel) (by rw [hc]; decide +kernel)
  · exact bg hi3 (by rw [hc]; decide +kernel) (by rw [hc]; decide +kernel)
  · subst hi3
    rw [hc, if_pos (show nI 111 = 111 by decide +kernel)]
    rcases pr_rd hL h hs hn (by decide) (by decide) (fun _ => rfl) with ⟨r1, e1, d1⟩ | ⟨r1, e1, d1⟩
    · exact Or.inl ⟨r1, (pp_ob_e e1 _).trans (pp_bz_n (Or.inr rfl) _), d1⟩
    · exact Or.inr ⟨0, r1, by decide, (pp_ob_e e1 _).trans (pp_bz_n (Or.inl rfl) _), d1⟩
  · subst hi3
    rw [hc, if_neg (show ¬ nI 112 = 111 by decide +kernel), if_pos (show nI 112 = 112 by decide +kernel)]
    rcases pr_rd hL h hs hn (by decide) (by decide) (fun _ => rfl) with ⟨r1, e1, d1⟩ | ⟨r1, e1, d1⟩
    rotate_left
    · exact Or.inr ⟨0, r1, by decide, (pp_ob_e e1 _).trans (if_pos rfl), d1⟩
    have e1 : R_readsDigit r (nI (4 * n)) = some (1, r1) := e1
    rw [e1, pp_ob_s, if_neg pu_10]
    rcases pr_rk (hL.fh d1.1) d1 hs hn with ⟨r2, e2, d2⟩ | ⟨r2, e2, d2⟩
    rotate_left
    · exact Or.inr ⟨1, r2, by decide, (pp_ob_e e2 _).trans (if_pos rfl), d2⟩
    rw [e2, pp_ob_s, if_neg pu_10]
    rcases pr_rd (hL.fh d2.1) d2 hs hn (by decide) (by decide) (fun _ => rfl) with ⟨r3, e3, d3⟩ | ⟨r3, e3, d3⟩
    rotate_left
    · exact Or.inr ⟨2, r3, by decide, (pp_ob_e e3 _).trans (if_pos rfl), d3⟩
    rw [e3, pp_ob_s, if_neg pu_10]
    rcases pr_rd (hL.fh d3.1) d3 hs hn (by decide) (by decide) (fun _ => rfl) with ⟨r4, e4, d4⟩ | ⟨r4, e4, d4⟩
    · exact Or.inl ⟨r4, (pp_ob_e e4 _).trans (if_neg pu_10), d4⟩
    · exact Or.inr ⟨3, r4, by decide, (pp_ob_e e4 _).trans (if_pos rfl), d4⟩
end READ
