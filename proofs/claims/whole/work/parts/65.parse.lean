/-! the letters of a hall: both sides go through them (the loops' texts as wip/whole/gen_hall.py cuts them) -/
noncomputable def hF2 : (rr_S × Int32 → Option (Int32 × rr_S)) → rr_S × Int32 → Option (Int32 × rr_S) := (fun (self15 : rr_S × Int32 → Option (Int32 × rr_S)) (a15 : rr_S × Int32) => (if (a15.1.1 18) ≤ a15.2 then some ((a15.1.1 18), a15.1) else pp_ob (R_comes a15.1 a15.2) (fun r19 => (if r19.1 = (0 : Int32) then pp_ob (R_passesAll r19.2 (1 : Int32) (0 : Int32)) (fun r23 => pp_ix a15.2 40 (some (((-2000 : Int32) - (r23.2.1 14 (Int32.toNatClampNeg a15.2))), r23))) else pp_lj (a15.2 + 1 : Int32) (fun x28 => self15 (r19.2, x28))))))
noncomputable def hF1 : (rr_S × Int32 → Option (Int32 × rr_S)) → rr_S × Int32 → Option (Int32 × rr_S) := (fun (self5 : rr_S × Int32 → Option (Int32 × rr_S)) (a5 : rr_S × Int32) => pp_lj (fun (a6 : Unit) => (pp_lj (rr_I a5.1 16 (0 : Int32) : rr_S) (fun x9 => (if a5.2 = (0 : Int32) then some (((-1000 : Int32) - (x9.1 17)), x9) else pp_ob (R_passesAll x9 (1 : Int32) (1 : Int32)) (fun r13 => pp_it hF2 200 (r13, (0 : Int32))))) : Option (Int32 × rr_S))) (fun j6 => (if a5.2 = (0 : Int32) then j6 () else pp_lj (fun (a34 : Unit) => (pp_ob (R_statement a5.1) (fun r37 => pp_lj (fun (a39 : Int32) => (pp_lj (rr_I r37.2 18 ((r37.2.1 18) + a39) : rr_S) (fun x42 => self5 (x42, r37.1)) : Option (Int32 × rr_S))) (fun j39 => (if r37.1 = (0 : Int32) then j39 (0 : Int32) else j39 (1 : Int32)))) : Option (Int32 × rr_S))) (fun j34 => (if (a5.1.1 17) < (a5.1.1 16) then j34 () else (if (a5.1.1 18) = (0 : Int32) then j34 () else j6 ()))))))
theorem hF_eq (q : rr_S) : R_hall q = pp_it hF1 200 (rr_I (rr_I q 17 0) 18 0, (1 : Int32)) := by
  unfold R_hall
  rw [pp_lj_eq, pp_lj_eq]
  rfl
noncomputable def uF (x : rr_S) : (Nat × Int32 × Int32 → Option Int32) → Nat × Int32 × Int32 → Option Int32 := (fun (self1 : Nat × Int32 × Int32 → Option Int32) (a1 : Nat × Int32 × Int32) => (if (x.1 1) ≤ a1.2.2 then pp_lj (fun (a4 : Unit) => (some (x.1 1) : Option Int32)) (fun j4 => (if (x.1 1) = (0 : Int32) then j4 () else pp_l5 a1.1 (pp_ob (z_J0_length_8abf5 a1.1) (fun r10 => (if r10 ≤ a1.2.1 then some (-9 : Int32) else j4 ()))))) else pp_l5 a1.1 (pp_ob (z_J0_length_8abf5 a1.1) (fun r18 => pp_lj (fun (a22 : Nat × Int32) => (pp_lj (a1.2.2 + 1 : Int32) (fun x25 => self1 (a22.1, a22.2, x25)) : Option Int32)) (fun j22 => (if r18 ≤ a1.2.1 then pp_ob (T_letterAt x a1.2.2) (fun r29 => pp_ob (z_X7_shapeBehind r29) (fun r31 => pp_l5 r31 (pp_ob (z_J0_isEmpty_aae02 r31) (fun r33 => (if r33 = (0 : Int32) then j22 (r31, (0 : Int32)) else some a1.2.2))))) else pp_ob (z_J0_charAt_5068e a1.1 a1.2.1) (fun r41 => pp_ob (T_letterAt x a1.2.2) (fun r43 => pp_ob (z_X7_fits r41 r43) (fun r45 => (if r45 = (0 : Int32) then some a1.2.2 else pp_lj (a1.2.1 + 1 : Int32) (fun x49 => j22 (a1.1, x49))))))))))))
theorem uF_eq (x : rr_S) : T_unfitLetter x = pp_it (uF x) 200 (0, (0 : Int32), (0 : Int32)) := rfl
theorem th_len : ∀ i, i < 5 → i ≠ 1 → z_J0_length_8abf5 i = some (nI (th_ln i)) := by decide +kernel
theorem th_emp : ∀ i, i < 5 → z_J0_isEmpty_aae02 i = some (if i = 0 then 1 else 0) := by decide +kernel
theorem th_chr : ∀ i, i < 5 → 2 ≤ i → ∀ k, k < 5 → k < th_ln i → z_J0_charAt_5068e i (nI k) = some (nI (th_sg i k)) := by decide +kernel
theorem th_fit : ∀ v, v < 256 → z_X7_fits (nI 100) (nI v) = some (if th_ft 100 v then 1 else 0) ∧ z_X7_fits (nI 107) (nI v) = some (if th_ft 107 v then 1 else 0) ∧ z_X7_fits (nI 59) (nI v) = some (if th_ft 59 v then 1 else 0) := by decide +kernel
theorem th_bhd : ∀ v, v < 256 → z_X7_shapeBehind (nI v) = some (th_sh v) := by decide +kernel
theorem th_shc (v : Nat) : th_sh v = 0 ∨ th_sh v = 2 ∨ th_sh v = 3 ∨ th_sh v = 4 := by
  unfold th_sh
  by_cases c1 : v = 98
  · rw [if_pos c1]; omega
  rw [if_neg c1]
  by_cases c2 : v = 103
  · rw [if_pos c2]; omega
  rw [if_neg c2]
  by_cases c3 : v = 111
  · rw [if_pos c3]; omega
  rw [if_neg c3]
  by_cases c4 : v = 112
  · rw [if_pos c4]; omega
  rw [if_neg c4]; omega
theorem th_lnc {i : Nat} (h : i = 2 ∨ i = 3 ∨ i = 4) : 2 ≤ th_ln i ∧ th_ln i ≤ 5 := by
  rcases h with rfl | rfl | rfl <;> decide
theorem th_sgc (i k : Nat) : th_sg i k = 100 ∨ th_sg i k = 107 ∨ th_sg i k = 59 := by
  unfold th_sg
  by_cases h1 : k + 1 = th_ln i
  · rw [if_pos h1]; omega
  · rw [if_neg h1]
    by_cases h2 : i = 2 ∧ k = 1
    · rw [if_pos h2]; omega
    · rw [if_neg h2]; omega
theorem th_fits {v i k : Nat} (hv : v < 256) : z_X7_fits (nI (th_sg i k)) (nI v) = some (if th_ft (th_sg i k) v then 1 else 0) := by
  obtain ⟨h1, h2, h3⟩ := th_fit v hv
  rcases th_sgc i k with e | e | e <;> rw [e]
  · exact h1
  · exact h2
  · exact h3
theorem pp_l5_n {β : Type} {n : Nat} (h : n < 5) (a : Option β) : pp_l5 n a = a := by unfold pp_l5; rw [if_pos h]
section UF
variable {m s i k : Nat} {L : Nat → Nat} {t : rr_S} {self : Nat × Int32 × Int32 → Option Int32}
theorem uF_new (h : TL m L t) (hs : s < m) (hi : i = 0 ∨ i = 2 ∨ i = 3 ∨ i = 4) : uF t self (i, nI (th_ln i), nI s) = if th_sh (L s) = 0 then some (nI s) else self (th_sh (L s), 0, nI (s + 1)) := by
  have hm := h.1
  have hc := th_shc (L s)
  simp only [uF, pp_lj]
  rw [h.2.1, if_neg (nI_ge hs (by omega)), pp_l5_n (by omega), th_len i (by omega) (by omega), pp_ob_s, if_pos (Int32.le_refl _), pt_letter h hs, pp_ob_s, th_bhd _ (h.2.2 s hs).2, pp_ob_s, pp_l5_n (by omega), th_emp _ (by omega), pp_ob_s, pu_i1]
  by_cases h0 : th_sh (L s) = 0
  · rw [if_pos h0, if_neg pu_10, if_pos h0]
  · rw [if_neg h0, if_pos rfl, if_neg h0]
theorem uF_at (h : TL m L t) (hs : s < m) (hi : i = 2 ∨ i = 3 ∨ i = 4) (hk : k < th_ln i) : uF t self (i, nI k, nI s) = if th_ft (th_sg i k) (L s) then self (i, nI (k + 1), nI (s + 1)) else some (nI s) := by
  have hm := h.1
  have hl := th_lnc hi
  simp only [uF, pp_lj]
  rw [h.2.1, if_neg (nI_ge hs (by omega)), pp_l5_n (by omega), th_len i (by omega) (by omega), pp_ob_s, if_neg (nI_ge hk (by omega)), th_chr i (by omega) (by omega) k (by omega) hk, pp_ob_s, pt_letter h hs, pp_ob_s, th_fits (h.2.2 s hs).2, pp_ob_s, pu_i1, pu_i1]
  by_cases hf : th_ft (th_sg i k) (L s) = true
  · rw [if_pos hf, if_neg pu_10, if_pos hf]
  · rw [if_neg hf, if_pos rfl, if_neg hf]
theorem uF_out (h : TL m L t) (hi : i = 2 ∨ i = 3 ∨ i = 4) (hk : k < th_ln i) : uF t self (i, nI k, nI m) = some (nI m) := by
  have hm := h.1
  have hl := th_lnc hi
  simp only [uF, pp_lj]
  rw [h.2.1, if_pos (Int32.le_refl _), pp_l5_n (by omega), th_len i (by omega) (by omega), pp_ob_s, if_neg (nI_ge hk (by omega))]
  by_cases h0 : nI m = 0
  · rw [if_pos h0]
  · rw [if_neg h0]
theorem uF_0 (h : TL 0 L t) {p : Nat × Int32} : uF t self (p.1, p.2, nI 0) = some (nI 0) := by
  simp only [uF, pp_lj]
  rw [h.2.1, if_pos (Int32.le_refl _), if_pos nI_0]
theorem uF_end (h : TL m L t) (h0 : 0 < m) (hi : i = 2 ∨ i = 3 ∨ i = 4) : uF t self (i, nI (th_ln i), nI m) = some (-9) := by
  have hm := h.1
  simp only [uF, pp_lj]
  rw [h.2.1, if_pos (Int32.le_refl _), if_neg (nI_ne0 h0 (by omega)), pp_l5_n (by omega), th_len i (by omega) (by omega), pp_ob_s, if_pos (Int32.le_refl _)]
theorem uF_run (h : TL m L t) (hi : i = 2 ∨ i = 3 ∨ i = 4) : ∀ k, k ≤ th_ln i → (∀ q, q < k → s + 1 + q < m ∧ th_ft (th_sg i q) (L (s + 1 + q)) = true) → ∀ f, pp_it (uF t) (f + k) (i, 0, nI (s + 1)) = pp_it (uF t) f (i, nI k, nI (s + 1 + k)) := by
  intro k
  induction k with
  | zero => intro _ _ f; rfl
  | succ k ih =>
    intro hk hq f
    obtain ⟨g1, g2⟩ := hq k (Nat.lt_succ_self k)
    have e : f + (k + 1) = f + 1 + k := by omega
    rw [e, ih (by omega) (fun q hqk => hq q (by omega)) (f + 1), pp_it_s, uF_at h g1 hi (by omega), if_pos g2]
    rfl
end UF
/-- the first letter that doesn't fit, of a statement that begins at s -/
def BAD (m : Nat) (L : Nat → Nat) (s e : Nat) : Prop := (e = s ∧ (s = m ∨ s < m ∧ th_sh (L s) = 0)) ∨ (s < m ∧ th_sh (L s) ≠ 0 ∧ ∃ k, k < th_ln (th_sh (L s)) ∧ e = s + 1 + k ∧ e ≤ m ∧ (∀ q, q < k → s + 1 + q < m ∧ th_ft (th_sg (th_sh (L s)) q) (L (s + 1 + q)) = true) ∧ (e = m ∨ th_ft (th_sg (th_sh (L s)) k) (L e) = false))
theorem pr_stat {m n s : Nat} {L : Nat → Nat} {r : rr_S} (hL : LR m L r) (h17 : r.1 17 = nI s) (hsm : s ≤ m) (h18 : r.1 18 = nI n) (hn : n < 40) : (∃ r' e, R_statement r = some (0, r') ∧ FH n r r' ∧ r'.1 17 = nI e ∧ BAD m L s e) ∨ (∃ r' e, R_statement r = some (1, r') ∧ FH n r r' ∧ r'.1 17 = nI e ∧ SI L m r' n s e) := by
  have hm80 := hL.1
  simp only [R_statement, pp_lj]
  by_cases hs : s < m
  rotate_left
  · left
    have hem : s = m := by omega
    rw [pr_next0 hL (by rw [h17, hem]), pp_ob_s, if_neg (by decide), if_neg (by decide), if_neg (by decide), if_neg (by decide)]
    exact ⟨r, s, rfl, FH.rf, h17, Or.inl ⟨rfl, Or.inl hem⟩⟩
  obtain ⟨l1, l2⟩ := hL.2.2 s hs
  rw [pr_next1 hL hs h17, pp_ob_s]
  have hJ : ∀ (A B : Option (Int32 × rr_S)), (if nI (L s) = 112 then A else if nI (L s) = 98 then A else if nI (L s) = 103 then A else if nI (L s) = 111 then A else B) = if th_sh (L s) = 0 then B else A := fun A B => by
    have e : ∀ v, v < 256 → (nI v = 112 ↔ v = 112) ∧ (nI v = 98 ↔ v = 98) ∧ (nI v = 103 ↔ v = 103) ∧ (nI v = 111 ↔ v = 111) := by decide +kernel
    obtain ⟨e1, e2, e3, e4⟩ := e (L s) l2
    unfold th_sh
    by_cases c1 : L s = 112
    · rw [if_pos (e1.mpr c1), c1]; rfl
    rw [if_neg (fun h => c1 (e1.mp h))]
    by_cases c2 : L s = 98
    · rw [if_pos (e2.mpr c2), c2]; rfl
    rw [if_neg (fun h => c2 (e2.mp h))]
    by_cases c3 : L s = 103
    · rw [if_pos (e3.mpr c3), c3]; rfl
    rw [if_neg (fun h => c3 (e3.mp h))]
    by_cases c4 : L s = 111
    · rw [if_pos (e4.mpr c4), c4]; rfl
    rw [if_neg (fun h => c4 (e4.mp h)), if_neg c2, if_neg c3, if_neg c4, if_neg c1]; rfl
  rw [hJ]
  by_cases h0 : th_sh (L s) = 0
  · left
    rw [if_pos h0]
    exact ⟨r, s, rfl, FH.rf, h17, Or.inl ⟨rfl, Or.inr ⟨hs, h0⟩⟩⟩
  rw [if_neg h0]
  have hi := (th_shc (L s)).resolve_left h0
  have hln := th_lnc hi
  have hF0 : FH n r (rr_I (rr_A (rr_A r 13 n (nI (L s))) 14 n (nI s)) 17 (nI (s + 1))) := by
    refine ⟨fun j hj => rr_In hj, fun j a b _ => (rr_An b).trans (rr_An a), rfl, fun q hq => ?_, fun q hq => ?_⟩
    · show (rr_A (rr_A r 13 n (nI (L s))) 14 n (nI s)).2.1 13 q = _ ∧ (rr_A (rr_A r 13 n (nI (L s))) 14 n (nI s)).2.1 14 q = _
      rw [rr_Ap, if_neg (by omega), rr_Ap, if_neg (by omega), rr_Ap, if_neg (by omega), rr_Ap, if_neg (by omega)]; exact ⟨rfl, rfl⟩
    · show (rr_A (rr_A r 13 n (nI (L s))) 14 n (nI s)).2.1 15 q = _
      rw [rr_Ap, if_neg (by omega), rr_Ap, if_neg (by omega)]
  have c13 : (rr_I (rr_A (rr_A r 13 n (nI (L s))) 14 n (nI s)) 17 (nI (s + 1))).2.1 13 n = nI (L s) := by
    show (rr_A (rr_A r 13 n (nI (L s))) 14 n (nI s)).2.1 13 n = _
    rw [rr_Ap, if_neg (by omega), rr_Ap, if_pos ⟨rfl, rfl⟩]
  have c14 : (rr_I (rr_A (rr_A r 13 n (nI (L s))) 14 n (nI s)) 17 (nI (s + 1))).2.1 14 n = nI s := by
    show (rr_A (rr_A r 13 n (nI (L s))) 14 n (nI s)).2.1 14 n = _
    rw [rr_Ap, if_pos ⟨rfl, rfl⟩]
  have eq0 : rr_I (rr_A (rr_A r 13 n (nI (L s))) 14 n ((rr_A r 13 n (nI (L s))).1 17)) 17 ((rr_A (rr_A r 13 n (nI (L s))) 14 n ((rr_A r 13 n (nI (L s))).1 17)).1 17 + 1) = rr_I (rr_A (rr_A r 13 n (nI (L s))) 14 n (nI s)) 17 (nI (s + 1)) := by
    show rr_I (rr_A (rr_A r 13 n (nI (L s))) 14 n (r.1 17)) 17 (r.1 17 + 1) = _
    rw [h17, pu_i1]
  have e18 : (rr_A r 13 n (nI (L s))).1 18 = nI n := h18
  rw [h18, pp_ix_n hn (by decide), pu_c (by omega), e18, pp_ix_n hn (by decide), pu_c (by omega), eq0]
  have k18 : (4 : Int32) * ((rr_I (rr_A (rr_A r 13 n (nI (L s))) 14 n (nI s)) 17 (nI (s + 1))).1 18) = nI (4 * n) := by
    have e : (rr_I (rr_A (rr_A r 13 n (nI (L s))) 14 n (nI s)) 17 (nI (s + 1))).1 18 = nI n := h18
    have e4 : ∀ j, j < 40 → (4 : Int32) * nI j = nI (4 * j) := by decide +kernel
    rw [e, e4 n hn]
  rw [k18]
  have c17 : (rr_I (rr_A (rr_A r 13 n (nI (L s))) 14 n (nI s)) 17 (nI (s + 1))).1 17 = nI (s + 1 + 0) := rr_Ie
  generalize rr_I (rr_A (rr_A r 13 n (nI (L s))) 14 n (nI s)) 17 (nI (s + 1)) = r0 at hF0 c13 c14 c17 ⊢
  have d0 : RD m L n (th_sh (L s)) s 0 r0 r0 := ⟨FH.rf, fun _ _ => rfl, c17, fun q hq => absurd hq (Nat.not_lt_zero q), fun q hq => absurd hq (Nat.not_lt_zero q)⟩
  rcases pr_all (hL.fh hF0) d0 hs hn rfl h0 with ⟨r1, e1, d1⟩ | ⟨k, r1, hk, e1, d1⟩
  rotate_left
  · left
    obtain ⟨b1, b2, b3, b4, b5⟩ := d1
    exact ⟨r1, s + 1 + k, (pp_ob_e e1 _).trans (if_pos rfl), hF0.tr b1 (Nat.le_refl _), b2, Or.inr ⟨hs, h0, k, by omega, rfl, b3, b4, b5⟩⟩
  rw [e1, pp_ob_s, if_neg pu_10]
  have hle := d1.le hs
  obtain ⟨b1, b2, b3, b4, b5⟩ := d1
  have hL1 : LR m L r1 := (hL.fh hF0).fh b1
  have hsg : th_sg (th_sh (L s)) (th_ln (th_sh (L s)) - 1) = 59 := by
    unfold th_sg; rw [if_pos (by omega)]
  by_cases hc : s + 1 + (th_ln (th_sh (L s)) - 1) < m
  · rw [pr_next1 hL1 hc b3, pp_ob_s]
    have h59 : ∀ v, v < 256 → (nI v = 59 ↔ th_ft 59 v = true) := by decide +kernel
    have h5 := h59 _ (hL1.2.2 _ hc).2
    by_cases hf : th_ft 59 (L (s + 1 + (th_ln (th_sh (L s)) - 1))) = true
    · right
      rw [if_pos (h5.mpr hf)]
      have hF1 : FH n r1 (rr_I r1 17 (r1.1 17 + 1)) := ⟨fun j hj => rr_In hj, fun _ _ _ _ => rfl, rfl, fun _ _ => ⟨rfl, rfl⟩, fun _ _ => rfl⟩
      refine ⟨_, s + 1 + th_ln (th_sh (L s)), rfl, (hF0.tr b1 (Nat.le_refl _)).tr hF1 (Nat.le_refl _), ?_, ?_, ?_, h0, rfl, by omega, fun k hk => ?_, fun k hk => ?_⟩
      · rw [rr_Ie, b3, pu_i1, show s + 1 + (th_ln (th_sh (L s)) - 1) + 1 = s + 1 + th_ln (th_sh (L s)) by omega]
      · show r1.2.1 13 n = _
        rw [b2 13 (by decide)]; exact c13
      · show r1.2.1 14 n = _
        rw [b2 14 (by decide)]; exact c14
      · by_cases hk1 : k = th_ln (th_sh (L s)) - 1
        · rw [hk1, hsg]; exact hf
        · exact (b5 k (by omega)).2
      · exact b4 k (by omega)
    · left
      rw [if_neg (fun e => hf (h5.mp e))]
      exact ⟨r1, _, rfl, hF0.tr b1 (Nat.le_refl _), b3, Or.inr ⟨hs, h0, th_ln (th_sh (L s)) - 1, by omega, rfl, hle, b5, Or.inr (by rw [hsg]; exact Bool.eq_false_iff.mpr hf)⟩⟩
  · left
    have hem : s + 1 + (th_ln (th_sh (L s)) - 1) = m := by omega
    rw [pr_next0 hL1 (by rw [b3, hem]), pp_ob_s, if_neg (by decide)]
    exact ⟨r1, _, rfl, hF0.tr b1 (Nat.le_refl _), b3, Or.inr ⟨hs, h0, th_ln (th_sh (L s)) - 1, by omega, rfl, hle, b5, Or.inl hem⟩⟩
/-- the landed side at the same letters -/
theorem uF_bad {m s e i : Nat} {L : Nat → Nat} {t : rr_S} (h : TL m L t) (hi : i = 0 ∨ i = 2 ∨ i = 3 ∨ i = 4) (hsm : s = m → m = 0) (hB : BAD m L s e) : (∀ f, 8 ≤ f → pp_it (uF t) f (i, nI (th_ln i), nI s) = some (nI e)) ∧ e ≤ m := by
  rcases hB with ⟨rfl, h1 | ⟨h1, h2⟩⟩ | ⟨hs, h0, k, hk, rfl, hem, hq, hlast⟩
  · have h0 : m = 0 := hsm h1
    subst h1
    subst h0
    refine ⟨fun f hf => ?_, Nat.le_refl _⟩
    obtain ⟨z, rfl⟩ : ∃ z, f = z + 1 := ⟨f - 1, by omega⟩
    rw [pp_it_s]
    exact uF_0 (p := (i, nI (th_ln i))) h
  · refine ⟨fun f hf => ?_, by omega⟩
    obtain ⟨z, rfl⟩ : ∃ z, f = z + 1 := ⟨f - 1, by omega⟩
    rw [pp_it_s, uF_new h h1 hi, if_pos h2]
  · refine ⟨fun f hf => ?_, hem⟩
    have hi2 := (th_shc (L s)).resolve_left h0
    have hln := th_lnc hi2
    obtain ⟨z, rfl⟩ : ∃ z, f = z + 1 + k + 1 := ⟨f - 2 - k, by omega⟩
    rw [pp_it_s, uF_new h hs hi, if_neg h0, uF_run h hi2 k (by omega) hq (z + 1), pp_it_s]
    by_cases hm : s + 1 + k = m
    · rw [hm]; exact uF_out h hi2 hk
    · have hf := hlast.resolve_left hm
      rw [uF_at h (by omega) hi2 hk, hf]
      rfl
theorem uF_good {m j s e i : Nat} {L : Nat → Nat} {t r : rr_S} (h : TL m L t) (hi : i = 0 ∨ i = 2 ∨ i = 3 ∨ i = 4) (hS : SI L m r j s e) (f : Nat) : pp_it (uF t) (f + (e - s)) (i, nI (th_ln i), nI s) = pp_it (uF t) f (th_sh (L s), nI (th_ln (th_sh (L s))), nI e) := by
  obtain ⟨-, -, h0, rfl, hem, hq, -⟩ := hS
  have hi2 := (th_shc (L s)).resolve_left h0
  have hln := th_lnc hi2
  have e1 : f + (s + 1 + th_ln (th_sh (L s)) - s) = f + th_ln (th_sh (L s)) + 1 := by omega
  rw [e1, pp_it_s, uF_new h (by omega) hi, if_neg h0]
  exact uF_run h hi2 _ (Nat.le_refl _) (fun q hq' => ⟨by omega, hq q hq'⟩) f
