/-! the duel: cells as numbers -/
def addN (F : Nat → Nat) (k v : Nat) : Nat → Nat := fun j => if j = k then F j + v else F j
def sN (F : Nat → Nat) : Nat → Nat
  | 0 => 0
  | n + 1 => sN F n + F n
theorem sN_add (F : Nat → Nat) (k v : Nat) : ∀ n, sN (addN F k v) n = sN F n + if k < n then v else 0 := by
  intro n
  induction n with
  | zero => rfl
  | succ n ih =>
    show sN (addN F k v) n + addN F k v n = sN F n + F n + _
    rw [ih]
    unfold addN
    by_cases h : n = k
    · subst h
      rw [if_pos rfl, if_neg (Nat.lt_irrefl _), if_pos (Nat.lt_succ_self _)]; omega
    · rw [if_neg h]
      by_cases h2 : k < n
      · rw [if_pos h2, if_pos (by omega)]; omega
      · rw [if_neg h2, if_neg (by omega)]; omega
theorem sN_zero (n : Nat) : sN (fun _ => 0) n = 0 := by
  induction n with
  | zero => rfl
  | succ n ih => show sN (fun _ => 0) n + 0 = 0; rw [ih]
theorem addN_c (F : Nat → Nat) (k v k' v' : Nat) : addN (addN F k v) k' v' = addN (addN F k' v') k v := by
  funext j
  unfold addN
  by_cases h1 : j = k
  · by_cases h2 : j = k'
    · rw [if_pos h2, if_pos h1, if_pos h1, if_pos h2]; omega
    · rw [if_neg h2, if_pos h1, if_pos h1, if_neg h2]
  · by_cases h2 : j = k'
    · rw [if_pos h2, if_neg h1, if_neg h1, if_pos h2]
    · rw [if_neg h2, if_neg h1, if_neg h1, if_neg h2]
/-- one cell of one throw; a throw; all throws -/
def dst (h c th : Nat) (W : Nat → Nat) (i : Nat) (F : Nat → Nat) : Nat → Nat := if i / 5 = 0 ∨ i % 5 = 0 then addN F i (40 * W i) else addN (addN (addN F i ((40 - h - c) * W i)) (i - 5) ((if th = 0 then c else h) * W i)) (i - 1) ((if th = 0 then h else c) * W i)
def dmd (h c th : Nat) (W : Nat → Nat) : Nat → Nat → Nat
  | 0 => fun _ => 0
  | i + 1 => dst h c th W i (dmd h c th W i)
def dW (h c : Nat) (W0 : Nat → Nat) : Nat → Nat → Nat
  | 0 => W0
  | t + 1 => dmd h c (t % 2) (dW h c W0 t) 25
theorem dst_sum {h c th : Nat} {W F : Nat → Nat} {i : Nat} (hh : h < 20) (hc : c < 20) (hi : i < 25) : sN (dst h c th W i F) 25 = sN F 25 + 40 * W i := by
  unfold dst
  by_cases h0 : i / 5 = 0 ∨ i % 5 = 0
  · rw [if_pos h0, sN_add, if_pos hi]
  · rw [if_neg h0, sN_add, sN_add, sN_add, if_pos hi, if_pos (show i - 5 < 25 by omega), if_pos (show i - 1 < 25 by omega)]
    have e : (40 - h - c) * W i + (if th = 0 then c else h) * W i + (if th = 0 then h else c) * W i = 40 * W i := by
      rw [← Nat.add_mul, ← Nat.add_mul]
      congr 1
      by_cases ht : th = 0
      · rw [if_pos ht, if_pos ht]; omega
      · rw [if_neg ht, if_neg ht]; omega
    omega
theorem dmd_sum {h c th : Nat} {W : Nat → Nat} (hh : h < 20) (hc : c < 20) : ∀ i, i ≤ 25 → sN (dmd h c th W i) 25 = 40 * sN W i := by
  intro i
  induction i with
  | zero => intro _; exact sN_zero 25
  | succ i ih =>
    intro hi
    show sN (dst h c th W i (dmd h c th W i)) 25 = 40 * (sN W i + W i)
    rw [dst_sum hh hc (by omega), ih (by omega), Nat.mul_add]
theorem dW_sum {h c : Nat} {W0 : Nat → Nat} (hh : h < 20) (hc : c < 20) (h0 : sN W0 25 = 1) : ∀ t, sN (dW h c W0 t) 25 = 40 ^ t := by
  intro t
  induction t with
  | zero => exact h0
  | succ t ih =>
    show sN (dmd h c (t % 2) (dW h c W0 t) 25) 25 = _
    rw [dmd_sum hh hc 25 (Nat.le_refl _), ih, Nat.pow_succ, Nat.mul_comm]
/-- a row of longs holds numbers -/
def LC (f : Nat → Int64) (F : Nat → Nat) : Prop := ∀ k, k < 25 → f k = lN (F k)
theorem LC.add {q : rr_S} {A k v : Nat} {F : Nat → Nat} (h : LC (q.2.2 A) F) (hk : k < 25) : LC ((rr_L q A k (q.2.2 A k + lN v)).2.2 A) (addN F k v) := by
  intro j hj
  show (if A = A then vp_updL (q.2.2 A) k (q.2.2 A k + lN v) else q.2.2 A) j = _
  rw [if_pos rfl]
  unfold addN
  by_cases e : j = k
  · subst e; rw [pk_uLs, if_pos rfl, h j hj, lN_add]
  · rw [pk_uLn e, if_neg e, h j hj]
theorem rr_Ln {q : rr_S} {A k A' : Nat} {v : Int64} (h : A' ≠ A) : (rr_L q A k v).2.2 A' = q.2.2 A' := if_neg h
theorem pd_m (h c : Nat) (hh : h < 20) (hc : c < 20) : (40 : Int32) - nI h - nI c = nI (40 - h - c) := by
  have : ∀ h, h < 20 → ∀ c, c < 20 → (40 : Int32) - nI h - nI c = nI (40 - h - c) := by decide +kernel
  exact this h hh c hc
theorem pu_div5 : ∀ i, i < 25 → nI i / 5 = nI (i / 5) ∧ nI i - nI i / 5 * 5 = nI (i % 5) := by decide +kernel
theorem pd_l40 : (40 : Int64) = lN 40 := rfl
theorem pd_clear (x : rr_S) : ∃ x', D_clearWays x = some x' ∧ x'.1 = x.1 ∧ x'.2.1 = x.2.1 ∧ (∀ k, k ≠ 0 → x'.2.2 k = x.2.2 k) ∧ LC (x'.2.2 0) (fun _ => 0) := by
  unfold D_clearWays
  refine pp_one (P := fun (i : Nat) (a : rr_S × Int32) => a.2 = nI i ∧ a.1.1 = x.1 ∧ a.1.2.1 = x.2.1 ∧ (∀ k, k ≠ 0 → a.1.2.2 k = x.2.2 k) ∧ ∀ k, k < i → a.1.2.2 0 k = lN 0) (Q := fun (x' : rr_S) => x'.1 = x.1 ∧ x'.2.1 = x.2.1 ∧ (∀ k, k ≠ 0 → x'.2.2 k = x.2.2 k) ∧ LC (x'.2.2 0) (fun _ => 0)) 25 ?_ 26 0 (x, 0) 200 (by decide) (by decide) ⟨pu_0, rfl, rfl, fun _ _ => rfl, fun k hk => absurd hk (Nat.not_lt_zero k)⟩ (by decide)
  rintro i ⟨a, ii⟩ hi ⟨e, h1, h2, h3, h4⟩
  have e : ii = nI i := e
  subst e
  by_cases h25 : i = 25
  · left
    subst h25
    exact ⟨a, fun self => if_pos (show Int32.ofNat 25 ≤ nI 25 from Int32.le_refl _), h1, h2, h3, h4⟩
  · right
    have hi' : i < 25 := by omega
    refine ⟨hi', (rr_L a 0 i 0, nI (i + 1)), fun self => ?_, rfl, h1, h2, fun k hk => (rr_Ln hk).trans (h3 k hk), fun k hk => ?_⟩
    · simp only [pp_lj]
      rw [if_neg (show ¬ Int32.ofNat 25 ≤ nI i from nI_ge hi' (by decide)), pp_ix_n hi' (by decide), pu_c (by omega), pu_i1]
    · show vp_updL (a.2.2 0) i 0 k = _
      by_cases hki : k = i
      · subst hki; rw [pk_uLs]; rfl
      · rw [pk_uLn hki]; exact h4 k (by omega)
theorem pd_add {x : rr_S} {a b : Nat} (ha : a < 5) (hb : b < 5) (v : Int64) : D_addWays x (nI a) (nI b) v = some (rr_L x 0 (5 * a + b) (x.2.2 0 (5 * a + b) + v)) := by
  have e5 : ∀ a, a < 5 → ∀ b, b < 5 → (5 : Int32) * nI a + nI b = nI (5 * a + b) := by decide +kernel
  simp only [D_addWays, pp_lj]
  rw [if_neg (pu_neg (by omega)), if_neg (by rw [show (5 : Int32) = nI 5 from by decide +kernel]; exact nI_ge ha (by decide)), if_neg (pu_neg (by omega)), if_neg (by rw [show (5 : Int32) = nI 5 from by decide +kernel]; exact nI_ge hb (by decide)), e5 a ha b hb, pp_ix_n (by omega) (by decide), pu_c (by omega)]
/-- what the duel's object holds while a throw goes on -/
def DS (h c th A : Nat) (W F : Nat → Nat) (x : rr_S) : Prop := x.1 2 = nI h ∧ x.1 3 = nI c ∧ x.1 4 = nI th ∧ x.2.2 5 0 = lN A ∧ LC (x.2.2 1) W ∧ LC (x.2.2 0) F
theorem DS.add {h c th A k v : Nat} {W F : Nat → Nat} {x : rr_S} (d : DS h c th A W F x) (hk : k < 25) : DS h c th A W (addN F k v) (rr_L x 0 k (x.2.2 0 k + lN v)) := by
  obtain ⟨d1, d2, d3, d4, d5, d6⟩ := d
  exact ⟨d1, d2, d3, by rw [rr_Ln (by decide)]; exact d4, by rw [rr_Ln (by decide)]; exact d5, d6.add hk⟩
theorem pd_from {h c th A : Nat} {W F : Nat → Nat} {x : rr_S} (d : DS h c th A W F x) (hh : h < 20) (hc : c < 20) (ht : th < 2) {a b : Nat} (ha : a < 5) (hb : b < 5) : ∃ x', D_throwFrom x (nI a) (nI b) (x.2.2 1 (5 * a + b)) = some x' ∧ DS h c th A W (dst h c th W (5 * a + b) F) x' := by
  have hw := d.2.2.2.2.1 (5 * a + b) (by omega)
  rw [hw]
  have hd1 : (5 * a + b) / 5 = a := by omega
  have hd2 : (5 * a + b) % 5 = b := by omega
  simp only [D_throwFrom, pp_lj, pp_ob_some]
  by_cases h0 : a = 0 ∨ b = 0
  · have e : dst h c th W (5 * a + b) F = addN F (5 * a + b) (40 * W (5 * a + b)) := by
      unfold dst; rw [hd1, hd2, if_pos h0]
    refine ⟨rr_L x 0 (5 * a + b) (x.2.2 0 (5 * a + b) + lN (40 * W (5 * a + b))), ?_, by rw [e]; exact d.add (by omega)⟩
    rw [pd_add ha hb, pd_l40, lN_mul, Nat.mul_comm (W (5 * a + b)) 40]
    rcases h0 with rfl | rfl
    · rw [if_pos nI_0]
    · rw [if_pos nI_0]
      by_cases ha0 : nI a = 0
      · rw [if_pos ha0]
      · rw [if_neg ha0]
  · have na : ¬ nI a = 0 := nI_ne0 (by omega) (by omega)
    have nb : ¬ nI b = 0 := nI_ne0 (by omega) (by omega)
    obtain ⟨a', rfl⟩ : ∃ a', a = a' + 1 := ⟨a - 1, by omega⟩
    obtain ⟨b', rfl⟩ : ∃ b', b = b' + 1 := ⟨b - 1, by omega⟩
    rw [if_neg na, if_neg nb, d.1, d.2.1, pd_m h c hh hc, pd_add ha hb, pp_ob_s, nI_l (by omega), lN_mul, Nat.mul_comm (W (5 * (a' + 1) + (b' + 1))) _]
    have D1 := d.add (k := 5 * (a' + 1) + (b' + 1)) (v := (40 - h - c) * W (5 * (a' + 1) + (b' + 1))) (by omega)
    generalize rr_L x 0 (5 * (a' + 1) + (b' + 1)) (x.2.2 0 (5 * (a' + 1) + (b' + 1)) + lN ((40 - h - c) * W (5 * (a' + 1) + (b' + 1)))) = x1 at D1 ⊢
    rcases (show th = 0 ∨ th = 1 by omega) with rfl | rfl
    · have z1 : x1.1 4 = 0 := D1.2.2.1
      have D2 := D1.add (k := 5 * a' + (b' + 1)) (v := c * W (5 * (a' + 1) + (b' + 1))) (by omega)
      rw [if_pos z1, D1.2.1, nI_pred, nI_pred, pd_add (by omega) hb, pp_ob_s, nI_l (by omega), lN_mul, Nat.mul_comm (W (5 * (a' + 1) + (b' + 1))) c]
      generalize rr_L x1 0 (5 * a' + (b' + 1)) (x1.2.2 0 (5 * a' + (b' + 1)) + lN (c * W (5 * (a' + 1) + (b' + 1)))) = x2 at D2 ⊢
      have D3 := D2.add (k := 5 * (a' + 1) + b') (v := h * W (5 * (a' + 1) + (b' + 1))) (by omega)
      rw [if_pos (show x2.1 4 = 0 from D2.2.2.1), D2.1, pd_add ha (by omega), nI_l (by omega), lN_mul, Nat.mul_comm (W (5 * (a' + 1) + (b' + 1))) h]
      refine ⟨_, rfl, ?_⟩
      have e : dst h c 0 W (5 * (a' + 1) + (b' + 1)) F = addN (addN (addN F (5 * (a' + 1) + (b' + 1)) ((40 - h - c) * W (5 * (a' + 1) + (b' + 1)))) (5 * a' + (b' + 1)) (c * W (5 * (a' + 1) + (b' + 1)))) (5 * (a' + 1) + b') (h * W (5 * (a' + 1) + (b' + 1))) := by
        unfold dst
        rw [if_neg (by rw [hd1, hd2]; exact h0), show 5 * (a' + 1) + (b' + 1) - 5 = 5 * a' + (b' + 1) by omega, show 5 * (a' + 1) + (b' + 1) - 1 = 5 * (a' + 1) + b' by omega]
        rfl
      rw [e]; exact D3
    · have z1 : ¬ x1.1 4 = 0 := by rw [D1.2.2.1]; decide +kernel
      have D2 := D1.add (k := 5 * a' + (b' + 1)) (v := h * W (5 * (a' + 1) + (b' + 1))) (by omega)
      rw [if_neg z1, D1.1, nI_pred, nI_pred, pd_add (by omega) hb, pp_ob_s, nI_l (by omega), lN_mul, Nat.mul_comm (W (5 * (a' + 1) + (b' + 1))) h]
      generalize rr_L x1 0 (5 * a' + (b' + 1)) (x1.2.2 0 (5 * a' + (b' + 1)) + lN (h * W (5 * (a' + 1) + (b' + 1)))) = x2 at D2 ⊢
      have D3 := D2.add (k := 5 * (a' + 1) + b') (v := c * W (5 * (a' + 1) + (b' + 1))) (by omega)
      rw [if_neg (show ¬ x2.1 4 = 0 by rw [D2.2.2.1]; decide +kernel), D2.2.1, pd_add ha (by omega), nI_l (by omega), lN_mul, Nat.mul_comm (W (5 * (a' + 1) + (b' + 1))) c]
      refine ⟨_, rfl, ?_⟩
      have e : dst h c 1 W (5 * (a' + 1) + (b' + 1)) F = addN (addN (addN F (5 * (a' + 1) + (b' + 1)) ((40 - h - c) * W (5 * (a' + 1) + (b' + 1)))) (5 * a' + (b' + 1)) (h * W (5 * (a' + 1) + (b' + 1)))) (5 * (a' + 1) + b') (c * W (5 * (a' + 1) + (b' + 1))) := by
        unfold dst
        rw [if_neg (by rw [hd1, hd2]; exact h0), show 5 * (a' + 1) + (b' + 1) - 5 = 5 * a' + (b' + 1) by omega, show 5 * (a' + 1) + (b' + 1) - 1 = 5 * (a' + 1) + b' by omega]
        rfl
      rw [e]; exact D3
