/-! a player comes; one told statement -/
def radd (r : rr_S) (n : Nat) (s k a e : Int32) : rr_S := rr_I (rr_A (rr_A (rr_A (rr_A (rr_A r 1 n s) 2 n k) 3 n a) 4 n e) 5 n 0) 9 (nI (n + 1))
section ADD
variable {T G : Nat} {x : cc_CT} {r : rr_S} {n : Nat} {s k a e : Int32}
theorem radd_n {k' i : Nat} (h : i ≠ n ∨ k' < 1 ∨ 5 < k') : (radd r n s k a e).2.1 k' i = r.2.1 k' i := by
  show (rr_A (rr_A (rr_A (rr_A (rr_A r 1 n s) 2 n k) 3 n a) 4 n e) 5 n 0).2.1 k' i = _
  rw [rr_Ap, if_neg (by omega), rr_Ap, if_neg (by omega), rr_Ap, if_neg (by omega), rr_Ap, if_neg (by omega), rr_Ap, if_neg (by omega)]
theorem radd_1 : (radd r n s k a e).2.1 1 n = s := by
  show (rr_A (rr_A (rr_A (rr_A (rr_A r 1 n s) 2 n k) 3 n a) 4 n e) 5 n 0).2.1 1 n = _
  rw [rr_Ap, if_neg (by omega), rr_Ap, if_neg (by omega), rr_Ap, if_neg (by omega), rr_Ap, if_neg (by omega), rr_Ap, if_pos ⟨rfl, rfl⟩]
theorem radd_2 : (radd r n s k a e).2.1 2 n = k := by
  show (rr_A (rr_A (rr_A (rr_A (rr_A r 1 n s) 2 n k) 3 n a) 4 n e) 5 n 0).2.1 2 n = _
  rw [rr_Ap, if_neg (by omega), rr_Ap, if_neg (by omega), rr_Ap, if_neg (by omega), rr_Ap, if_pos ⟨rfl, rfl⟩]
theorem radd_3 : (radd r n s k a e).2.1 3 n = a := by
  show (rr_A (rr_A (rr_A (rr_A (rr_A r 1 n s) 2 n k) 3 n a) 4 n e) 5 n 0).2.1 3 n = _
  rw [rr_Ap, if_neg (by omega), rr_Ap, if_neg (by omega), rr_Ap, if_pos ⟨rfl, rfl⟩]
theorem radd_4 : (radd r n s k a e).2.1 4 n = e := by
  show (rr_A (rr_A (rr_A (rr_A (rr_A r 1 n s) 2 n k) 3 n a) 4 n e) 5 n 0).2.1 4 n = _
  rw [rr_Ap, if_neg (by omega), rr_Ap, if_pos ⟨rfl, rfl⟩]
theorem radd_5 : (radd r n s k a e).2.1 5 n = 0 := by
  show (rr_A (rr_A (rr_A (rr_A (rr_A r 1 n s) 2 n k) 3 n a) 4 n e) 5 n 0).2.1 5 n = _
  rw [rr_Ap, if_pos ⟨rfl, rfl⟩]
theorem FR.add : FR r (radd r n s k a e) := ⟨fun k' h _ _ => rr_In h, fun k' h => by funext i; exact radd_n (by omega), rfl⟩
end ADD
def xadd (x : cc_CT) (n s : Nat) (d : cc_PD) : cc_CT := cc_ci (cc_kS (cc_kP x n d) s (rr_I (x.2.1 s) 0 ((x.2.1 s).1 0 ||| ((1 : Int32) <<< (nI n &&& 31))))) 1 (nI (n + 1))
theorem CW.add {T G : Nat} {x : cc_CT} {r : rr_S} (h : CW T G x r) (hn : zn r < 8) {s k a e : Nat} (hs : s < 2) (hk : k ≤ 5) (ha : a ≤ 9) (he : e ≤ 9) : CW T G (xadd x (zn r) s (np_ci (nI k), cn_f (nI k) (nI s) (nI a) (nI e))) (radd r (zn r) (nI s) (nI k) (nI a) (nI e)) := by
  obtain ⟨⟨⟨a1, a2⟩, ⟨a3, a4⟩, ⟨a5, a6⟩, a7, a8, a9⟩, c1, c2, c3, c4, c5⟩ := h
  generalize hr' : radd r (zn r) (nI s) (nI k) (nI a) (nI e) = r'
  have en : zn r' = zn r + 1 := by
    rw [← hr']
    show (nI (zn r + 1)).toNatClampNeg = _
    exact pu_c (by omega)
  have et : zt r' = zt r := by rw [← hr']; rfl
  have eg : zg r' = zg r := by rw [← hr']; rfl
  have i10 : r'.1 10 = r.1 10 := by rw [← hr']; rfl
  have i11 : r'.1 11 = r.1 11 := by rw [← hr']; rfl
  have i9 : r'.1 9 = nI (zn r + 1) := by rw [← hr']; rfl
  have old : ∀ k p, p ≠ zn r ∨ k < 1 ∨ 5 < k → r'.2.1 k p = r.2.1 k p := fun k p hp => by rw [← hr']; exact radd_n hp
  have oldc : ∀ k p, p ≠ zn r ∨ k < 1 ∨ 5 < k → zc r' k p = zc r k p := fun k p hp => by unfold zc; rw [old k p hp]
  have n1 : r'.2.1 1 (zn r) = nI s := by rw [← hr']; exact radd_1
  have n2 : r'.2.1 2 (zn r) = nI k := by rw [← hr']; exact radd_2
  have n3 : r'.2.1 3 (zn r) = nI a := by rw [← hr']; exact radd_3
  have n4 : r'.2.1 4 (zn r) = nI e := by rw [← hr']; exact radd_4
  have n5 : r'.2.1 5 (zn r) = nI 0 := by rw [← hr']; exact radd_5
  have z1 : zc r' 1 (zn r) = s := by unfold zc; rw [n1]; exact pu_c (by omega)
  have z2 : zc r' 2 (zn r) = k := by unfold zc; rw [n2]; exact pu_c (by omega)
  have z3 : zc r' 3 (zn r) = a := by unfold zc; rw [n3]; exact pu_c (by omega)
  have z4 : zc r' 4 (zn r) = e := by unfold zc; rw [n4]; exact pu_c (by omega)
  have z5 : zc r' 5 (zn r) = 0 := by unfold zc; rw [n5]; exact pu_c (by omega)
  have hzw : ∀ s' p, zw r' s' p = zw r s' p := fun s' p => by
    by_cases hp : p = zn r
    · subst hp
      unfold zw; rw [z5, decide_eq_false (Nat.lt_irrefl (zn r))]; simp
    · unfold zw
      rw [en, oldc 1 p (Or.inl hp), oldc 5 p (Or.inl hp), show decide (p < zn r + 1) = decide (p < zn r) from decide_eq_decide.mpr ⟨fun h => by omega, fun h => by omega⟩]
  have hzk : ∀ s', zk r' s' = zk r s' := fun s' => by unfold zk; exact List.countP_congr (fun k _ => by rw [hzw])
  have hza : ∀ s' o, za r' s' o = za r s' o := fun s' o => by
    unfold za
    refine List.countP_congr (fun k _ => ?_)
    rw [hzw]
    by_cases hp : k = zn r
    · subst hp
      have : zw r s' (zn r) = false := by unfold zw; rw [decide_eq_false (Nat.lt_irrefl (zn r))]; simp
      rw [this]; simp
    · rw [oldc 5 k (Or.inl hp)]
  have hne : ∀ s' p, zw r s' p = true → p ≠ zn r := fun s' p hp e => by
    subst e
    unfold zw at hp
    rw [decide_eq_false (Nat.lt_irrefl (zn r))] at hp
    simp at hp
  refine ⟨⟨⟨by rw [i9, en], by omega⟩, ⟨by rw [i10, et]; exact a3, by rw [et]; exact a4⟩, ⟨by rw [i11, eg]; exact a5, by rw [eg]; exact a6⟩, fun p hp => ?_, fun p p' hp hp' he0 hpos => ?_, fun b hb => ?_⟩, ?_, ?_, fun p hp => ?_, fun b hb => ?_, fun s' hs' => ?_⟩
  · by_cases hpn : p = zn r
    · subst hpn
      rw [z1, z2, z3, z4, z5]
      refine ⟨fun k' hk' => ?_, by omega, hk, ha, he, Nat.zero_le _⟩
      rcases (show k' = 0 ∨ k' = 1 ∨ k' = 2 ∨ k' = 3 ∨ k' = 4 ∨ k' = 5 by omega) with rfl | rfl | rfl | rfl | rfl | rfl
      · exact Or.inr rfl
      · left; rw [z1, n1]
      · left; rw [z2, n2]
      · left; rw [z3, n3]
      · left; rw [z4, n4]
      · left; rw [z5, n5]
    · obtain ⟨d0, d1⟩ := a7 p (by omega)
      rw [oldc 1 p (Or.inl hpn), oldc 2 p (Or.inl hpn), oldc 3 p (Or.inl hpn), oldc 4 p (Or.inl hpn), oldc 5 p (Or.inl hpn), eg]
      exact ⟨fun k' hk' => by rw [old k' p (Or.inl hpn), oldc k' p (Or.inl hpn)]; exact d0 k' hk', d1⟩
  · have hp1 : p ≠ zn r := fun e => by rw [e, z5] at hpos; omega
    have hp2 : p' ≠ zn r := fun e => by rw [he0, e, z5] at hpos; omega
    rw [oldc 5 p (Or.inl hp1)] at he0 hpos
    rw [oldc 5 p' (Or.inl hp2)] at he0
    exact a8 p p' (by omega) (by omega) he0 hpos
  · have d := a9 b hb
    rw [old 6 b (Or.inr (Or.inr (by decide))), old 7 b (Or.inr (Or.inr (by decide))), old 8 b (Or.inr (Or.inr (by decide))), oldc 6 b (Or.inr (Or.inr (by decide))), oldc 8 b (Or.inr (Or.inr (by decide))), en]
    rcases d with d | ⟨d1, d2, d3, d4⟩
    · exact Or.inl d
    · exact Or.inr ⟨d1, by omega, by rw [oldc 5 _ (Or.inl (by omega))]; exact d3, d4⟩
  · rw [i9]; rfl
  · rw [i10]; exact c2
  · by_cases hpn : p = zn r
    · subst hpn
      have hd : (xadd x (zn r) s (np_ci (nI k), cn_f (nI k) (nI s) (nI a) (nI e))).2.2 (zn r) = (np_ci (nI k), cn_f (nI k) (nI s) (nI a) (nI e)) := if_pos rfl
      rw [hd, n1, n2, n3, n4]
      exact ⟨rfl, rfl, rfl, rfl, rfl⟩
    · have hd : (xadd x (zn r) s (np_ci (nI k), cn_f (nI k) (nI s) (nI a) (nI e))).2.2 p = x.2.2 p := if_neg hpn
      rw [hd, old 1 p (Or.inl hpn), old 2 p (Or.inl hpn), old 3 p (Or.inl hpn), old 4 p (Or.inl hpn)]
      exact c3 p (by omega)
  · rw [old 6 b (Or.inr (Or.inr (by decide))), old 7 b (Or.inr (Or.inr (by decide))), old 8 b (Or.inr (Or.inr (by decide)))]
    exact c4 b hb
  · obtain ⟨⟨m, m1, m2, m3⟩, m4, m5, m6⟩ := c5 s' hs'
    rw [hzk]
    have hrest : (∀ j, j < zk r s' → ∃ p, zw r' s' p = true ∧ za r' s' (zc r' 5 p) = j ∧ (x.2.1 s').2.1 1 j = nI p) ∧ (∀ p, zw r' s' p = true → za r' s' (zc r' 5 p) < zk r s' ∧ (x.2.1 s').2.1 1 (za r' s' (zc r' 5 p)) = nI p) := by
      refine ⟨fun j hj => ?_, fun p hp => ?_⟩
      · obtain ⟨p, p1, p2, p3⟩ := m5 j hj
        exact ⟨p, by rw [hzw]; exact p1, by rw [hza, oldc 5 p (Or.inl (hne s' p p1))]; exact p2, p3⟩
      · rw [hzw] at hp
        rw [hza, oldc 5 p (Or.inl (hne s' p hp))]
        exact m6 p hp
    by_cases hss : s' = s
    · subst hss
      have hd : (xadd x (zn r) s' (np_ci (nI k), cn_f (nI k) (nI s') (nI a) (nI e))).2.1 s' = rr_I (x.2.1 s') 0 ((x.2.1 s').1 0 ||| ((1 : Int32) <<< (nI (zn r) &&& 31))) := if_pos rfl
      rw [hd]
      refine ⟨⟨m ||| 2 ^ zn r, ?_, Nat.or_lt_two_pow (n := 8) m2 (Nat.pow_lt_pow_right (by decide) hn), fun p hp => ?_⟩, m4, hrest⟩
      · rw [rr_Ie, m1, pu_shl _ hn, pu_or]
      · rw [Nat.testBit_or, m3 p hp, Nat.testBit_two_pow]
        by_cases hpn : p = zn r
        · subst hpn
          unfold zi; rw [en, z1, z5]; simp
        · unfold zi
          rw [en, oldc 1 p (Or.inl hpn), oldc 5 p (Or.inl hpn), show decide (p < zn r + 1) = decide (p < zn r) from decide_eq_decide.mpr ⟨fun h => by omega, fun h => by omega⟩, decide_eq_false (show ¬ zn r = p from fun e => hpn e.symm), Bool.or_false]
    · have hd : (xadd x (zn r) s (np_ci (nI k), cn_f (nI k) (nI s) (nI a) (nI e))).2.1 s' = x.2.1 s' := if_neg hss
      rw [hd]
      refine ⟨⟨m, m1, m2, fun p hp => ?_⟩, m4, hrest⟩
      rw [m3 p hp]
      by_cases hpn : p = zn r
      · subst hpn
        unfold zi; rw [en, z1, decide_eq_false (Nat.lt_irrefl (zn r)), decide_eq_false (show ¬ s = s' from fun e => hss e.symm)]; simp
      · unfold zi
        rw [en, oldc 1 p (Or.inl hpn), oldc 5 p (Or.inl hpn), show decide (p < zn r + 1) = decide (p < zn r) from decide_eq_decide.mpr ⟨fun h => by omega, fun h => by omega⟩]
theorem rr_A1 {q : rr_S} {k i j : Nat} {v : Int32} : (rr_A q k i v).1 j = q.1 j := rfl
theorem pk_add {x : cc_CT} {n s : Nat} {d : cc_PD} (hx : x.1.1 1 = nI n) (hn : n < 8) (hs : s < 2) (hd : d.2 1 = nI s) : K_add x d = some (1, xadd x n s d) := by
  have hside : C_isSide (nI s) = some 1 := by
    rcases (show s = 0 ∨ s = 1 by omega) with rfl | rfl <;> decide +kernel
  simp only [K_add, S_letIn, pp_lj]
  rw [hd, hside, pp_ob_s, if_neg pu_10, hx, pu_8, if_pos (nI_lt hn (by decide)), pp_ix_n hn (by decide), pu_c (by omega), pk_sideAt hs, pp_ob_s]
  unfold pp_l2
  rw [if_pos hs, pp_ob_s]
  show some ((1 : Int32), cc_ci (cc_kS (cc_kP x n d) s (rr_I (x.2.1 s) 0 ((x.2.1 s).1 0 ||| ((1 : Int32) <<< (x.1.1 1 &&& 31))))) 1 (x.1.1 1 + 1)) = _
  rw [hx, pu_i1]
  rfl
theorem pr_add {r : rr_S} {n j u k a y : Nat} (hn : r.1 9 = nI n) (h8 : n < 8) (hj : j < 40) (hu : ¬ (1 : Int32) < nI u) (g0 : r.2.1 15 (4 * j) = nI u) (g1 : r.2.1 15 (4 * j + 1) = nI k) (g2 : r.2.1 15 (4 * j + 2) = nI a) (g3 : r.2.1 15 (4 * j + 3) = nI y) : R_comesPlayer r (nI (4 * j)) = some (1, radd r n (nI u) (nI k) (nI a) (nI y)) := by
  have q2 : nI (4 * j) + 2 = nI (4 * j + 2) := by rw [pu_2', nI_add]
  have q3 : nI (4 * j) + 3 = nI (4 * j + 3) := by rw [show (3 : Int32) = nI 3 from by decide +kernel, nI_add]
  simp only [R_comesPlayer, pp_lj, rr_A1, hn, pu_i1, q2, q3, pp_ix_n (show 4 * j < 160 by omega) (show 160 < 2 ^ 31 by decide), pp_ix_n (show 4 * j + 1 < 160 by omega) (show 160 < 2 ^ 31 by decide), pp_ix_n (show 4 * j + 2 < 160 by omega) (show 160 < 2 ^ 31 by decide), pp_ix_n (show 4 * j + 3 < 160 by omega) (show 160 < 2 ^ 31 by decide), pp_ix_n h8 (show 8 < 2 ^ 31 by decide), pu_c (show 4 * j < 2 ^ 31 by omega), pu_c (show 4 * j + 1 < 2 ^ 31 by omega), pu_c (show 4 * j + 2 < 2 ^ 31 by omega), pu_c (show 4 * j + 3 < 2 ^ 31 by omega), pu_c (show n < 2 ^ 31 by omega), rr_An (show 15 ≠ 1 by decide), rr_An (show 15 ≠ 2 by decide), rr_An (show 15 ≠ 3 by decide), g0, g1, g2, g3]
  rw [if_neg hu, if_neg (show ¬ nI n = 8 from pu_ne (b := 8) (by omega) (by decide) (by omega))]
  rfl
/-! the letters -/
def th_sh (v : Nat) : Nat := if v = 98 then 3 else if v = 103 then 3 else if v = 111 then 4 else if v = 112 then 2 else 0
def th_ln (i : Nat) : Nat := if i = 2 then 5 else if i = 3 then 3 else if i = 4 then 2 else 0
def th_sg (i k : Nat) : Nat := if k + 1 = th_ln i then 59 else if i = 2 ∧ k = 1 then 107 else 100
def th_kd (v : Nat) : Nat := if v = 113 then 1 else if v = 99 then 2 else if v = 116 then 3 else if v = 119 then 4 else if v = 108 then 5 else 0
def th_vl (i k v : Nat) : Nat := if i = 2 ∧ k = 1 then th_kd v else v - 48
def th_ft (c v : Nat) : Bool := if c = 100 then decide (48 ≤ v) && decide (v ≤ 57) else if c = 107 then decide (v = 112) || (decide (v = 113) || (decide (v = 99) || (decide (v = 116) || (decide (v = 119) || decide (v = 108))))) else decide (v = c)
theorem th_kind : ∀ v, v < 256 → z_J0_indexOf_0f7a4 1 (nI v) = R_kindOf (nI v) ∧ (th_ft 107 v = true → R_kindOf (nI v) = some (nI (th_kd v)) ∧ th_kd v ≤ 5) ∧ (th_ft 107 v = false → R_kindOf (nI v) = some (-1)) := by decide +kernel
theorem th_char : ∀ v, v < 256 → vp_nar .char (nI v) = nI v := by decide +kernel
/-- letters that both sides hold -/
def TL (m : Nat) (L : Nat → Nat) (t : rr_S) : Prop := m ≤ 80 ∧ t.1 1 = nI m ∧ ∀ k, k < m → t.2.1 0 k = nI (L k) ∧ L k < 256
section LET
variable {m : Nat} {L : Nat → Nat} {t : rr_S} {k : Nat}
theorem pt_letter (h : TL m L t) (hk : k < m) : T_letterAt t (nI k) = some (nI (L k)) := by
  obtain ⟨h1, h2, h3⟩ := h
  obtain ⟨h4, h5⟩ := h3 k hk
  simp only [T_letterAt, pp_lj, pp_cz]
  rw [if_neg (pu_neg (by omega)), h2, if_neg (nI_ge hk (by omega)), pp_ix_n (by omega) (by decide), pu_c (by omega), h4, if_pos (th_char _ h5)]
theorem pt_digit (h : TL m L t) (hk : k < m) (hd : th_ft 100 (L k) = true) : T_digitAt t (nI k) = some (nI (L k - 48)) ∧ L k - 48 ≤ 9 := by
  unfold th_ft at hd
  rw [if_pos rfl, Bool.and_eq_true, decide_eq_true_eq, decide_eq_true_eq] at hd
  refine ⟨?_, by omega⟩
  unfold T_digitAt
  rw [pt_letter h hk, pp_ob_s]
  obtain ⟨z, hz⟩ : ∃ z, L k = 48 + z := ⟨L k - 48, by omega⟩
  rw [hz, show (48 : Int32) = nI 48 from by decide +kernel, ← nI_add, Int32.add_comm, Int32.add_sub_cancel, show 48 + z - 48 = z by omega]
theorem pt_kind (h : TL m L t) (hk : k < m) (hd : th_ft 107 (L k) = true) : T_kindAt t (nI k) = some (nI (th_kd (L k))) ∧ th_kd (L k) ≤ 5 := by
  obtain ⟨h1, h2, -⟩ := th_kind (L k) (h.2.2 k hk).2
  obtain ⟨h3, h4⟩ := h2 hd
  refine ⟨?_, h4⟩
  unfold T_kindAt
  rw [pt_letter h hk, pp_ob_s, h1, h3, pp_ob_s]
end LET
/-- what the reference has read of statement j, which begins at s and ends ahead of e -/
def SI (L : Nat → Nat) (m : Nat) (r : rr_S) (j s e : Nat) : Prop := r.2.1 13 j = nI (L s) ∧ r.2.1 14 j = nI s ∧ th_sh (L s) ≠ 0 ∧ e = s + 1 + th_ln (th_sh (L s)) ∧ e ≤ m ∧ (∀ k, k < th_ln (th_sh (L s)) → th_ft (th_sg (th_sh (L s)) k) (L (s + 1 + k)) = true) ∧ ∀ k, k + 1 < th_ln (th_sh (L s)) → r.2.1 15 (4 * j + k) = nI (th_vl (th_sh (L s)) k (L (s + 1 + k)))
theorem pi_told {T G m j s e : Nat} {x : cc_CT} {r t : rr_S} {L : Nat → Nat} (h : CW T G x r) (hG : G < 2 ^ 30) (hL : TL m L t) (hj : j < 40) (hS : SI L m r j s e) : (R_comes r (nI j) = some (0, r) ∧ T_tellStatement t x (nI s) = some (0, x)) ∨ ∃ x1 r1, R_comes r (nI j) = some (1, r1) ∧ T_tellStatement t x (nI s) = some (1, x1) ∧ CW T (G + 1) x1 r1 ∧ FR r r1 := by
  obtain ⟨s1, s2, s3, s4, s5, s6, s7⟩ := hS
  have hm80 := hL.1
  have e4 : (4 : Int32) * nI j = nI (4 * j) := by
    have : ∀ j, j < 40 → (4 : Int32) * nI j = nI (4 * j) := by decide +kernel
    exact this j hj
  have p1 : nI s + 1 = nI (s + 1) := pu_i1
  have p2 : nI s + 2 = nI (s + 2) := by rw [pu_2', nI_add]
  have p3 : nI s + 3 = nI (s + 3) := by rw [show (3 : Int32) = nI 3 from by decide +kernel, nI_add]
  have p4 : nI s + 4 = nI (s + 4) := by rw [show (4 : Int32) = nI 4 from by decide +kernel, nI_add]
  have hcase : L s = 98 ∨ L s = 103 ∨ L s = 111 ∨ L s = 112 := by
    unfold th_sh at s3
    by_cases c1 : L s = 98
    · exact Or.inl c1
    rw [if_neg c1] at s3
    by_cases c2 : L s = 103
    · exact Or.inr (Or.inl c2)
    rw [if_neg c2] at s3
    by_cases c3 : L s = 111
    · exact Or.inr (Or.inr (Or.inl c3))
    rw [if_neg c3] at s3
    by_cases c4 : L s = 112
    · exact Or.inr (Or.inr (Or.inr c4))
    rw [if_neg c4] at s3
    exact absurd rfl s3
  simp only [R_comes, T_tellStatement, pp_lj]
  rw [e4, pp_ix_n (show 4 * j < 160 by omega) (by decide), pu_i1, pp_ix_n (show 4 * j + 1 < 160 by omega) (by decide), pp_ix_n hj (by decide), pu_c (show 4 * j < 2 ^ 31 by omega), pu_c (show 4 * j + 1 < 2 ^ 31 by omega), pu_c (show j < 2 ^ 31 by omega), s1]
  rcases hcase with hc | hc | hc | hc
  · rw [hc] at s4 s6 s7
    have s4 : e = s + 1 + 3 := s4
    have f0 : th_ft 100 (L (s + 1)) = true := s6 0 (by decide)
    have f1 : th_ft 100 (L (s + 2)) = true := s6 1 (by decide)
    have g0 : r.2.1 15 (4 * j) = nI (L (s + 1) - 48) := s7 0 (by decide)
    have g1 : r.2.1 15 (4 * j + 1) = nI (L (s + 2) - 48) := s7 1 (by decide)
    obtain ⟨d0, b0⟩ := pt_digit hL (show s + 1 < m by omega) f0
    obtain ⟨d1, b1⟩ := pt_digit hL (show s + 2 < m by omega) f1
    rw [p1, d0, pp_ob_s, pt_letter hL (show s < m by omega), pp_ob_s, hc, g0, g1, p2, d1, pp_ob_s]
    generalize L (s + 1) - 48 = u at b0 ⊢
    generalize L (s + 2) - 48 = w at b1 ⊢
    rw [if_pos (show nI 98 = 98 by decide +kernel), if_pos (show nI 98 = 98 by decide +kernel)]
    simp only [K_give, pp_lj]
    rcases pi_ball (nI u) with ⟨b, hb, eb, i1, i2⟩ | ⟨i1, i2, -⟩ <;> rw [i1, i2, pp_ob_s, pp_ob_s]
    rotate_left
    · left
      rw [if_pos rfl, if_pos rfl, pp_ob_s, pp_bz_n (Or.inl rfl)]; exact ⟨rfl, rfl⟩
    have hub : u = b := (nI_eq (by omega) (by omega)).mp eb
    subst hub
    rw [if_neg pu_10, if_neg pu_10]
    rcases pq_pl h (nI w) with ⟨p, hp, ep, -, -⟩ | ⟨-, -, hno⟩
    rotate_left
    · left
      obtain ⟨y1, y2⟩ := pq_inN h hno
      rw [y1, y2, pp_ob_s, pp_ob_s, if_pos rfl, if_pos rfl, pp_ob_s, pp_bz_n (Or.inl rfl)]; exact ⟨rfl, rfl⟩
    have hp8 := pq_lt h hp
    have hwp : w = p := (nI_eq (by omega) (by omega)).mp ep
    subst hwp
    obtain ⟨y1, y2⟩ := pq_in h hp
    rw [y1, y2, pp_ob_s, pp_ob_s]
    by_cases ho : zc r 5 w = 0
    rotate_left
    · left
      rw [if_neg ho, if_pos rfl, if_pos rfl, pp_ob_s, pp_bz_n (Or.inl rfl)]; exact ⟨rfl, rfl⟩
    rw [if_pos ho, if_neg pu_10, if_neg pu_10, pp_ix_n hb (by decide), pp_ix_n hb (by decide), pu_c (by omega), (h.2.2.2.2.1 u hb).1]
    have hfin : CW T (G + 1) (x3 x u (nI w) (-9) 0) (r3 r u (nI w) (-9) 0) := (h.mono (Nat.le_refl _) (by omega)).three (Or.inr ⟨w, 0, rfl, hp, ho, rfl, pu_0, by decide⟩)
    rw [pk_hold hb, pr_held hb, pp_ob_s, pp_ob_s]
    by_cases hh : r.2.1 6 u = nI w
    · right
      rw [if_pos hh, if_pos hh, pp_ob_s, pp_bz_n (Or.inr rfl)]
      exact ⟨_, _, rfl, rfl, hfin, FR.three⟩
    · rw [if_neg hh, if_neg hh]
      obtain ⟨c, hc7, ⟨z, z1, z2⟩, z3⟩ := pq_free h hp ho
      rw [z1, pp_ob_s, z2, pp_ob_s, z3, pp_ob_s]
      have e1 : (1 : Int32) = nI 1 := by decide +kernel
      by_cases h2 : 2 ≤ c
      · left
        rw [if_neg (show ¬ nI c ≤ 1 by rw [e1]; exact nI_ge (by omega) (by omega)), if_pos h2, if_pos rfl, pp_ob_s, pp_bz_n (Or.inl rfl)]; exact ⟨rfl, rfl⟩
      · right
        rw [if_pos (show nI c ≤ 1 by rw [e1]; exact nI_le (by omega) (by decide)), if_neg h2, if_neg pu_10, pp_ob_s, pp_bz_n (Or.inr rfl)]
        exact ⟨_, _, rfl, rfl, hfin, FR.three⟩
  · rw [hc] at s4 s6 s7
    have s4 : e = s + 1 + 3 := s4
    have f0 : th_ft 100 (L (s + 1)) = true := s6 0 (by decide)
    have f1 : th_ft 100 (L (s + 2)) = true := s6 1 (by decide)
    have g0 : r.2.1 15 (4 * j) = nI (L (s + 1) - 48) := s7 0 (by decide)
    have g1 : r.2.1 15 (4 * j + 1) = nI (L (s + 2) - 48) := s7 1 (by decide)
    obtain ⟨d0, b0⟩ := pt_digit hL (show s + 1 < m by omega) f0
    obtain ⟨d1, b1⟩ := pt_digit hL (show s + 2 < m by omega) f1
    rw [p1, d0, pp_ob_s, pt_letter hL (show s < m by omega), pp_ob_s, hc, g0, g1, p2, d1, pp_ob_s, pp_ob_s]
    generalize L (s + 1) - 48 = u at b0 ⊢
    generalize L (s + 2) - 48 = w at b1 ⊢
    rw [if_neg (show ¬ nI 103 = 98 by decide +kernel), if_neg (show ¬ nI 103 = 98 by decide +kernel), if_pos (show nI 103 = 103 by decide +kernel), if_pos (show nI 103 = 103 by decide +kernel)]
    simp only [K_lay, pp_lj]
    rcases pi_ball (nI u) with ⟨b, hb, eb, i1, i2⟩ | ⟨i1, i2, -⟩ <;> rw [i1, i2, pp_ob_s, pp_ob_s]
    rotate_left
    · left
      rw [if_pos rfl, if_pos rfl, pp_ob_s, pp_bz_n (Or.inl rfl)]; exact ⟨rfl, rfl⟩
    have hub : u = b := (nI_eq (by omega) (by omega)).mp eb
    subst hub
    rw [if_neg pu_10, if_neg pu_10]
    have h01 : (w < 2 ∧ C_isSide (nI w) = some 1 ∧ nI w ≤ 1) ∨ (C_isSide (nI w) = some 0 ∧ ¬ nI w ≤ 1) := by
      have : ∀ w, w ≤ 9 → (w < 2 ∧ C_isSide (nI w) = some 1 ∧ nI w ≤ 1) ∨ (C_isSide (nI w) = some 0 ∧ ¬ nI w ≤ 1) := by decide +kernel
      exact this w b1
    rcases h01 with ⟨hw, i3, i4⟩ | ⟨i3, i4⟩
    · right
      rw [if_pos i4, i3, pp_ob_s, if_neg pu_10, pr_falls hb, pk_lay hb, pp_ob_s, pp_ob_s, pp_ob_s, pp_bz_n (Or.inr rfl)]
      refine ⟨_, _, rfl, rfl, (h.mono (Nat.le_refl _) (by omega)).three (Or.inl ⟨rfl, ?_, rfl⟩), FR.three⟩
      rcases (show w = 0 ∨ w = 1 by omega) with rfl | rfl
      · exact Or.inl rfl
      · exact Or.inr rfl
    · left
      rw [if_neg i4, i3, pp_ob_s, if_pos rfl, pp_ob_s, pp_bz_n (Or.inl rfl)]; exact ⟨rfl, rfl⟩
  · rw [hc] at s4 s6 s7
    have s4 : e = s + 1 + 2 := s4
    have f0 : th_ft 100 (L (s + 1)) = true := s6 0 (by decide)
    have g0 : r.2.1 15 (4 * j) = nI (L (s + 1) - 48) := s7 0 (by decide)
    obtain ⟨d0, b0⟩ := pt_digit hL (show s + 1 < m by omega) f0
    rw [p1, d0, pp_ob_s, pt_letter hL (show s < m by omega), pp_ob_s, hc, g0]
    generalize L (s + 1) - 48 = u at b0 ⊢
    rw [if_neg (show ¬ nI 111 = 98 by decide +kernel), if_neg (show ¬ nI 111 = 98 by decide +kernel), if_neg (show ¬ nI 111 = 103 by decide +kernel), if_neg (show ¬ nI 111 = 103 by decide +kernel), if_pos (show nI 111 = 111 by decide +kernel), if_neg (show ¬ nI 111 = 112 by decide +kernel)]
    have hout : (R_isHere r (nI u) = some 0 ∧ K_goOut x (nI u) = some (0, x)) ∨ ∃ x1 r1, R_isHere r (nI u) = some 1 ∧ K_goOut x (nI u) = some (1, x1) ∧ R_goesOut r (nI u) = some r1 ∧ CW T (G + 1) x1 r1 ∧ FR r r1 := by
      rcases pq_pl h (nI u) with ⟨p, hp, ep, -, -⟩ | ⟨-, -, hno⟩
      · rw [ep]
        obtain ⟨y1, y2⟩ := pq_in h hp
        by_cases ho : zc r 5 p = 0
        · obtain ⟨x1, r1, k1, k2, k3, k4, -⟩ := pi_out h hG hp ho
          exact Or.inr ⟨x1, r1, by rw [y1, if_pos ho], k1, k2, k3, k4⟩
        · left
          refine ⟨by rw [y1, if_neg ho], ?_⟩
          unfold K_goOut
          rw [y2, if_neg ho, pp_ob_s, if_pos rfl]
      · left
        obtain ⟨y1, y2⟩ := pq_inN h hno
        refine ⟨y1, ?_⟩
        unfold K_goOut
        rw [y2, pp_ob_s, if_pos rfl]
    rcases hout with ⟨y1, y2⟩ | ⟨x1, r1, y1, y2, y3, y4, y5⟩
    · left
      rw [y1, y2, pp_ob_s, pp_ob_s, if_pos rfl, pp_bz_n (Or.inl rfl)]; exact ⟨rfl, rfl⟩
    · right
      rw [y1, y2, pp_ob_s, pp_ob_s, if_neg pu_10, y3, pp_ob_s, pp_bz_n (Or.inr rfl)]
      exact ⟨x1, r1, rfl, rfl, y4, y5⟩
  · rw [hc] at s4 s6 s7
    have s4 : e = s + 1 + 5 := s4
    have f0 : th_ft 100 (L (s + 1)) = true := s6 0 (by decide)
    have f1 : th_ft 107 (L (s + 2)) = true := s6 1 (by decide)
    have f2 : th_ft 100 (L (s + 3)) = true := s6 2 (by decide)
    have f3 : th_ft 100 (L (s + 4)) = true := s6 3 (by decide)
    have g0 : r.2.1 15 (4 * j) = nI (L (s + 1) - 48) := s7 0 (by decide)
    have g1 : r.2.1 15 (4 * j + 1) = nI (th_kd (L (s + 2))) := s7 1 (by decide)
    have g2 : r.2.1 15 (4 * j + 2) = nI (L (s + 3) - 48) := s7 2 (by decide)
    have g3 : r.2.1 15 (4 * j + 3) = nI (L (s + 4) - 48) := s7 3 (by decide)
    obtain ⟨d0, b0⟩ := pt_digit hL (show s + 1 < m by omega) f0
    obtain ⟨d1, b1⟩ := pt_kind hL (show s + 2 < m by omega) f1
    obtain ⟨d2, b2⟩ := pt_digit hL (show s + 3 < m by omega) f2
    obtain ⟨d3, b3⟩ := pt_digit hL (show s + 4 < m by omega) f3
    rw [p1, d0, pp_ob_s, pt_letter hL (show s < m by omega), pp_ob_s, hc, p2, d1, pp_ob_s, p3, d2, pp_ob_s, p4, d3, pp_ob_s]
    rw [if_neg (show ¬ nI 112 = 98 by decide +kernel), if_neg (show ¬ nI 112 = 98 by decide +kernel), if_neg (show ¬ nI 112 = 103 by decide +kernel), if_neg (show ¬ nI 112 = 103 by decide +kernel), if_pos (show nI 112 = 112 by decide +kernel), if_neg (show ¬ nI 112 = 111 by decide +kernel), if_pos (show nI 112 = 112 by decide +kernel)]
    generalize L (s + 1) - 48 = u at b0 g0 ⊢
    generalize th_kd (L (s + 2)) = k at b1 g1 ⊢
    generalize L (s + 3) - 48 = a at b2 g2 ⊢
    generalize L (s + 4) - 48 = y at b3 g3 ⊢
    obtain ⟨hn, hn8⟩ := h.1.1
    have hx := h.2.1
    have h01 : (u < 2 ∧ C_isSide (nI u) = some 1 ∧ ¬ (1 : Int32) < nI u) ∨ (C_isSide (nI u) = some 0 ∧ (1 : Int32) < nI u) := by
      have : ∀ w, w ≤ 9 → (w < 2 ∧ C_isSide (nI w) = some 1 ∧ ¬ (1 : Int32) < nI w) ∨ (C_isSide (nI w) = some 0 ∧ (1 : Int32) < nI w) := by decide +kernel
      exact this u b0
    by_cases hadd : u < 2 ∧ zn r < 8
    · right
      obtain ⟨hu, hn'⟩ := hadd
      have hu1 : ¬ (1 : Int32) < nI u := by
        rcases h01 with ⟨-, -, e⟩ | ⟨-, e⟩
        · exact e
        · exact absurd e (by rw [show (1 : Int32) = nI 1 from by decide +kernel]; exact nI_nlt (by omega) (by decide))
      have hres := (h.mono (Nat.le_refl _) (show G ≤ G + 1 by omega)).add hn' hu b1 b2 b3
      rw [pr_add hn hn' hj hu1 g0 g1 g2 g3, pk_add (hx.trans hn) hn' hu rfl, pp_ob_s, pp_ob_s, pp_bz_n (Or.inr rfl), pp_bz_n (Or.inr rfl)]
      exact ⟨_, _, rfl, rfl, hres, FR.add⟩
    · left
      have hR : R_comesPlayer r (nI (4 * j)) = some (0, r) := by
        simp only [R_comesPlayer, pp_lj]
        rw [pp_ix_n (show 4 * j < 160 by omega) (by decide), pu_c (show 4 * j < 2 ^ 31 by omega), g0]
        by_cases hu1 : (1 : Int32) < nI u
        · rw [if_pos hu1]
        · have hu2 : u < 2 := by
            rcases h01 with ⟨e, -, -⟩ | ⟨-, e⟩
            · exact e
            · exact absurd e hu1
          rw [if_neg hu1, hn, if_pos (show nI (zn r) = 8 by rw [show zn r = 8 by omega]; decide +kernel)]
      have hK : K_add x (np_ci (nI k), cn_f (nI k) (nI u) (nI a) (nI y)) = some (0, x) := by
        simp only [K_add, pp_lj]
        rw [show (cn_f (nI k) (nI u) (nI a) (nI y)) 1 = nI u from rfl]
        rcases h01 with ⟨hu2, i3, -⟩ | ⟨i3, -⟩
        · rw [i3, pp_ob_s, if_neg pu_10, hx, hn, pu_8, if_neg (nI_nlt (by omega) (by omega))]
        · rw [i3, pp_ob_s, if_pos rfl]
      rw [hR, hK, pp_ob_s, pp_ob_s, pp_bz_n (Or.inl rfl), pp_bz_n (Or.inl rfl)]
      exact ⟨rfl, rfl⟩
