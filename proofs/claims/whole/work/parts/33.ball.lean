/-! a ball changes hands; a tenth goes by -/
/-- how a ball may lie or be held -/
def BG (r : rr_S) (h l d : Int32) : Prop := (h = -9 ∧ (l = 0 ∨ l = 1) ∧ d = 0) ∨ (∃ p n, h = nI p ∧ p < zn r ∧ zc r 5 p = 0 ∧ l = -9 ∧ d = nI n ∧ n ≤ 9)
section BALL
variable {T G : Nat} {x x' : cc_CT} {r r' : rr_S}
theorem BG.of (h : CW T G x r) {b : Nat} (hb : b < 6) : BG r (r.2.1 6 b) (r.2.1 7 b) (r.2.1 8 b) := by
  rcases h.1.2.2.2.2.2 b hb with h | ⟨h1, h2, h3, h4, h5, h6⟩
  · exact Or.inl h
  · exact Or.inr ⟨_, _, h1, h2, h3, h4, h5, h6⟩
theorem CW.ball (h : CW T G x r) {b : Nat} (h9 : r'.1 9 = r.1 9) (h10 : r'.1 10 = r.1 10) (h11 : r'.1 11 = r.1 11) (hA : ∀ k p, 1 ≤ k → k ≤ 5 → p < 8 → r'.2.1 k p = r.2.1 k p) (x1 : x'.1.1 1 = x.1.1 1) (x7 : x'.1.1 7 = x.1.1 7) (x2 : x'.2 = x.2)
    (hB : ∀ b', b' < 6 → b' ≠ b → r'.2.1 6 b' = r.2.1 6 b' ∧ r'.2.1 7 b' = r.2.1 7 b' ∧ r'.2.1 8 b' = r.2.1 8 b' ∧ x'.1.2.1 4 b' = x.1.2.1 4 b' ∧ x'.1.2.1 5 b' = x.1.2.1 5 b' ∧ x'.1.2.1 6 b' = x.1.2.1 6 b')
    (hN : x'.1.2.1 4 b = r'.2.1 6 b ∧ x'.1.2.1 5 b = r'.2.1 7 b ∧ x'.1.2.1 6 b = r'.2.1 8 b) (hG : BG r (r'.2.1 6 b) (r'.2.1 7 b) (r'.2.1 8 b)) : CW T G x' r' := by
  have en : zn r' = zn r := by unfold zn; rw [h9]
  have et : zt r' = zt r := by unfold zt; rw [h10]
  have eg : zg r' = zg r := by unfold zg; rw [h11]
  have ec : ∀ k p, 1 ≤ k → k ≤ 5 → p < 8 → zc r' k p = zc r k p := fun k p a b c => by unfold zc; rw [hA k p a b c]
  have hOld : ∀ b', b' < 6 → BG r (r'.2.1 6 b') (r'.2.1 7 b') (r'.2.1 8 b') := fun b' hb' => by
    by_cases hbb : b' = b
    · subst hbb; exact hG
    · obtain ⟨e1, e2, e3, -⟩ := hB b' hb' hbb
      rw [e1, e2, e3]; exact BG.of h hb'
  obtain ⟨⟨⟨a1, a2⟩, ⟨a3, a4⟩, ⟨a5, a6⟩, a7, a8, a9⟩, c1, c2, c3, c4, c5⟩ := h
  refine ⟨⟨⟨by rw [h9, en]; exact a1, by rw [en]; exact a2⟩, ⟨by rw [h10, et]; exact a3, by rw [et]; exact a4⟩, ⟨by rw [h11, eg]; exact a5, by rw [eg]; exact a6⟩, fun p hp => ?_, fun p p' hp hp' => ?_, fun b' hb' => ?_⟩, by rw [h9, x1]; exact c1, by rw [h10, x7]; exact c2, fun p hp => ?_, fun b' hb' => ?_, fun s hs => ?_⟩
  · rw [en] at hp
    have hp8 : p < 8 := by omega
    obtain ⟨d0, d1⟩ := a7 p hp
    rw [ec 1 p (by decide) (by decide) hp8, ec 2 p (by decide) (by decide) hp8, ec 3 p (by decide) (by decide) hp8, ec 4 p (by decide) (by decide) hp8, ec 5 p (by decide) (by decide) hp8, eg]
    refine ⟨fun k hk => ?_, d1⟩
    by_cases hk0 : k = 0
    · exact Or.inr hk0
    · rw [ec k p (by omega) (by omega) hp8, hA k p (by omega) (by omega) hp8]; exact d0 k hk
  · rw [en] at hp hp'
    rw [ec 5 p (by decide) (by decide) (by omega), ec 5 p' (by decide) (by decide) (by omega)]
    exact a8 p p' hp hp'
  · rcases hOld b' hb' with d | ⟨p, n, d1, d2, d3, d4, d5, d6⟩
    · exact Or.inl d
    · have z1 : zc r' 6 b' = p := by unfold zc; rw [d1]; exact pu_c (by omega)
      have z2 : zc r' 8 b' = n := by unfold zc; rw [d5]; exact pu_c (by omega)
      rw [z1, z2, en, ec 5 p (by decide) (by decide) (by omega)]
      exact Or.inr ⟨d1, d2, d3, d4, d5, d6⟩
  · rw [en] at hp
    have hp8 : p < 8 := by omega
    rw [x2, hA 1 p (by decide) (by decide) hp8, hA 2 p (by decide) (by decide) hp8, hA 3 p (by decide) (by decide) hp8, hA 4 p (by decide) (by decide) hp8]
    exact c3 p hp
  · by_cases hbb : b' = b
    · subst hbb; exact hN
    · obtain ⟨e1, e2, e3, e4, e5, e6⟩ := hB b' hb' hbb
      rw [e1, e2, e3, e4, e5, e6]; exact c4 b' hb'
  · rw [x2]
    obtain ⟨⟨m, m1, m2, m3⟩, m4, m5, m6⟩ := c5 s hs
    rw [zk_cong en a2 ec]
    refine ⟨⟨m, m1, m2, fun p hp => by rw [zi_cong en a2 ec]; exact m3 p hp⟩, m4, fun j hj => ?_, fun p hp => ?_⟩
    · obtain ⟨p, p1, p2, p3⟩ := m5 j hj
      exact ⟨p, by rw [zw_cong en a2 ec]; exact p1, by rw [za_cong en a2 ec, ec 5 p (by decide) (by decide) (zw_lt a2 p1)]; exact p2, p3⟩
    · rw [zw_cong en a2 ec] at hp
      rw [za_cong en a2 ec, ec 5 p (by decide) (by decide) (zw_lt a2 hp)]
      exact m6 p hp
/-- both sides give a ball its three numbers -/
def r3 (r : rr_S) (b : Nat) (h l d : Int32) : rr_S := rr_A (rr_A (rr_A r 6 b h) 7 b l) 8 b d
def x3 (x : cc_CT) (b : Nat) (h l d : Int32) : cc_CT := cc_ca (cc_ca (cc_ca x 4 b h) 5 b l) 6 b d
theorem rr_Ap {q : rr_S} {k i k' i' : Nat} {v : Int32} : (rr_A q k i v).2.1 k' i' = if k' = k ∧ i' = i then v else q.2.1 k' i' := by
  show (if k' = k then upd (q.2.1 k) i v else q.2.1 k') i' = _
  by_cases hk : k' = k
  · subst hk
    rw [if_pos rfl]
    by_cases hi : i' = i
    · subst hi; rw [upd_e, if_pos ⟨rfl, rfl⟩]
    · rw [upd_n hi, if_neg (fun h => hi h.2)]
  · rw [if_neg hk, if_neg (fun h => hk h.1)]
theorem cc_Ap {x : cc_CT} {k i k' i' : Nat} {v : Int32} : (cc_ca x k i v).1.2.1 k' i' = if k' = k ∧ i' = i then v else x.1.2.1 k' i' := rr_Ap (q := x.1)
theorem r3_n {b k i : Nat} {h l d : Int32} (hk : (k ≠ 6 ∧ k ≠ 7 ∧ k ≠ 8) ∨ i ≠ b) : (r3 r b h l d).2.1 k i = r.2.1 k i := by
  unfold r3
  rw [rr_Ap, if_neg (by omega), rr_Ap, if_neg (by omega), rr_Ap, if_neg (by omega)]
theorem r3_6 {b : Nat} {h l d : Int32} : (r3 r b h l d).2.1 6 b = h := by simp [r3, rr_A, upd]
theorem r3_7 {b : Nat} {h l d : Int32} : (r3 r b h l d).2.1 7 b = l := by simp [r3, rr_A, upd]
theorem r3_8 {b : Nat} {h l d : Int32} : (r3 r b h l d).2.1 8 b = d := by simp [r3, rr_A, upd]
theorem x3_n {b k i : Nat} {h l d : Int32} (hk : i ≠ b) : (x3 x b h l d).1.2.1 k i = x.1.2.1 k i := by
  unfold x3
  rw [cc_Ap, if_neg (by omega), cc_Ap, if_neg (by omega), cc_Ap, if_neg (by omega)]
theorem CW.three (h : CW T G x r) {b : Nat} {hd l d : Int32} (hG : BG r hd l d) : CW T G (x3 x b hd l d) (r3 r b hd l d) :=
  h.ball (b := b) rfl rfl rfl (fun k p a c _ => r3_n (by omega)) rfl rfl rfl (fun b' _ hne => ⟨r3_n (Or.inr hne), r3_n (Or.inr hne), r3_n (Or.inr hne), x3_n hne, x3_n hne, x3_n hne⟩) ⟨by rw [r3_6]; simp [x3, cc_ca, rr_A, upd], by rw [r3_7]; simp [x3, cc_ca, rr_A, upd], by rw [r3_8]; simp [x3, cc_ca, rr_A, upd]⟩ (by rw [r3_6, r3_7, r3_8]; exact hG)
theorem FR.three {b : Nat} {h l d : Int32} : FR r (r3 r b h l d) := ⟨fun _ _ _ _ => rfl, fun k hk => by funext i; exact r3_n (by omega), rfl⟩
theorem pr_falls {b : Nat} (hb : b < 6) (to : Int32) : R_falls r (nI b) to = some (r3 r b (-9) to 0) := by
  simp only [R_falls, pp_lj]; rw [pp_ix_n hb (by decide), pu_c (by omega)]; rfl
theorem pr_held {b : Nat} (hb : b < 6) (p : Int32) : R_isHeld r (nI b) p = some (r3 r b p (-9) 0) := by
  simp only [R_isHeld, pp_lj]; rw [pp_ix_n hb (by decide), pu_c (by omega)]; rfl
theorem pk_isBall {b : Nat} (hb : b < 6) : C_isBall (nI b) = some 1 := by
  rcases pi_ball (nI b) with ⟨-, -, -, -, e⟩ | ⟨-, -, e⟩
  · exact e
  · exact absurd rfl (e b hb)
theorem pk_lay {b : Nat} (hb : b < 6) (to : Int32) : K_layOn x (nI b) to = some (x3 x b (-9) to 0) := by
  simp only [K_layOn, pp_lj]; rw [pk_isBall hb, pp_ob_s, if_neg pu_10, pp_ix_n hb (by decide), pu_c (by omega)]; rfl
theorem pk_hold {b : Nat} (hb : b < 6) (p : Int32) : K_hold x (nI b) p = some (x3 x b p (-9) 0) := by
  simp only [K_hold, pp_lj]; rw [pk_isBall hb, pp_ob_s, if_neg pu_10, pp_ix_n hb (by decide), pu_c (by omega)]; rfl
end BALL
