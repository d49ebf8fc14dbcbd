/-! rows that agree stand for the same court -/
section CWC
variable {T G : Nat} {x : cc_CT} {r r' : rr_S}
theorem zi_cong (en : zn r' = zn r) (a2 : zn r ≤ 8) (ec : ∀ k p, 1 ≤ k → k ≤ 5 → p < 8 → zc r' k p = zc r k p) (s p : Nat) : zi r' s p = zi r s p := by
  unfold zi; rw [en]
  by_cases hp : p < zn r
  · rw [ec 1 p (by decide) (by decide) (by omega), ec 5 p (by decide) (by decide) (by omega)]
  · rw [decide_eq_false hp, Bool.false_and, Bool.false_and]
theorem zw_cong (en : zn r' = zn r) (a2 : zn r ≤ 8) (ec : ∀ k p, 1 ≤ k → k ≤ 5 → p < 8 → zc r' k p = zc r k p) (s p : Nat) : zw r' s p = zw r s p := by
  unfold zw; rw [en]
  by_cases hp : p < zn r
  · rw [ec 1 p (by decide) (by decide) (by omega), ec 5 p (by decide) (by decide) (by omega)]
  · rw [decide_eq_false hp, Bool.false_and, Bool.false_and]
theorem za_cong (en : zn r' = zn r) (a2 : zn r ≤ 8) (ec : ∀ k p, 1 ≤ k → k ≤ 5 → p < 8 → zc r' k p = zc r k p) (s o : Nat) : za r' s o = za r s o := by
  unfold za
  exact List.countP_congr (fun k hk => by rw [zw_cong en a2 ec, ec 5 k (by decide) (by decide) (List.mem_range.mp hk)])
theorem zk_cong (en : zn r' = zn r) (a2 : zn r ≤ 8) (ec : ∀ k p, 1 ≤ k → k ≤ 5 → p < 8 → zc r' k p = zc r k p) (s : Nat) : zk r' s = zk r s := by
  unfold zk
  exact List.countP_congr (fun k hk => by rw [zw_cong en a2 ec])
theorem zw_lt (a2 : zn r ≤ 8) {s p : Nat} (hp : zw r s p = true) : p < 8 := by
  unfold zw at hp
  by_cases hq : p < zn r
  · omega
  · rw [decide_eq_false hq] at hp; cases hp
theorem RW.cong (h : RW T G r) (h9 : r'.1 9 = r.1 9) (h10 : r'.1 10 = r.1 10) (h11 : r'.1 11 = r.1 11) (hA : ∀ k p, 1 ≤ k → k ≤ 5 → p < 8 → r'.2.1 k p = r.2.1 k p) (hB : ∀ k b, 6 ≤ k → k ≤ 8 → b < 6 → r'.2.1 k b = r.2.1 k b) : RW T G r' := by
  have en : zn r' = zn r := by unfold zn; rw [h9]
  have et : zt r' = zt r := by unfold zt; rw [h10]
  have eg : zg r' = zg r := by unfold zg; rw [h11]
  have ec : ∀ k p, 1 ≤ k → k ≤ 5 → p < 8 → zc r' k p = zc r k p := fun k p a b c => by unfold zc; rw [hA k p a b c]
  have eb : ∀ k p, 6 ≤ k → k ≤ 8 → p < 6 → zc r' k p = zc r k p := fun k p a b c => by unfold zc; rw [hB k p a b c]
  obtain ⟨⟨a1, a2⟩, ⟨a3, a4⟩, ⟨a5, a6⟩, a7, a8, a9⟩ := h
  refine ⟨⟨by rw [h9, en]; exact a1, by rw [en]; exact a2⟩, ⟨by rw [h10, et]; exact a3, by rw [et]; exact a4⟩, ⟨by rw [h11, eg]; exact a5, by rw [eg]; exact a6⟩, fun p hp => ?_, fun p p' hp hp' => ?_, fun b hb => ?_⟩
  · rw [en] at hp
    have hp8 : p < 8 := by omega
    obtain ⟨d0, d1⟩ := a7 p hp
    rw [ec 1 p (by decide) (by decide) hp8, ec 2 p (by decide) (by decide) hp8, ec 3 p (by decide) (by decide) hp8, ec 4 p (by decide) (by decide) hp8, ec 5 p (by decide) (by decide) hp8, eg]
    refine ⟨fun k hk => ?_, d1⟩
    by_cases hk0 : k = 0
    · exact Or.inr hk0
    · rw [ec k p (by omega) (by omega) hp8, hA k p (by omega) (by omega) hp8]; exact d0 k hk
  · rw [en] at hp hp'
    rw [ec 5 p (by decide) (by decide) (by omega), ec 5 p' (by decide) (by decide) (by omega)]
    exact a8 p p' hp hp'
  · have d := a9 b hb
    rw [hB 6 b (by decide) (by decide) hb, hB 7 b (by decide) (by decide) hb, hB 8 b (by decide) (by decide) hb, eb 6 b (by decide) (by decide) hb, eb 8 b (by decide) (by decide) hb, en]
    rcases d with d | ⟨d1, d2, d3, d4⟩
    · exact Or.inl d
    · exact Or.inr ⟨d1, d2, by rw [ec 5 _ (by decide) (by decide) (by omega)]; exact d3, d4⟩
theorem CR.cong (h : CR x r) (a2 : zn r ≤ 8) (h9 : r'.1 9 = r.1 9) (h10 : r'.1 10 = r.1 10) (hA : ∀ k p, 1 ≤ k → k ≤ 5 → p < 8 → r'.2.1 k p = r.2.1 k p) (hB : ∀ k b, 6 ≤ k → k ≤ 8 → b < 6 → r'.2.1 k b = r.2.1 k b) : CR x r' := by
  have en : zn r' = zn r := by unfold zn; rw [h9]
  have ec : ∀ k p, 1 ≤ k → k ≤ 5 → p < 8 → zc r' k p = zc r k p := fun k p a b c => by unfold zc; rw [hA k p a b c]
  obtain ⟨c1, c2, c3, c4, c5⟩ := h
  refine ⟨by rw [h9]; exact c1, by rw [h10]; exact c2, fun p hp => ?_, fun b hb => ?_, fun s hs => ?_⟩
  · rw [en] at hp
    have hp8 : p < 8 := by omega
    rw [hA 1 p (by decide) (by decide) hp8, hA 2 p (by decide) (by decide) hp8, hA 3 p (by decide) (by decide) hp8, hA 4 p (by decide) (by decide) hp8]
    exact c3 p hp
  · rw [hB 6 b (by decide) (by decide) hb, hB 7 b (by decide) (by decide) hb, hB 8 b (by decide) (by decide) hb]
    exact c4 b hb
  · obtain ⟨⟨m, m1, m2, m3⟩, m4, m5, m6⟩ := c5 s hs
    rw [zk_cong en a2 ec]
    refine ⟨⟨m, m1, m2, fun p hp => by rw [zi_cong en a2 ec]; exact m3 p hp⟩, m4, fun j hj => ?_, fun p hp => ?_⟩
    · obtain ⟨p, p1, p2, p3⟩ := m5 j hj
      exact ⟨p, by rw [zw_cong en a2 ec]; exact p1, by rw [za_cong en a2 ec, ec 5 p (by decide) (by decide) (zw_lt a2 p1)]; exact p2, p3⟩
    · rw [zw_cong en a2 ec] at hp
      rw [za_cong en a2 ec, ec 5 p (by decide) (by decide) (zw_lt a2 hp)]
      exact m6 p hp
theorem CW.cong (h : CW T G x r) (h9 : r'.1 9 = r.1 9) (h10 : r'.1 10 = r.1 10) (h11 : r'.1 11 = r.1 11) (hA : ∀ k p, 1 ≤ k → k ≤ 5 → p < 8 → r'.2.1 k p = r.2.1 k p) (hB : ∀ k b, 6 ≤ k → k ≤ 8 → b < 6 → r'.2.1 k b = r.2.1 k b) : CW T G x r' := ⟨h.1.cong h9 h10 h11 hA hB, h.2.cong h.1.1.2 h9 h10 hA hB⟩
end CWC
theorem CW.mono {T G T' G' : Nat} {x : cc_CT} {r : rr_S} (h : CW T G x r) (hT : T ≤ T') (hG : G ≤ G') : CW T' G' x r := by
  obtain ⟨⟨a1, ⟨a3, a4⟩, ⟨a5, a6⟩, a7⟩, c⟩ := h
  exact ⟨⟨a1, ⟨a3, by omega⟩, ⟨a5, by omega⟩, a7⟩, c⟩
/-- the rows of the image -/
def zim (w : Nat) (r : rr_S) : rr_S := (fun k => if k = 9 then r.2.1 19 (w + 58) else if k = 10 then r.2.1 19 (w + 59) else if k = 11 then r.2.1 19 (w + 60) else r.1 k, fun k i => if k = 1 then r.2.1 19 (w + i) else if k = 2 then r.2.1 19 (w + 8 + i) else if k = 3 then r.2.1 19 (w + 16 + i) else if k = 4 then r.2.1 19 (w + 24 + i) else if k = 5 then r.2.1 19 (w + 32 + i) else if k = 6 then r.2.1 19 (w + 40 + i) else if k = 7 then r.2.1 19 (w + 46 + i) else if k = 8 then r.2.1 19 (w + 52 + i) else r.2.1 k i, r.2.2)
def IR (q : cc_S) (r : rr_S) : Prop := ∀ k, k < 7 → q.1.2.1 8 k = r.2.1 0 k
def IO (q : cc_S) (r : rr_S) : Prop := ∃ m, m ≤ 12 ∧ q.1.1 7 = nI m ∧ r.1 26 = nI m ∧ ∀ k, k < m → q.1.2.1 6 k = r.2.1 25 k ∧ ∃ v, v ≤ 9999 ∧ r.2.1 25 k = nI v
def IT (q : cc_S) (r : rr_S) : Prop := ∃ m, m ≤ 80 ∧ q.2.1.1 1 = nI m ∧ r.1 16 = nI m ∧ ∀ k, k < m → q.2.1.2.1 0 k = r.2.1 12 k ∧ ∃ v, v ≤ 255 ∧ r.2.1 12 k = nI v
def IK (G : Nat) (q : cc_S) (r : rr_S) : Prop := q.1.1 4 = r.1 20 ∧ (r.1 20 = 0 ∨ r.1 20 = 1 ∧ CW 9999 G (q.2.2.1 2) (zim 0 r))
/-- both objects between two calls -/
def II (j : Nat) (q : cc_S) (r : rr_S) : Prop := CW 9999 (40 * j) (q.2.2.1 0) r ∧ IK (40 * j) q r ∧ IR q r ∧ IO q r ∧ IT q r
theorem II.up {j : Nat} {q : cc_S} {r : rr_S} (h : II j q r) : II (j + 1) q r := by
  obtain ⟨a, ⟨b1, b2⟩, c⟩ := h
  exact ⟨a.mono (by decide) (by omega), ⟨b1, b2.imp id (fun h => ⟨h.1, h.2.mono (by decide) (by omega)⟩)⟩, c⟩
theorem CW.frame {T G : Nat} {x : cc_CT} {r r' : rr_S} (h : CW T G x r) (h1 : ∀ k, k = 9 ∨ k = 10 ∨ k = 11 → r'.1 k = r.1 k) (h2 : ∀ k, 1 ≤ k → k ≤ 8 → r'.2.1 k = r.2.1 k) : CW T G x r' := h.cong (h1 9 (Or.inl rfl)) (h1 10 (Or.inr (Or.inl rfl))) (h1 11 (Or.inr (Or.inr rfl))) (fun k p a b _ => by rw [h2 k a (by omega)]) (fun k p a b _ => by rw [h2 k (by omega) b])
theorem rr_An {q : rr_S} {k i k' : Nat} {v : Int32} (h : k' ≠ k) : (rr_A q k i v).2.1 k' = q.2.1 k' := if_neg h
theorem rr_Ae {q : rr_S} {k i : Nat} {v : Int32} : (rr_A q k i v).2.1 k = upd (q.2.1 k) i v := if_pos rfl
theorem rr_In {q : rr_S} {k k' : Nat} {v : Int32} (h : k' ≠ k) : (rr_I q k v).1 k' = q.1 k' := if_neg h
theorem rr_Ie {q : rr_S} {k : Nat} {v : Int32} : (rr_I q k v).1 k = v := if_pos rfl
theorem CW.image {T G w : Nat} {x : cc_CT} {r r' : rr_S} (h : CW T G x (zim w r)) (e : r'.2.1 19 = r.2.1 19) : CW T G x (zim w r') := h.frame (fun k hk => by rcases hk with rfl | rfl | rfl <;> simp [zim, e]) (fun k a b => by rcases (show k = 1 ∨ k = 2 ∨ k = 3 ∨ k = 4 ∨ k = 5 ∨ k = 6 ∨ k = 7 ∨ k = 8 by omega) with rfl | rfl | rfl | rfl | rfl | rfl | rfl | rfl <;> simp [zim, e])
/-- a refusal, on both sides -/
theorem pi_no {j : Nat} {q : cc_S} {r : rr_S} (h : II j q r) {why : Int32} (hw : why = -1 ∨ why = -2 ∨ why = -3 ∨ why = -4 ∨ why = -6) : ∃ q1 r1, C_refused q why = some (why, q1) ∧ R_no r why = some (why, r1) ∧ R_lower r why = some (1000000000 - why, r1) ∧ R_lowest r why = some (4000000000000000000 - Int32.toInt64 why, r1) ∧ II (j + 1) q1 r1 := by
  obtain ⟨i, hi, hi7, hi0, hi8⟩ : ∃ i, -why = nI i ∧ i < 7 ∧ ¬ -why ≤ 0 ∧ ¬ Int32.ofNat 7 ≤ -why := by
    rcases hw with rfl | rfl | rfl | rfl | rfl
    · exact ⟨1, by decide +kernel, by decide, by decide +kernel, by decide +kernel⟩
    · exact ⟨2, by decide +kernel, by decide, by decide +kernel, by decide +kernel⟩
    · exact ⟨3, by decide +kernel, by decide, by decide +kernel, by decide +kernel⟩
    · exact ⟨4, by decide +kernel, by decide, by decide +kernel, by decide +kernel⟩
    · exact ⟨6, by decide +kernel, by decide, by decide +kernel, by decide +kernel⟩
  simp only [C_refused, R_no, R_lower, R_lowest, pp_lj]
  rw [if_neg hi0, if_neg hi8, hi, pp_ix_n hi7 (by decide), pp_ix_n hi7 (by decide), pp_ix_n hi7 (by decide), pp_ix_n hi7 (by decide), pu_c (by omega)]
  refine ⟨_, _, rfl, rfl, rfl, rfl, ?_⟩
  obtain ⟨a, ⟨b1, b2⟩, c, d, e⟩ := h.up
  refine ⟨a.frame (fun k _ => rfl) (fun k k1 _ => rr_An (by omega)), ⟨b1, b2.imp id (fun h => ⟨h.1, h.2.image rfl⟩)⟩, fun k hk => ?_, d, e⟩
  show upd (q.1.2.1 8) i _ k = upd (r.2.1 0) i _ k
  unfold upd
  rw [c i hi7]
  split
  · rfl
  · exact c k hk
