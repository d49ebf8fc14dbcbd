section KEEP
variable {T G w : Nat} {x : cc_CT} {r r' r2 : rr_S}
theorem CW.keep (h : CW T G x r) (hK : KF w r r') : CW T G x r' ∧ CW T G x (zim w r') := by
  obtain ⟨a1, a2, a3, a4, a5, b9, b10, b11⟩ := hK
  refine ⟨h.cong (a1 9 (by decide) (by decide)) (a1 10 (by decide) (by decide)) (a1 11 (by decide) (by decide)) (fun k p _ _ _ => by rw [a2 k (by omega)]) (fun k b _ _ _ => by rw [a2 k (by omega)]), h.cong (r' := zim w r') b9 b10 b11 (fun k p k1 k5 hp => ?_) (fun k b k6 k8 hb => ?_)⟩
  · have := a5 k p k1 (by omega) (by unfold znn; rw [if_pos k5]; exact hp)
    rcases (show k = 1 ∨ k = 2 ∨ k = 3 ∨ k = 4 ∨ k = 5 by omega) with rfl | rfl | rfl | rfl | rfl <;> exact this
  · have := a5 k b (by omega) (by omega) (by unfold znn; rw [if_neg (by omega)]; exact hb)
    rcases (show k = 6 ∨ k = 7 ∨ k = 8 by omega) with rfl | rfl | rfl <;> exact this
theorem CW.back (h : CW T G x (zim w r)) (hR : RF w r r') : CW T G x r' := by
  obtain ⟨a1, a2, a3, a5, b9, b10, b11⟩ := hR
  refine h.cong (r := zim w r) b9 b10 b11 (fun k p k1 k5 hp => ?_) (fun k b k6 k8 hb => ?_)
  · have := a5 k p k1 (by omega) (by unfold znn; rw [if_pos k5]; exact hp)
    rcases (show k = 1 ∨ k = 2 ∨ k = 3 ∨ k = 4 ∨ k = 5 by omega) with rfl | rfl | rfl | rfl | rfl <;> exact this
  · have := a5 k b (by omega) (by omega) (by unfold znn; rw [if_neg (by omega)]; exact hb)
    rcases (show k = 6 ∨ k = 7 ∨ k = 8 by omega) with rfl | rfl | rfl <;> exact this
/-- an image stands while its cells do -/
theorem CW.imageS (h : CW T G x (zim w r)) (e : ∀ i, i < 61 → r'.2.1 19 (w + i) = r.2.1 19 (w + i)) : CW T G x (zim w r') := by
  refine h.cong (r := zim w r) (r' := zim w r') (e 58 (by decide)) (e 59 (by decide)) (e 60 (by decide)) (fun k p k1 k5 hp => ?_) (fun k b k6 k8 hb => ?_)
  · rcases (show k = 1 ∨ k = 2 ∨ k = 3 ∨ k = 4 ∨ k = 5 by omega) with rfl | rfl | rfl | rfl | rfl
    · exact e p (by omega)
    · have := e (8 + p) (by omega); rw [← Nat.add_assoc] at this; exact this
    · have := e (16 + p) (by omega); rw [← Nat.add_assoc] at this; exact this
    · have := e (24 + p) (by omega); rw [← Nat.add_assoc] at this; exact this
    · have := e (32 + p) (by omega); rw [← Nat.add_assoc] at this; exact this
  · rcases (show k = 6 ∨ k = 7 ∨ k = 8 by omega) with rfl | rfl | rfl
    · have := e (40 + b) (by omega); rw [← Nat.add_assoc] at this; exact this
    · have := e (46 + b) (by omega); rw [← Nat.add_assoc] at this; exact this
    · have := e (52 + b) (by omega); rw [← Nat.add_assoc] at this; exact this
/-- what stands while things are tried out: refusals, the row, the image -/
def FS (r r' : rr_S) : Prop := (∀ k, k = 20 ∨ k = 26 → r'.1 k = r.1 k) ∧ (∀ k, k = 0 ∨ k = 25 → r'.2.1 k = r.2.1 k) ∧ (∀ i, i < 61 → r'.2.1 19 i = r.2.1 19 i)
theorem FS.tr (h : FS r r') (h2 : FS r' r2) : FS r r2 := ⟨fun k hk => (h2.1 k hk).trans (h.1 k hk), fun k hk => (h2.2.1 k hk).trans (h.2.1 k hk), fun i hi => (h2.2.2 i hi).trans (h.2.2 i hi)⟩
theorem FR.fs (h : FR r r') : FS r r' := ⟨fun k hk => h.1 k (by omega) (by omega) (by omega), fun k hk => h.2.1 k (by omega), fun i _ => by rw [h.2.1 19 (by omega)]⟩
theorem KF.fs (h : KF 65 r r') : FS r r' := ⟨fun k hk => h.1 k (by omega) (by omega), fun k hk => h.2.1 k (by omega), fun i hi => h.2.2.2.1 i (by omega)⟩
theorem RF.fs (h : RF w r r') : FS r r' := ⟨fun k hk => h.1 k (by omega) (by omega) (by omega) (by omega) (by omega), fun k hk => h.2.1 k (by omega), fun i _ => by rw [h.2.1 19 (by omega)]⟩
theorem FS.I {k : Nat} {v : Int32} (h1 : k ≠ 20) (h2 : k ≠ 26) : FS r (rr_I r k v) := ⟨fun k' hk => rr_In (by omega), fun _ _ => rfl, fun _ _ => rfl⟩
theorem IT.same {q q' : cc_S} (h : IT q r) (e1 : q'.2.1 = q.2.1) (e2 : r'.1 16 = r.1 16) (e3 : r'.2.1 12 = r.2.1 12) : IT q' r' := by
  obtain ⟨m, d1, d2, d3, d4⟩ := h
  exact ⟨m, d1, by rw [e1]; exact d2, by rw [e2]; exact d3, fun k hk => by rw [e1, e3]; exact d4 k hk⟩
theorem II.courtS {j : Nat} {q q' : cc_S} (h : II j q r) (e4 : q'.1.1 4 = q.1.1 4) (e7 : q'.1.1 7 = q.1.1 7) (e6 : q'.1.2.1 6 = q.1.2.1 6) (e8 : q'.1.2.1 8 = q.1.2.1 8) (e3 : q'.2.2.1 2 = q.2.2.1 2) (hF : FS r r') (hT : IT q' r') (hC : CW 9999 (40 * (j + 1)) (q'.2.2.1 0) r') : II (j + 1) q' r' := by
  obtain ⟨-, ⟨b1, b2⟩, c, ⟨m, d1, d2, d3, d4⟩, -⟩ := h.up
  obtain ⟨g1, g2, g3⟩ := hF
  have i20 := g1 20 (Or.inl rfl)
  have i26 := g1 26 (Or.inr rfl)
  have k0 := g2 0 (Or.inl rfl)
  have k25 := g2 25 (Or.inr rfl)
  refine ⟨hC, ⟨by rw [e4, i20]; exact b1, ?_⟩, fun k hk => by rw [e8, k0]; exact c k hk, ⟨m, d1, by rw [e7]; exact d2, by rw [i26]; exact d3, fun k hk => by rw [e6, k25]; exact d4 k hk⟩, hT⟩
  rw [i20, e3]
  exact b2.imp id (fun h => ⟨h.1, h.2.imageS (fun i hi => by rw [Nat.zero_add]; exact g3 i hi)⟩)
end KEEP
theorem st_image : lw_S0 II C_image R_image := by
  intro j q r _ h
  simp only [C_image, R_image, pp_lj]
  obtain ⟨x1, e1, hL⟩ := pk_like (cc_gC q 2) (cc_gC q 0)
  obtain ⟨r1, e2, hK⟩ := pr_keep (rr_I r 20 1) (v := 0) (w := 0) (Or.inl ⟨rfl, rfl⟩)
  obtain ⟨a, ⟨b1, b2⟩, c, ⟨m, d1, d2, d3, d4⟩, hT⟩ := h.up
  have h0 : CW 9999 (40 * (j + 1)) (cc_gC q 0) (rr_I r 20 1) := a.frame (fun k hk => rr_In (by omega)) (fun k _ _ => rfl)
  obtain ⟨h1, h2⟩ := h0.keep hK
  rw [e1, pp_ob_s, e2, pp_ob_s]
  have i20 : r1.1 20 = 1 := (hK.1 20 (by decide) (by decide)).trans rr_Ie
  have i26 : r1.1 26 = r.1 26 := (hK.1 26 (by decide) (by decide)).trans (rr_In (by decide))
  have i16 : r1.1 16 = r.1 16 := (hK.1 16 (by decide) (by decide)).trans (rr_In (by decide))
  have k0 : r1.2.1 0 = r.2.1 0 := hK.2.1 0 (by decide)
  have k25 : r1.2.1 25 = r.2.1 25 := hK.2.1 25 (by decide)
  have k12 : r1.2.1 12 = r.2.1 12 := hK.2.1 12 (by decide)
  refine ⟨r1.1 10, _, r1, pu_some ?_, rfl, h1, ⟨?_, Or.inr ⟨i20, h2.like hL⟩⟩, fun k hk => by rw [k0]; exact c k hk, ⟨m, d1, d2, by rw [i26]; exact d3, fun k hk => by rw [k25]; exact d4 k hk⟩, hT.same rfl i16 k12⟩
  · exact h1.2.2.1
  · rw [i20]; rfl
theorem st_on : lw_S0 II C_on R_on := by
  intro j q r _ h
  simp only [C_on, R_on, pp_lj]
  obtain ⟨q3, r3', n5, n6, -, -, hI3⟩ := pi_no h (Or.inr (Or.inr (Or.inl rfl)))
  obtain ⟨a, ⟨b1, b2⟩, c, ⟨m, d1, d2, d3, d4⟩, hT⟩ := h.up
  rw [b1]
  rcases b2 with b2 | ⟨b2, b3⟩
  · rw [if_pos b2, if_pos b2, n5, n6]; exact ⟨_, _, _, rfl, rfl, hI3⟩
  · rw [if_neg (by rw [b2]; exact pu_10), if_neg (by rw [b2]; exact pu_10)]
    obtain ⟨x1, e1, hL⟩ := pk_like (cc_gC q 0) (cc_gC q 2)
    obtain ⟨r1, e2, hR⟩ := pr_back r (v := 0) (w := 0) (Or.inl ⟨rfl, rfl⟩)
    have h1 : CW 9999 (40 * (j + 1)) x1 r1 := (b3.back hR).like hL
    have hF := hR.fs
    rw [e1, pp_ob_s, e2, pp_ob_s]
    refine ⟨r1.1 10, _, r1, pu_some ?_, rfl, h.courtS rfl rfl rfl rfl rfl hF (hT.same rfl ?_ ?_) h1⟩
    · exact h1.2.2.1
    · exact hR.1 16 (by decide) (by decide) (by decide) (by decide) (by decide)
    · exact hR.2.1 12 (by decide)
