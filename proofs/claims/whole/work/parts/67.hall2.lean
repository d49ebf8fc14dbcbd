theorem h2k : ∀ s, s < 100 → (-2000 : Int32) - nI s ≤ 0 := by decide +kernel
theorem st_hall : lw_S0 II C_hall R_hall := by
  intro j q r hj h
  obtain ⟨m, hm, t1, t2, t3⟩ := h.2.2.2.2
  have hC : CW 9999 (40 * j) (cc_gC q 0) r := h.1
  have hT : TL m (fun k => (r.2.1 12 k).toNatClampNeg) (cc_gT q) := by
    refine ⟨hm, t1, fun k hk => ?_⟩
    obtain ⟨e1, v, hv, e2⟩ := t3 k hk
    have e3 : (r.2.1 12 k).toNatClampNeg = v := by rw [e2]; exact pu_c (by omega)
    show (cc_gT q).2.1 0 k = nI ((r.2.1 12 k).toNatClampNeg) ∧ (r.2.1 12 k).toNatClampNeg < 256
    rw [e3]
    exact ⟨e1.trans e2, by omega⟩
  have hL : LR m (fun k => (r.2.1 12 k).toNatClampNeg) (rr_I (rr_I r 17 0) 18 0) := by
    refine ⟨hm, t2, fun k hk => ?_⟩
    obtain ⟨e1, v, hv, e2⟩ := t3 k hk
    have e3 : (r.2.1 12 k).toNatClampNeg = v := by rw [e2]; exact pu_c (by omega)
    show r.2.1 12 k = nI ((r.2.1 12 k).toNatClampNeg) ∧ (r.2.1 12 k).toNatClampNeg < 256
    rw [e3]
    exact ⟨e2, by omega⟩
  generalize (fun k => (r.2.1 12 k).toNatClampNeg) = L at hT hL
  have hF0 : FX r (rr_I (rr_I r 17 0) 18 0) := FX.I17.tr FX.I18
  have hp := hp_parse hT m 0 0 0 (rr_I (rr_I r 17 0) 18 0) (by omega) hL rfl rfl (Nat.zero_le _) (by omega) (fun _ => rfl) (Or.inl ⟨rfl, rfl⟩) ⟨fun _ => 0, rfl, rfl, fun j hj => absurd hj (Nat.not_lt_zero j)⟩
  rw [hF_eq]
  simp only [C_hall, T_forget, pp_lj, pp_ob_s]
  rw [uF_eq]
  have a0 : nI (th_ln 0) = 0 := by decide +kernel
  rw [a0, nI_0] at hp
  have hmt : ∀ (x : rr_S), IT (cc_pT q (rr_I x 1 0)) (rr_I r 16 0) := fun x => ⟨0, by decide, rfl, rfl, fun k hk => absurd hk (Nat.not_lt_zero k)⟩
  rcases hp with ⟨r', e, g1, g2, g3, g4⟩ | ⟨r', n', st, g1, g2, g3, g4, g5, g6, g7, g8, g9⟩
  · have n9 : ¬ nI e = -9 := fun e9 => pu_neg (a := e) (by omega) (by rw [e9]; decide)
    have hFX := hF0.tr g3
    rw [g1 200 (by omega), g2 200 (by omega), pp_ob_s, if_neg n9]
    refine ⟨-1000 - nI e, _, _, rfl, rfl, h.courtS rfl rfl rfl rfl rfl (hFX.fs.tr (FS.I (by decide) (by decide))) ⟨0, by decide, rfl, rfl, fun k hk => absurd hk (Nat.not_lt_zero k)⟩ ?_⟩
    exact (hC.mono (Nat.le_refl _) (by omega)).frame (fun k hk => (rr_In (by omega)).trans (hFX.1 k (by omega) (by omega))) (fun k k1 k8 => hFX.2.1 k (by omega) (by omega) (by omega))
  · have hFX := hF0.tr g3
    have hc16 : CW 9999 (40 * j) (cc_gC q 0) (rr_I r' 16 0) := hC.frame (fun k hk => (rr_In (by omega)).trans (hFX.1 k (by omega) (by omega))) (fun k k1 k8 => hFX.2.1 k (by omega) (by omega) (by omega))
    obtain ⟨x1, y1, hLk⟩ := pk_like (cc_gC q 1) (cc_gC q 0)
    obtain ⟨r1, y2, hK⟩ := pr_keep (rr_I r' 16 0) (v := 1) (w := 65) (Or.inr ⟨rfl, rfl⟩)
    obtain ⟨hC1, hZ1⟩ := hc16.keep hK
    have k18 : r1.1 18 = nI n' := (hK.1 18 (by decide) (by decide)).trans ((rr_In (by decide)).trans g4)
    have k16 : r1.1 16 = 0 := (hK.1 16 (by decide) (by decide)).trans rr_Ie
    have hfs : FS r r1 := (hFX.fs.tr (FS.I (by decide) (by decide))).tr hK.fs
    have hS : ∀ i, i < n' → SI L m r1 i (st i) (st (i + 1)) := fun i hi => by
      have s1 : SI L m (rr_I r' 16 0) i (st i) (st (i + 1)) := g9 i hi
      exact s1.cong (by rw [hK.2.1 13 (by decide)]) (by rw [hK.2.1 14 (by decide)]) (fun k _ => by rw [hK.2.1 15 (by decide)])
    rw [g1 200 (by omega), g2 200 (by omega), pp_ob_s, if_pos rfl, y1, pp_ob_s]
    unfold hJ
    rw [y2, pp_ob_s]
    have hx1 : cc_gC (cc_pC q 1 x1) 1 = x1 := rfl
    have htx : cc_gT (cc_pC q 1 x1) = cc_gT q := rfl
    rw [hx1, htx, tF_eq]
    have ht := hp_tell (G := 40 * j) hT (by omega) (by omega) k18 g8 hS n' 0 (by omega) x1 r1 200 200 (by omega) (by omega) (hC1.like hLk) (FR.rf r1)
    rw [g7, nI_0] at ht
    rcases ht with ⟨k, rk, xk, hk, e1, e2, hF⟩ | ⟨rn, xn, e1, e2, hCn, hF⟩
    · obtain ⟨r7, z1, hR⟩ := pr_back rk (v := 1) (w := 65) (Or.inr ⟨rfl, rfl⟩)
      have hsk := hS k hk
      have hle := hsk.le
      have e14 : r7.2.1 14 k = nI (st k) := by rw [hR.2.1 14 (by decide), hF.2.1 14 (by decide)]; exact hsk.2.1
      rw [e1, z1, pp_ob_s, pp_ix_n (by omega) (by decide), pu_c (by omega), e14, e2, pp_ob_s, if_pos (h2k _ (by omega))]
      have hZk : CW 9999 (40 * j) (cc_gC q 0) (zim 65 rk) := hZ1.imageS (fun i _ => by rw [hF.2.1 19 (by decide)])
      refine ⟨_, _, r7, rfl, rfl, h.courtS rfl rfl rfl rfl rfl ((hfs.tr hF.fs).tr hR.fs) ⟨0, by decide, rfl, ?_, fun k hk => absurd hk (Nat.not_lt_zero k)⟩ ?_⟩
      · rw [hR.1 16 (by decide) (by decide) (by decide) (by decide) (by decide), hF.1 16 (by decide) (by decide) (by decide), k16]; rfl
      · exact (hZk.back hR).mono (Nat.le_refl _) (by omega)
    · have nle : ¬ nI n' ≤ 0 := nI_nle g5 (by omega)
      rw [e1, e2, pp_ob_s, if_neg nle]
      obtain ⟨x2, z1, hL2⟩ := pk_like (cc_gC (cc_pC (cc_pC q 1 x1) 1 xn) 0) (cc_gC (cc_pC (cc_pC q 1 x1) 1 xn) 1)
      rw [z1, pp_ob_s]
      have hCn' : CW 9999 (40 * (j + 1)) x2 rn := ((show CW 9999 (40 * j + n') (cc_gC (cc_pC (cc_pC q 1 x1) 1 xn) 1) rn from hCn).like hL2).mono (Nat.le_refl _) (by omega)
      refine ⟨_, _, rn, rfl, rfl, h.courtS rfl rfl rfl rfl rfl (hfs.tr hF.fs) ⟨0, by decide, rfl, ?_, fun k hk => absurd hk (Nat.not_lt_zero k)⟩ hCn'⟩
      rw [hF.1 16 (by decide) (by decide) (by decide), k16]; rfl
