noncomputable def S_becomeLike (y : rr_S) (y2 : rr_S) : Option rr_S := pp_lj (rr_I y 0 (y2.1 0) : rr_S) (fun x1 => pp_lj (rr_AA x1 1 (va_cpy (y2.2.1 1) (x1.2.1 1) (Int32.toNatClampNeg (0 : Int32)) (Int32.toNatClampNeg (0 : Int32)) (Int32.toNatClampNeg (8 : Int32))) : rr_S) (fun x3 => pp_lj (rr_I x3 2 (y2.1 2) : rr_S) (fun x5 => some x5)))
abbrev rmX6_becomeLike : Room := { frames := 1, cells := 0, slots := 0, locals := 80 }
set_option maxHeartbeats 4000000 in
set_option maxRecDepth 100000 in
theorem ctX6_becomeLike (l : Launch) (g : cc_G) (pls : va_W) (q : cc_S) {k sd : Nat} (hk : k < 3) (hs : sd < 2) (x : cc_CT) (y : rr_S) {k2 : Nat} (hk2 : k2 < 3) (hne : k2 ≠ k) (y2 : rr_S) (hy2 : y2 = cc_gS (cc_gC q k2) sd) {res : rr_S} (h : S_becomeLike y y2 = some res) : cc_Mv l yX6_becomeLike wsX6_becomeLike rmX6_becomeLike g pls [.ref (cc_ad g (cs_id k sd)), .ref (cc_ad g (cs_id k2 sd))] (cc_pS q k x sd y) (cc_pS q k x sd res) := by
  intro sz A hA
  unfold S_becomeLike at h
  refine cc_ofW hA (own := RX6) (by decide) rfl rfl (Nat.le_of_ble_eq_true rfl) ?_
  intro p e s m args below meth c ls X hr hlk G hl Q hQ
  have hx := X.1.1
  have hb := X.1.2.1
  have hown := X.1.2.2.2.1
  have hts := X.1.2.2.2.2
  refine (fun (key : ∀ (H : Heap) (locs : List Loc), cc_H g A pls (cc_pS q k x sd y) s H locs → W p l e (headSpec wsX6_becomeLike rmX6_becomeLike).room s m args below meth c H locs 0 0 Q (F0 m 0 ls [])) => key _ _ G) ?_
  clear G
  intro H locs G
  have hl : lv_has ls 2 [(0, .ref (cc_ad g (cs_id k sd))), (1, .ref (cc_ad g (cs_id k2 sd)))] := hl
  have hf9 : Cond.fieldLink RX6 9 (TX6 1).1 (TX6 1).2.1 (TX6 1).2.2.1 ∈ wsX6_becomeLike := by decide +kernel
  have hf15 : Cond.fieldLink RX6 15 (TX6 0).1 (TX6 0).2.1 (TX6 0).2.2.1 ∈ wsX6_becomeLike := by decide +kernel
  have hf19 : Cond.fieldLink RX6 19 (TX6 2).1 (TX6 2).2.1 (TX6 2).2.2.1 ∈ wsX6_becomeLike := by decide +kernel
  have hin6 : ∀ y ∈ wsX60, y ∈ wsX6_becomeLike := (fun _ z => List.mem_cons_of_mem _ (List.mem_append_right _ z))
  refine lv_aload_n hx hb dX6_becomeLike_0 rfl (lv_at hl 0 rfl) ?_
  refine lv_aload_n hx hb dX6_becomeLike_1 rfl (lv_at hl 1 rfl) ?_
  refine cc_get (os_side g q x hk hk2 hne hs hy2) X G (x := y) rfl hin6 0 (by decide) hf15 (v := .int (y2.1 0)) rfl dX6_becomeLike_2 ?_
  obtain ⟨x1, ex1, h2⟩ := pp_lj_ex h
  clear h
  refine cc_put (si_0 g q x hk hs) X G (x := y) rfl hin6 tyX6 tyX6_ok nmX6 (by decide) hf15 rfl (ty := .int) (by decide +kernel) rfl rfl ex1 dX6_becomeLike_5 (fun H locs G => ?_)
  refine lv_aload_n hx hb dX6_becomeLike_8 rfl (lv_at hl 1 rfl) ?_
  refine cc_get (os_side g q x hk hk2 hne hs hy2) X G (x := x1) rfl hin6 1 (by decide) hf9 (v := .ref (cc_ad g (cs_id k2 sd + 1))) rfl dX6_becomeLike_9 ?_
  refine lv_iconst (v := 0) hx hb dX6_becomeLike_12 (by decide) ?_
  refine lv_aload_n hx hb dX6_becomeLike_13 rfl (lv_at hl 0 rfl) ?_
  refine cc_get (so_side g q x hk hs) X G (x := x1) rfl hin6 1 (by decide) hf9 (v := .ref (cc_ad g (cs_id k sd + 1))) rfl dX6_becomeLike_14 ?_
  refine lv_iconst (v := 0) hx hb dX6_becomeLike_17 (by decide) ?_
  refine lv_bipush (v := 8) hx hb dX6_becomeLike_18 (by decide) ?_
  obtain ⟨x3, ex3, h4⟩ := pp_lj_ex h2
  clear h2
  refine cc_cpyi (os_a1 g q x hk hk2 hne hs hy2) (sw_1 g q x hk hs) X hl.1 G (x := x1) (⟨by decide +kernel, by decide +kernel, by decide +kernel, by decide +kernel⟩ : cc_cpw wsX6_becomeLike RX6 32) (by decide) (by decide) (by decide) (by decide) (by decide) (Nat.le_of_ble_eq_true rfl) (Nat.le_of_ble_eq_true rfl) ex3 dX6_becomeLike_20 (fun H locs G => ?_)
  refine lv_aload_n hx hb dX6_becomeLike_23 rfl (lv_at hl 0 rfl) ?_
  refine lv_aload_n hx hb dX6_becomeLike_24 rfl (lv_at hl 1 rfl) ?_
  refine cc_get (os_side g q x hk hk2 hne hs hy2) X G (x := x3) rfl hin6 2 (by decide) hf19 (v := .int (y2.1 2)) rfl dX6_becomeLike_25 ?_
  obtain ⟨x5, ex5, h6⟩ := pp_lj_ex h4
  clear h4
  refine cc_put (si_2 g q x hk hs) X G (x := x3) rfl hin6 tyX6 tyX6_ok nmX6 (by decide) hf19 rfl (ty := .int) (by decide +kernel) rfl rfl ex5 dX6_becomeLike_28 (fun H locs G => ?_)
  exact cc_vret X hr hlk G (congrArg (fun (z : rr_S) => (cc_pS q k x sd z)) (Option.some.inj h6)) hQ dX6_becomeLike_31
noncomputable def K_becomeLike (x : cc_CT) (x2 : cc_CT) : Option cc_CT := pp_it (fun (self1 : cc_CT × Int32 → Option cc_CT) (a1 : cc_CT × Int32) => (if (8 : Int32) ≤ a1.2 then pp_lj (cc_ci a1.1 1 (x2.1.1 1) : cc_CT) (fun x4 => pp_ob (S_becomeLike (cc_gS x4 0) (cc_gS x2 0)) (fun r6 => pp_lj (cc_kS x4 0 r6 : cc_CT) (fun x8 => pp_ob (S_becomeLike (cc_gS x8 1) (cc_gS x2 1)) (fun r10 => pp_lj (cc_kS x8 1 r10 : cc_CT) (fun x12 => pp_lj (cc_cA x12 4 (va_cpy (x2.1.2.1 4) (x12.1.2.1 4) (Int32.toNatClampNeg (0 : Int32)) (Int32.toNatClampNeg (0 : Int32)) (Int32.toNatClampNeg (6 : Int32))) : cc_CT) (fun x14 => pp_lj (cc_cA x14 5 (va_cpy (x2.1.2.1 5) (x14.1.2.1 5) (Int32.toNatClampNeg (0 : Int32)) (Int32.toNatClampNeg (0 : Int32)) (Int32.toNatClampNeg (6 : Int32))) : cc_CT) (fun x16 => pp_lj (cc_cA x16 6 (va_cpy (x2.1.2.1 6) (x16.1.2.1 6) (Int32.toNatClampNeg (0 : Int32)) (Int32.toNatClampNeg (0 : Int32)) (Int32.toNatClampNeg (6 : Int32))) : cc_CT) (fun x18 => pp_lj (cc_ci x18 7 (x2.1.1 7) : cc_CT) (fun x20 => some x20))))))))) else pp_ix a1.2 8 (pp_lj (cc_kP a1.1 (Int32.toNatClampNeg a1.2) (x2.2.2 (Int32.toNatClampNeg a1.2)) : cc_CT) (fun x26 => pp_lj (a1.2 + 1 : Int32) (fun x28 => self1 (x26, x28)))))) 200 (x, (0 : Int32))
abbrev rmX1_becomeLike : Room := { frames := 2, cells := 0, slots := 0, locals := 101 }
set_option maxHeartbeats 4000000 in
set_option maxRecDepth 100000 in
theorem ctX1_becomeLike (l : Launch) (g : cc_G) (pls : va_W) (q : cc_S) {k : Nat} (hk : k < 3) (x : cc_CT) {k2 : Nat} (hk2 : k2 < 3) (hne : k2 ≠ k) (x2 : cc_CT) (hx2 : x2 = cc_gC q k2) {res : cc_CT} (h : K_becomeLike x x2 = some res) : cc_Mv l yX1_becomeLike wsX1_becomeLike rmX1_becomeLike g pls [.ref (cc_ad g (10 + 20 * k)), .ref (cc_ad g (10 + 20 * k2))] (cc_pC q k x) (cc_pC q k res) := by
  intro sz A hA
  unfold K_becomeLike at h
  refine cc_ofW hA (own := RX1) (by decide) rfl rfl (Nat.le_of_ble_eq_true rfl) ?_
  intro p e s m args below meth c ls X hr hlk G hl Q hQ
  have hx := X.1.1
  have hb := X.1.2.1
  have hown := X.1.2.2.2.1
  have hts := X.1.2.2.2.2
  refine (fun (key : ∀ (H : Heap) (locs : List Loc), cc_H g A pls (cc_pC q k x) s H locs → W p l e (headSpec wsX1_becomeLike rmX1_becomeLike).room s m args below meth c H locs 0 0 Q (F0 m 0 ls [])) => key _ _ G) ?_
  clear G
  intro H locs G
  have hl : lv_has ls 3 [(0, .ref (cc_ad g (10 + 20 * k))), (1, .ref (cc_ad g (10 + 20 * k2)))] := hl
  have hf11 : Cond.fieldLink RX1 11 (TX1 0).1 (TX1 0).2.1 (TX1 0).2.2.1 ∈ wsX1_becomeLike := by decide +kernel
  have hf20 : Cond.fieldLink RX1 20 (TX1 2).1 (TX1 2).2.1 (TX1 2).2.2.1 ∈ wsX1_becomeLike := by decide +kernel
  have hf24 : Cond.fieldLink RX1 24 (TX1 3).1 (TX1 3).2.1 (TX1 3).2.2.1 ∈ wsX1_becomeLike := by decide +kernel
  have hf27 : Cond.fieldLink RX1 27 (TX1 4).1 (TX1 4).2.1 (TX1 4).2.2.1 ∈ wsX1_becomeLike := by decide +kernel
  have hf31 : Cond.fieldLink RX1 31 (TX1 5).1 (TX1 5).2.1 (TX1 5).2.2.1 ∈ wsX1_becomeLike := by decide +kernel
  have hf34 : Cond.fieldLink RX1 34 (TX1 6).1 (TX1 6).2.1 (TX1 6).2.2.1 ∈ wsX1_becomeLike := by decide +kernel
  have hf44 : Cond.fieldLink RX1 44 (TX1 1).1 (TX1 1).2.1 (TX1 1).2.2.1 ∈ wsX1_becomeLike := by decide +kernel
  have hf58 : Cond.fieldLink RX1 58 (TX1 7).1 (TX1 7).2.1 (TX1 7).2.2.1 ∈ wsX1_becomeLike := by decide +kernel
  have hin1 : ∀ y ∈ wsX10, y ∈ wsX1_becomeLike := (fun _ z => List.mem_cons_of_mem _ (List.mem_append_left _ (List.mem_append_right _ z)))
  refine lv_iconst (v := 0) hx hb dX1_becomeLike_0 (by decide) ?_
  refine lv_istore_n (lv' := [(2, .int (0 : Int32)), (0, .ref (cc_ad g (10 + 20 * k))), (1, .ref (cc_ad g (10 + 20 * k2)))]) hx hb dX1_becomeLike_1 rfl hl (by decide) rfl (fun ls hl => ?_)
  refine pp_loop (I := fun (a1 : cc_CT × Int32) => ∀ (H : Heap) (locs : List Loc) (ls : Array Slot), cc_H g A pls (cc_pC q k a1.1) s H locs → lv_has ls 3 [(0, .ref (cc_ad g (10 + 20 * k))), (1, .ref (cc_ad g (10 + 20 * k2))), (2, .int a1.2)] → W p l e (headSpec wsX1_becomeLike rmX1_becomeLike).room s m args below meth c H locs 0 0 Q (F0 m 2 ls [])) ?_ 200 _ h H locs ls G (lv_sub hl [1, 2, 0] rfl)
  clear h
  intro self1 ih1 a1 h1 H locs ls G hl
  refine lv_iload_n hx hb dX1_becomeLike_2 rfl (lv_at hl 2 rfl) ?_
  refine lv_bipush (v := 8) hx hb dX1_becomeLike_3 (by decide) ?_
  refine lv_icmp_ge (tgt := 26) hx hb dX1_becomeLike_5 (by decide) (fun c2 => ?_) (fun c2 => ?_)
  · have h3 := pp_t c2 h1
    clear h1
    refine lv_aload_n hx hb dX1_becomeLike_26 rfl (lv_at hl 0 rfl) ?_
    refine lv_aload_n hx hb dX1_becomeLike_27 rfl (lv_at hl 1 rfl) ?_
    refine cc_get (oc_crt g q hk hk2 hne hx2) X G (x := a1.1) rfl hin1 1 (by decide) hf44 (v := .int (x2.1.1 1)) rfl dX1_becomeLike_28 ?_
    obtain ⟨x4, ex4, h5⟩ := pp_lj_ex h3
    clear h3
    refine cc_put (ci_1 g q hk) X G (x := a1.1) rfl hin1 tyX1 tyX1_ok nmX1 (by decide) hf44 rfl (ty := .int) (by decide +kernel) rfl rfl ex4 dX1_becomeLike_31 (fun H locs G => ?_)
    refine lv_aload_n hx hb dX1_becomeLike_34 rfl (lv_at hl 0 rfl) ?_
    refine cc_get (co_crt g q hk) X G (x := x4) rfl hin1 2 (by decide) hf20 (v := .ref (cc_ad g (cs_id k 0))) rfl dX1_becomeLike_35 ?_
    refine lv_aload_n hx hb dX1_becomeLike_38 rfl (lv_at hl 1 rfl) ?_
    refine cc_get (oc_crt g q hk hk2 hne hx2) X G (x := x4) rfl hin1 2 (by decide) hf20 (v := .ref (cc_ad g (cs_id k2 0))) rfl dX1_becomeLike_39 ?_
    obtain ⟨r6, hc6, h7⟩ := pp_ob_ex h5
    clear h5
    obtain ⟨x8, ex8, h9⟩ := pp_lj_ex h7
    clear h7
    refine cc_calv (q2 := (cc_pC q k x8)) (cc_pgS q k x4 0) (by rw [ex8]; rfl) (co_side g q hk (sd := 0) (by decide)) X G (x := x4) rfl (ctX6_becomeLike l g pls q hk (sd := 0) (by decide) x4 (cc_gS x4 0) hk2 hne (cc_gS x2 0) (by rw [hx2]) hc6) (cwV 1 hts gX1_becomeLike_X6_becomeLike rfl rfl rfl (by decide +kernel) ⟨Nat.le_of_ble_eq_true rfl, Nat.le_of_ble_eq_true rfl⟩) (rest := []) rfl hl.1 rfl (Nat.le_of_ble_eq_true rfl) dX1_becomeLike_42 (fun H locs G => ?_)
    refine lv_aload_n hx hb dX1_becomeLike_45 rfl (lv_at hl 0 rfl) ?_
    refine cc_get (co_crt g q hk) X G (x := x8) rfl hin1 3 (by decide) hf24 (v := .ref (cc_ad g (cs_id k 1))) rfl dX1_becomeLike_46 ?_
    refine lv_aload_n hx hb dX1_becomeLike_49 rfl (lv_at hl 1 rfl) ?_
    refine cc_get (oc_crt g q hk hk2 hne hx2) X G (x := x8) rfl hin1 3 (by decide) hf24 (v := .ref (cc_ad g (cs_id k2 1))) rfl dX1_becomeLike_50 ?_
    obtain ⟨r10, hc10, h11⟩ := pp_ob_ex h9
    clear h9
    obtain ⟨x12, ex12, h13⟩ := pp_lj_ex h11
    clear h11
    refine cc_calv (q2 := (cc_pC q k x12)) (cc_pgS q k x8 1) (by rw [ex12]; rfl) (co_side g q hk (sd := 1) (by decide)) X G (x := x8) rfl (ctX6_becomeLike l g pls q hk (sd := 1) (by decide) x8 (cc_gS x8 1) hk2 hne (cc_gS x2 1) (by rw [hx2]) hc10) (cwV 1 hts gX1_becomeLike_X6_becomeLike rfl rfl rfl (by decide +kernel) ⟨Nat.le_of_ble_eq_true rfl, Nat.le_of_ble_eq_true rfl⟩) (rest := []) rfl hl.1 rfl (Nat.le_of_ble_eq_true rfl) dX1_becomeLike_53 (fun H locs G => ?_)
    refine lv_aload_n hx hb dX1_becomeLike_56 rfl (lv_at hl 1 rfl) ?_
    refine cc_get (oc_crt g q hk hk2 hne hx2) X G (x := x12) rfl hin1 4 (by decide) hf27 (v := .ref (cc_ad g (10 + 20 * k2 + 6))) rfl dX1_becomeLike_57 ?_
    refine lv_iconst (v := 0) hx hb dX1_becomeLike_60 (by decide) ?_
    refine lv_aload_n hx hb dX1_becomeLike_61 rfl (lv_at hl 0 rfl) ?_
    refine cc_get (co_crt g q hk) X G (x := x12) rfl hin1 4 (by decide) hf27 (v := .ref (cc_ad g (10 + 20 * k + 6))) rfl dX1_becomeLike_62 ?_
    refine lv_iconst (v := 0) hx hb dX1_becomeLike_65 (by decide) ?_
    refine lv_bipush (v := 6) hx hb dX1_becomeLike_66 (by decide) ?_
    obtain ⟨x14, ex14, h15⟩ := pp_lj_ex h13
    clear h13
    refine cc_cpyi (oc_a4 g q hk hk2 hne hx2) (cw_4 g q hk) X hl.1 G (x := x12) (⟨by decide +kernel, by decide +kernel, by decide +kernel, by decide +kernel⟩ : cc_cpw wsX1_becomeLike RX1 52) (by decide) (by decide) (by decide) (by decide) (by decide) (Nat.le_of_ble_eq_true rfl) (Nat.le_of_ble_eq_true rfl) ex14 dX1_becomeLike_68 (fun H locs G => ?_)
    refine lv_aload_n hx hb dX1_becomeLike_71 rfl (lv_at hl 1 rfl) ?_
    refine cc_get (oc_crt g q hk hk2 hne hx2) X G (x := x14) rfl hin1 5 (by decide) hf31 (v := .ref (cc_ad g (10 + 20 * k2 + 7))) rfl dX1_becomeLike_72 ?_
    refine lv_iconst (v := 0) hx hb dX1_becomeLike_75 (by decide) ?_
    refine lv_aload_n hx hb dX1_becomeLike_76 rfl (lv_at hl 0 rfl) ?_
    refine cc_get (co_crt g q hk) X G (x := x14) rfl hin1 5 (by decide) hf31 (v := .ref (cc_ad g (10 + 20 * k + 7))) rfl dX1_becomeLike_77 ?_
    refine lv_iconst (v := 0) hx hb dX1_becomeLike_80 (by decide) ?_
    refine lv_bipush (v := 6) hx hb dX1_becomeLike_81 (by decide) ?_
    obtain ⟨x16, ex16, h17⟩ := pp_lj_ex h15
    clear h15
    refine cc_cpyi (oc_a5 g q hk hk2 hne hx2) (cw_5 g q hk) X hl.1 G (x := x14) (⟨by decide +kernel, by decide +kernel, by decide +kernel, by decide +kernel⟩ : cc_cpw wsX1_becomeLike RX1 52) (by decide) (by decide) (by decide) (by decide) (by decide) (Nat.le_of_ble_eq_true rfl) (Nat.le_of_ble_eq_true rfl) ex16 dX1_becomeLike_83 (fun H locs G => ?_)
    refine lv_aload_n hx hb dX1_becomeLike_86 rfl (lv_at hl 1 rfl) ?_
    refine cc_get (oc_crt g q hk hk2 hne hx2) X G (x := x16) rfl hin1 6 (by decide) hf34 (v := .ref (cc_ad g (10 + 20 * k2 + 8))) rfl dX1_becomeLike_87 ?_
    refine lv_iconst (v := 0) hx hb dX1_becomeLike_90 (by decide) ?_
    refine lv_aload_n hx hb dX1_becomeLike_91 rfl (lv_at hl 0 rfl) ?_
    refine cc_get (co_crt g q hk) X G (x := x16) rfl hin1 6 (by decide) hf34 (v := .ref (cc_ad g (10 + 20 * k + 8))) rfl dX1_becomeLike_92 ?_
    refine lv_iconst (v := 0) hx hb dX1_becomeLike_95 (by decide) ?_
    refine lv_bipush (v := 6) hx hb dX1_becomeLike_96 (by decide) ?_
    obtain ⟨x18, ex18, h19⟩ := pp_lj_ex h17
    clear h17
    refine cc_cpyi (oc_a6 g q hk hk2 hne hx2) (cw_6 g q hk) X hl.1 G (x := x16) (⟨by decide +kernel, by decide +kernel, by decide +kernel, by decide +kernel⟩ : cc_cpw wsX1_becomeLike RX1 52) (by decide) (by decide) (by decide) (by decide) (by decide) (Nat.le_of_ble_eq_true rfl) (Nat.le_of_ble_eq_true rfl) ex18 dX1_becomeLike_98 (fun H locs G => ?_)
    refine lv_aload_n hx hb dX1_becomeLike_101 rfl (lv_at hl 0 rfl) ?_
    refine lv_aload_n hx hb dX1_becomeLike_102 rfl (lv_at hl 1 rfl) ?_
    refine cc_get (oc_crt g q hk hk2 hne hx2) X G (x := x18) rfl hin1 7 (by decide) hf58 (v := .int (x2.1.1 7)) rfl dX1_becomeLike_103 ?_
    obtain ⟨x20, ex20, h21⟩ := pp_lj_ex h19
    clear h19
    refine cc_put (ci_7 g q hk) X G (x := x18) rfl hin1 tyX1 tyX1_ok nmX1 (by decide) hf58 rfl (ty := .int) (by decide +kernel) rfl rfl ex20 dX1_becomeLike_106 (fun H locs G => ?_)
    exact cc_vret X hr hlk G (congrArg (fun (z : cc_CT) => (cc_pC q k z)) (Option.some.inj h21)) hQ dX1_becomeLike_109
  · have h22 := pp_f c2 h1
    clear h1
    refine lv_aload_n hx hb dX1_becomeLike_8 rfl (lv_at hl 0 rfl) ?_
    refine cc_get (co_crt g q hk) X G (x := a1.1) rfl hin1 0 (by decide) hf11 (v := .ref (cc_ad g (10 + 20 * k + 1))) rfl dX1_becomeLike_9 ?_
    refine lv_iload_n hx hb dX1_becomeLike_12 rfl (lv_at hl 2 rfl) ?_
    refine lv_aload_n hx hb dX1_becomeLike_13 rfl (lv_at hl 1 rfl) ?_
    refine cc_get (oc_crt g q hk hk2 hne hx2) X G (x := a1.1) rfl hin1 0 (by decide) hf11 (v := .ref (cc_ad g (10 + 20 * k2 + 1))) rfl dX1_becomeLike_14 ?_
    refine lv_iload_n hx hb dX1_becomeLike_17 rfl (lv_at hl 2 rfl) ?_
    obtain ⟨hi23, h24⟩ := pp_ix_ex h22
    clear h22
    refine cc_aald2 hk hk2 hne hx2 X G hi23 dX1_becomeLike_18 (fun a25 hm25 => ?_)
    obtain ⟨x26, ex26, h27⟩ := pp_lj_ex h24
    clear h24
    refine cc_aast hk X G hm25 hi23 ex26 dX1_becomeLike_19 (fun H locs G => ?_)
    obtain ⟨x28, ex28, h29⟩ := pp_lj_ex h27
    clear h27
    refine lv_iinc (v := x28) (lv' := [(2, .int x28), (0, .ref (cc_ad g (10 + 20 * k))), (1, .ref (cc_ad g (10 + 20 * k2)))]) hx hb dX1_becomeLike_20 hl (k := 2) rfl (by rw [ex28]; rfl) (by decide) rfl (fun ls hl => ?_)
    refine lv_goto (tgt := 2) hx hb dX1_becomeLike_23 (by decide) ?_
    exact ih1 _ h29 H locs ls G (lv_sub hl [1, 2, 0] rfl)
noncomputable def K_add (x : cc_CT) (d1 : cc_PD) : Option (Int32 × cc_CT) := pp_ob (C_isSide (d1.2 1)) (fun r1 => (if r1 = (0 : Int32) then some ((0 : Int32), x) else (if (x.1.1 1) < (Int32.ofNat 8) then pp_ix (x.1.1 1) 8 (pp_lj (cc_kP x (Int32.toNatClampNeg (x.1.1 1)) d1 : cc_CT) (fun x10 => pp_ob (K_sideAt x10 (d1.2 1)) (fun r12 => pp_l2 r12 (pp_ob (S_letIn (cc_gS x10 r12) (x10.1.1 1)) (fun r15 => pp_lj (cc_kS x10 r12 r15 : cc_CT) (fun x17 => pp_lj (cc_ci x17 1 ((x17.1.1 1) + (1 : Int32)) : cc_CT) (fun x19 => some ((1 : Int32), x19)))))))) else some ((0 : Int32), x))))
abbrev rmX1_add : Room := { frames := 1, cells := 0, slots := 0, locals := 21 }
set_option maxHeartbeats 4000000 in
set_option maxRecDepth 100000 in
theorem ctX1_add (l : Launch) (g : cc_G) (pls : va_W) (q : cc_S) {k : Nat} (hk : k < 3) (x : cc_CT) (a1 : Nat) (d1 : cc_PD) (hm1 : (a1, cc_plc d1) ∈ pls) {res : (Int32 × cc_CT)} (h : K_add x d1 = some res) : cc_Mi l yX1_add wsX1_add rmX1_add g pls [.ref (cc_ad g (10 + 20 * k)), .ref a1] (cc_pC q k x) res.1 (cc_pC q k res.2) := by
  intro sz A hA
  unfold K_add at h
  refine cc_ofW hA (own := RX1) (by decide) rfl rfl (Nat.le_of_ble_eq_true rfl) ?_
  intro p e s m args below meth c ls X hr hlk G hl Q hQ
  have hx := X.1.1
  have hb := X.1.2.1
  have hown := X.1.2.2.2.1
  have hts := X.1.2.2.2.2
  refine (fun (key : ∀ (H : Heap) (locs : List Loc), cc_H g A pls (cc_pC q k x) s H locs → W p l e (headSpec wsX1_add rmX1_add).room s m args below meth c H locs 0 0 Q (F0 m 0 ls [])) => key _ _ G) ?_
  clear G
  intro H locs G
  have hl : lv_has ls 2 [(0, .ref (cc_ad g (10 + 20 * k))), (1, .ref a1)] := hl
  have hf11 : Cond.fieldLink RX1 11 (TX1 0).1 (TX1 0).2.1 (TX1 0).2.2.1 ∈ wsX1_add := by decide +kernel
  have hf44 : Cond.fieldLink RX1 44 (TX1 1).1 (TX1 1).2.1 (TX1 1).2.2.1 ∈ wsX1_add := by decide +kernel
  have hin1 : ∀ y ∈ wsX10, y ∈ wsX1_add := (fun _ z => List.mem_cons_of_mem _ (List.mem_append_left _ (List.mem_append_right _ z)))
  have hpw : cc_pW wsX1_add := ⟨(fun _ z => List.mem_cons_of_mem _ (List.mem_append_left _ (List.mem_append_left _ (List.mem_append_left _ (List.mem_append_left _ (List.mem_append_left _ (List.mem_append_left _ (List.mem_append_left _ (List.mem_append_right _ z))))))))), (fun _ z => List.mem_cons_of_mem _ (List.mem_append_left _ (List.mem_append_left _ (List.mem_append_left _ (List.mem_append_left _ (List.mem_append_left _ (List.mem_append_left _ (List.mem_append_right _ z)))))))), (fun _ z => List.mem_cons_of_mem _ (List.mem_append_left _ (List.mem_append_left _ (List.mem_append_left _ (List.mem_append_left _ (List.mem_append_left _ (List.mem_append_right _ z))))))), (fun _ z => List.mem_cons_of_mem _ (List.mem_append_left _ (List.mem_append_left _ (List.mem_append_left _ (List.mem_append_left _ (List.mem_append_right _ z)))))), (fun _ z => List.mem_cons_of_mem _ (List.mem_append_left _ (List.mem_append_left _ (List.mem_append_left _ (List.mem_append_right _ z))))), (fun _ z => List.mem_cons_of_mem _ (List.mem_append_left _ (List.mem_append_left _ (List.mem_append_right _ z))))⟩
  refine lv_aload_n hx hb dX1_add_0 rfl (lv_at hl 1 rfl) ?_
  refine cc_getP hm1 X G hpw 1 (by decide) (by decide +kernel) (v := .int (d1.2 1)) rfl dX1_add_1 ?_
  obtain ⟨r1, hc1, h2⟩ := pp_ob_ex h
  clear h
  refine cc_csn X G (ctX10_isSide l _ hc1) ⟨va_cnB 1 hts gX1_add_X10_isSide_n154 rfl rfl rfl (X.2.1.2.1 (.methodLinkNest RX1 154 yX10_isSide RX10) (by decide +kernel)) (hts (.initialized RX10) (by decide +kernel)) (by decide +kernel) ⟨Nat.le_of_ble_eq_true rfl, Nat.le_of_ble_eq_true rfl⟩, hts (.static yX10_isSide) (by decide +kernel), trivial⟩ (rest := []) rfl hl.1 rfl (Nat.le_of_ble_eq_true rfl) dX1_add_4 (fun H locs G => ?_)
  refine lv_if_eq (tgt := 22) hx hb dX1_add_7 (by decide) (fun c3 => ?_) (fun c3 => ?_)
  · have h4 := pp_t c3 h2
    clear h2
    refine lv_iconst (v := 0) hx hb dX1_add_22 (by decide) ?_
    exact cc_iretW (cc_pC q k) X hr hlk rfl G h4 hQ dX1_add_23
  · have h5 := pp_f c3 h2
    clear h2
    refine lv_aload_n hx hb dX1_add_10 rfl (lv_at hl 0 rfl) ?_
    refine cc_get (co_crt g q hk) X G (x := x) rfl hin1 1 (by decide) hf44 (v := .int (x.1.1 1)) rfl dX1_add_11 ?_
    refine lv_aload_n hx hb dX1_add_14 rfl (lv_at hl 0 rfl) ?_
    refine cc_get (co_crt g q hk) X G (x := x) rfl hin1 0 (by decide) hf11 (v := .ref (cc_ad g (10 + 20 * k + 1))) rfl dX1_add_15 ?_
    refine cc_plen hk X G rfl dX1_add_18 ?_
    refine lv_icmp_lt (tgt := 24) hx hb dX1_add_19 (by decide) (fun c6 => ?_) (fun c6 => ?_)
    · have h7 := pp_t c6 h5
      clear h5
      refine lv_aload_n hx hb dX1_add_24 rfl (lv_at hl 0 rfl) ?_
      refine cc_get (co_crt g q hk) X G (x := x) rfl hin1 0 (by decide) hf11 (v := .ref (cc_ad g (10 + 20 * k + 1))) rfl dX1_add_25 ?_
      refine lv_aload_n hx hb dX1_add_28 rfl (lv_at hl 0 rfl) ?_
      refine cc_get (co_crt g q hk) X G (x := x) rfl hin1 1 (by decide) hf44 (v := .int (x.1.1 1)) rfl dX1_add_29 ?_
      refine lv_aload_n hx hb dX1_add_32 rfl (lv_at hl 1 rfl) ?_
      obtain ⟨hi8, h9⟩ := pp_ix_ex h7
      clear h7
      obtain ⟨x10, ex10, h11⟩ := pp_lj_ex h9
      clear h9
      refine cc_aast hk X G hm1 hi8 ex10 dX1_add_33 (fun H locs G => ?_)
      refine lv_aload_n hx hb dX1_add_34 rfl (lv_at hl 0 rfl) ?_
      refine lv_aload_n hx hb dX1_add_35 rfl (lv_at hl 1 rfl) ?_
      refine cc_getP hm1 X G hpw 1 (by decide) (by decide +kernel) (v := .int (d1.2 1)) rfl dX1_add_36 ?_
      obtain ⟨r12, hc12, h13⟩ := pp_ob_ex h11
      clear h11
      refine cc_calo (q2 := (cc_pC q k x10)) rfl rfl (co_crt g q hk) X G (x := x10) rfl (ctX1_sideAt l g pls q hk x10 _ hc12) (cwV 1 hts gX1_add_X1_sideAt rfl rfl rfl (by decide +kernel) ⟨Nat.le_of_ble_eq_true rfl, Nat.le_of_ble_eq_true rfl⟩) (rest := []) rfl hl.1 rfl (Nat.le_of_ble_eq_true rfl) dX1_add_39 (fun H locs G => ?_)
      obtain ⟨hs12, h14⟩ := pp_l2_ex h13
      clear h13
      refine lv_aload_n hx hb dX1_add_42 rfl (lv_at hl 0 rfl) ?_
      refine cc_get (co_crt g q hk) X G (x := x10) rfl hin1 1 (by decide) hf44 (v := .int (x10.1.1 1)) rfl dX1_add_43 ?_
      obtain ⟨r15, hc15, h16⟩ := pp_ob_ex h14
      clear h14
      obtain ⟨x17, ex17, h18⟩ := pp_lj_ex h16
      clear h16
      refine cc_calv (q2 := (cc_pC q k x17)) (cc_pgS q k x10 r12) (by rw [ex17]; rfl) (co_side g q hk (sd := r12) hs12) X G (x := x10) rfl (ctX6_letIn l g pls q hk (sd := r12) hs12 x10 (cc_gS x10 r12) _ hc15) (cwV 1 hts gX1_add_X6_letIn rfl rfl rfl (by decide +kernel) ⟨Nat.le_of_ble_eq_true rfl, Nat.le_of_ble_eq_true rfl⟩) (rest := []) rfl hl.1 rfl (Nat.le_of_ble_eq_true rfl) dX1_add_46 (fun H locs G => ?_)
      refine lv_aload_n hx hb dX1_add_49 rfl (lv_at hl 0 rfl) ?_
      refine lv_dup hx hb dX1_add_50 rfl ?_
      refine cc_get (co_crt g q hk) X G (x := x17) rfl hin1 1 (by decide) hf44 (v := .int (x17.1.1 1)) rfl dX1_add_51 ?_
      refine lv_iconst (v := 1) hx hb dX1_add_54 (by decide) ?_
      refine lv_iadd hx hb dX1_add_55 ?_
      obtain ⟨x19, ex19, h20⟩ := pp_lj_ex h18
      clear h18
      refine cc_put (ci_1 g q hk) X G (x := x17) rfl hin1 tyX1 tyX1_ok nmX1 (by decide) hf44 rfl (ty := .int) (by decide +kernel) rfl rfl ex19 dX1_add_56 (fun H locs G => ?_)
      refine lv_iconst (v := 1) hx hb dX1_add_59 (by decide) ?_
      exact cc_iretW (cc_pC q k) X hr hlk rfl G h20 hQ dX1_add_60
    · have h21 := pp_f c6 h5
      clear h5
      refine lv_iconst (v := 0) hx hb dX1_add_22 (by decide) ?_
      exact cc_iretW (cc_pC q k) X hr hlk rfl G h21 hQ dX1_add_23
noncomputable def D_throwNext (x : rr_S) : Option rr_S := pp_lj (rr_LL x 1 (va_cpy (x.2.2 0) (x.2.2 1) (Int32.toNatClampNeg (0 : Int32)) (Int32.toNatClampNeg (0 : Int32)) (Int32.toNatClampNeg (Int32.ofNat 25))) : rr_S) (fun x1 => pp_ob (D_clearWays x1) (fun r3 => pp_it (fun (self5 : rr_S × Int32 → Option rr_S) (a5 : rr_S × Int32) => (if (5 : Int32) ≤ a5.2 then pp_lj (rr_I a5.1 4 ((1 : Int32) - (a5.1.1 4)) : rr_S) (fun x8 => pp_lj (rr_L x8 5 0 ((x8.2.2 5 0) * (40 : Int64)) : rr_S) (fun x10 => some x10)) else pp_it (fun (self13 : rr_S × Int32 → Option rr_S) (a13 : rr_S × Int32) => (if (5 : Int32) ≤ a13.2 then pp_lj (a5.2 + 1 : Int32) (fun x16 => self5 (a13.1, x16)) else pp_ix (((5 : Int32) * a5.2) + a13.2) 25 (pp_ob (D_throwFrom a13.1 a5.2 a13.2 (a13.1.2.2 1 (Int32.toNatClampNeg (((5 : Int32) * a5.2) + a13.2)))) (fun r21 => pp_lj (a13.2 + 1 : Int32) (fun x23 => self13 (r21, x23)))))) 200 (a5.1, (0 : Int32)))) 200 (r3, (0 : Int32))))
abbrev rmX2_throwNext : Room := { frames := 2, cells := 0, slots := 0, locals := 80 }
set_option maxHeartbeats 4000000 in
set_option maxRecDepth 100000 in
theorem ctX2_throwNext (l : Launch) (g : cc_G) (pls : va_W) (q : cc_S) (x : rr_S) {res : rr_S} (h : D_throwNext x = some res) : cc_Mv l yX2_throwNext wsX2_throwNext rmX2_throwNext g pls [.ref (cc_ad g 3)] (cc_pD q x) (cc_pD q res) := by
  intro sz A hA
  unfold D_throwNext at h
  refine cc_ofW hA (own := RX2) (by decide) rfl rfl (Nat.le_of_ble_eq_true rfl) ?_
  intro p e s m args below meth c ls X hr hlk G hl Q hQ
  have hx := X.1.1
  have hb := X.1.2.1
  have hown := X.1.2.2.2.1
  have hts := X.1.2.2.2.2
  refine (fun (key : ∀ (H : Heap) (locs : List Loc), cc_H g A pls (cc_pD q x) s H locs → W p l e (headSpec wsX2_throwNext rmX2_throwNext).room s m args below meth c H locs 0 0 Q (F0 m 0 ls [])) => key _ _ G) ?_
  clear G
  intro H locs G
  have hl : lv_has ls 3 [(0, .ref (cc_ad g 3))] := hl
  have hf11 : Cond.fieldLink RX2 11 (TX2 0).1 (TX2 0).2.1 (TX2 0).2.2.1 ∈ wsX2_throwNext := by decide +kernel
  have hf15 : Cond.fieldLink RX2 15 (TX2 1).1 (TX2 1).2.1 (TX2 1).2.2.1 ∈ wsX2_throwNext := by decide +kernel
  have hf28 : Cond.fieldLink RX2 28 (TX2 4).1 (TX2 4).2.1 (TX2 4).2.2.1 ∈ wsX2_throwNext := by decide +kernel
  have hf31 : Cond.fieldLink RX2 31 (TX2 5).1 (TX2 5).2.1 (TX2 5).2.2.1 ∈ wsX2_throwNext := by decide +kernel
  have hin2 : ∀ y ∈ wsX20, y ∈ wsX2_throwNext := (fun _ z => List.mem_cons_of_mem _ (List.mem_append_right _ z))
  refine lv_aload_n hx hb dX2_throwNext_0 rfl (lv_at hl 0 rfl) ?_
  refine cc_get (do_duel g q) X G (x := x) rfl hin2 0 (by decide) hf11 (v := .ref (cc_ad g 4)) rfl dX2_throwNext_1 ?_
  refine lv_iconst (v := 0) hx hb dX2_throwNext_4 (by decide) ?_
  refine lv_aload_n hx hb dX2_throwNext_5 rfl (lv_at hl 0 rfl) ?_
  refine cc_get (do_duel g q) X G (x := x) rfl hin2 1 (by decide) hf15 (v := .ref (cc_ad g 5)) rfl dX2_throwNext_6 ?_
  refine lv_iconst (v := 0) hx hb dX2_throwNext_9 (by decide) ?_
  refine lv_aload_n hx hb dX2_throwNext_10 rfl (lv_at hl 0 rfl) ?_
  refine cc_get (do_duel g q) X G (x := x) rfl hin2 0 (by decide) hf11 (v := .ref (cc_ad g 4)) rfl dX2_throwNext_11 ?_
  refine cc_lalen (dl_0 g q) X G (x := x) rfl dX2_throwNext_14 ?_
  obtain ⟨x1, ex1, h2⟩ := pp_lj_ex h
  clear h
  refine cc_cpyd X hl.1 G (⟨by decide +kernel, by decide +kernel, by decide +kernel, by decide +kernel⟩ : cc_cpw wsX2_throwNext RX2 39) (by decide) (by decide) (by decide) (by decide) (by decide) (Nat.le_of_ble_eq_true rfl) (Nat.le_of_ble_eq_true rfl) ex1 dX2_throwNext_15 (fun H locs G => ?_)
  refine lv_aload_n hx hb dX2_throwNext_18 rfl (lv_at hl 0 rfl) ?_
  obtain ⟨r3, hc3, h4⟩ := pp_ob_ex h2
  clear h2
  refine cc_calv (q2 := (cc_pD q r3)) rfl rfl (do_duel g q) X G (x := x1) rfl (ctX2_clearWays l g pls q x1 hc3) (cwV 0 hts gX2_throwNext_X2_clearWays rfl rfl rfl (by decide +kernel) ⟨Nat.le_of_ble_eq_true rfl, Nat.le_of_ble_eq_true rfl⟩) (rest := []) rfl hl.1 rfl (Nat.le_of_ble_eq_true rfl) dX2_throwNext_19 (fun H locs G => ?_)
  refine lv_iconst (v := 0) hx hb dX2_throwNext_22 (by decide) ?_
  refine lv_istore_n (lv' := [(1, .int (0 : Int32)), (0, .ref (cc_ad g 3))]) hx hb dX2_throwNext_23 rfl hl (by decide) rfl (fun ls hl => ?_)
  refine pp_loop (I := fun (a5 : rr_S × Int32) => ∀ (H : Heap) (locs : List Loc) (ls : Array Slot), cc_H g A pls (cc_pD q a5.1) s H locs → lv_has ls 3 [(0, .ref (cc_ad g 3)), (1, .int a5.2)] → W p l e (headSpec wsX2_throwNext rmX2_throwNext).room s m args below meth c H locs 0 0 Q (F0 m 24 ls [])) ?_ 200 _ h4 H locs ls G (lv_sub hl [1, 0] rfl)
  clear h4
  intro self5 ih5 a5 h5 H locs ls G hl
  refine lv_iload_n hx hb dX2_throwNext_24 rfl (lv_at hl 1 rfl) ?_
  refine lv_iconst (v := 5) hx hb dX2_throwNext_25 (by decide) ?_
  refine lv_icmp_ge (tgt := 64) hx hb dX2_throwNext_26 (by decide) (fun c6 => ?_) (fun c6 => ?_)
  · have h7 := pp_t c6 h5
    clear h5
    refine lv_aload_n hx hb dX2_throwNext_64 rfl (lv_at hl 0 rfl) ?_
    refine lv_iconst (v := 1) hx hb dX2_throwNext_65 (by decide) ?_
    refine lv_aload_n hx hb dX2_throwNext_66 rfl (lv_at hl 0 rfl) ?_
    refine cc_get (do_duel g q) X G (x := a5.1) rfl hin2 4 (by decide) hf28 (v := .int (a5.1.1 4)) rfl dX2_throwNext_67 ?_
    refine lv_isub hx hb dX2_throwNext_70 ?_
    obtain ⟨x8, ex8, h9⟩ := pp_lj_ex h7
    clear h7
    refine cc_put (di_4 g q) X G (x := a5.1) rfl hin2 tyX2 tyX2_ok nmX2 (by decide) hf28 rfl (ty := .int) (by decide +kernel) rfl rfl ex8 dX2_throwNext_71 (fun H locs G => ?_)
    refine lv_aload_n hx hb dX2_throwNext_74 rfl (lv_at hl 0 rfl) ?_
    refine lv_dup hx hb dX2_throwNext_75 rfl ?_
    refine cc_get (do_duel g q) X G (x := x8) rfl hin2 5 (by decide) hf31 (v := .long (x8.2.2 5 0)) rfl dX2_throwNext_76 ?_
    refine lv_ldc2 (v := 40) hx hb hown (hts (.constantLong RX2 48 (40)) (by decide +kernel)) dX2_throwNext_79 ?_
    refine lv_lmul hx hb dX2_throwNext_82 ?_
    obtain ⟨x10, ex10, h11⟩ := pp_lj_ex h9
    clear h9
    refine cc_putl (dk_5 g q) X G (x := x8) rfl hin2 tyX2 tyX2_ok nmX2 (by decide) (Nat.le_of_ble_eq_true rfl) hf31 rfl (by decide +kernel) ex10 dX2_throwNext_83 (fun H locs G => ?_)
    exact cc_vret X hr hlk G (congrArg (fun (z : rr_S) => (cc_pD q z)) (Option.some.inj h11)) hQ dX2_throwNext_86
  · have h12 := pp_f c6 h5
    clear h5
    refine lv_iconst (v := 0) hx hb dX2_throwNext_29 (by decide) ?_
    refine lv_istore_n (lv' := [(2, .int (0 : Int32)), (0, .ref (cc_ad g 3)), (1, .int a5.2)]) hx hb dX2_throwNext_30 rfl hl (by decide) rfl (fun ls hl => ?_)
    refine pp_loop (I := fun (a13 : rr_S × Int32) => ∀ (H : Heap) (locs : List Loc) (ls : Array Slot), cc_H g A pls (cc_pD q a13.1) s H locs → lv_has ls 3 [(0, .ref (cc_ad g 3)), (1, .int a5.2), (2, .int a13.2)] → W p l e (headSpec wsX2_throwNext rmX2_throwNext).room s m args below meth c H locs 0 0 Q (F0 m 31 ls [])) ?_ 200 _ h12 H locs ls G (lv_sub hl [1, 2, 0] rfl)
    clear h12
    intro self13 ih13 a13 h13 H locs ls G hl
    refine lv_iload_n hx hb dX2_throwNext_31 rfl (lv_at hl 2 rfl) ?_
    refine lv_iconst (v := 5) hx hb dX2_throwNext_32 (by decide) ?_
    refine lv_icmp_ge (tgt := 58) hx hb dX2_throwNext_33 (by decide) (fun c14 => ?_) (fun c14 => ?_)
    · have h15 := pp_t c14 h13
      clear h13
      obtain ⟨x16, ex16, h17⟩ := pp_lj_ex h15
      clear h15
      refine lv_iinc (v := x16) (lv' := [(1, .int x16), (0, .ref (cc_ad g 3)), (2, .int a13.2)]) hx hb dX2_throwNext_58 hl (k := 1) rfl (by rw [ex16]; rfl) (by decide) rfl (fun ls hl => ?_)
      refine lv_goto (tgt := 24) hx hb dX2_throwNext_61 (by decide) ?_
      exact ih5 _ h17 H locs ls G (lv_sub hl [1, 0] rfl)
    · have h18 := pp_f c14 h13
      clear h13
      refine lv_aload_n hx hb dX2_throwNext_36 rfl (lv_at hl 0 rfl) ?_
      refine lv_iload_n hx hb dX2_throwNext_37 rfl (lv_at hl 1 rfl) ?_
      refine lv_iload_n hx hb dX2_throwNext_38 rfl (lv_at hl 2 rfl) ?_
      refine lv_aload_n hx hb dX2_throwNext_39 rfl (lv_at hl 0 rfl) ?_
      refine cc_get (do_duel g q) X G (x := a13.1) rfl hin2 1 (by decide) hf15 (v := .ref (cc_ad g 5)) rfl dX2_throwNext_40 ?_
      refine lv_iconst (v := 5) hx hb dX2_throwNext_43 (by decide) ?_
      refine lv_iload_n hx hb dX2_throwNext_44 rfl (lv_at hl 1 rfl) ?_
      refine lv_imul hx hb dX2_throwNext_45 ?_
      refine lv_iload_n hx hb dX2_throwNext_46 rfl (lv_at hl 2 rfl) ?_
      refine lv_iadd hx hb dX2_throwNext_47 ?_
      obtain ⟨hi19, h20⟩ := pp_ix_ex h18
      clear h18
      refine cc_lald (dl_1 g q) X G (x := a13.1) hi19 dX2_throwNext_48 ?_
      obtain ⟨r21, hc21, h22⟩ := pp_ob_ex h20
      clear h20
      refine cc_calv (q2 := (cc_pD q r21)) rfl rfl (do_duel g q) X G (x := a13.1) rfl (ctX2_throwFrom l g pls q a13.1 _ _ _ hc21) (cwV 3 hts gX2_throwNext_X2_throwFrom rfl rfl rfl (by decide +kernel) ⟨Nat.le_of_ble_eq_true rfl, Nat.le_of_ble_eq_true rfl⟩) (rest := []) rfl hl.1 rfl (Nat.le_of_ble_eq_true rfl) dX2_throwNext_49 (fun H locs G => ?_)
      obtain ⟨x23, ex23, h24⟩ := pp_lj_ex h22
      clear h22
      refine lv_iinc (v := x23) (lv' := [(2, .int x23), (0, .ref (cc_ad g 3)), (1, .int a5.2)]) hx hb dX2_throwNext_52 hl (k := 2) rfl (by rw [ex23]; rfl) (by decide) rfl (fun ls hl => ?_)
      refine lv_goto (tgt := 31) hx hb dX2_throwNext_55 (by decide) ?_
      exact ih13 _ h24 H locs ls G (lv_sub hl [1, 2, 0] rfl)
noncomputable def C_worth (q : cc_S) (v1 : Int32) : Option (Int32 × cc_S) := pp_ob (K_isPlayer (cc_gC q 0) v1) (fun r1 => (if r1 = (0 : Int32) then pp_ob (C_refused q (-1 : Int32)) (fun r27 => some (((1000000000 : Int32) - r27.1), r27.2)) else pp_ob (K_isIn (cc_gC q 0) v1) (fun r5 => (if r5 = (0 : Int32) then pp_ob (C_refused q (-3 : Int32)) (fun r24 => some (((1000000000 : Int32) - r24.1), r24.2)) else pp_ob (K_sideOf (cc_gC q 0) v1) (fun r9 => pp_ob (K_becomeLike (cc_gC q 1) (cc_gC q 0)) (fun r11 => pp_lj (cc_pC q 1 r11 : cc_S) (fun x13 => pp_ob (K_goOut (cc_gC x13 1) v1) (fun r15 => pp_lj (cc_pC x13 1 r15.2 : cc_S) (fun x17 => pp_ob (K_gainAt (cc_gC x17 1) r9) (fun r19 => pp_ob (K_gainAt (cc_gC x17 0) r9) (fun r21 => some ((r19 - r21), x17))))))))))))
abbrev rmX10_worth : Room := { frames := 7, cells := 0, slots := 0, locals := 154 }
set_option maxHeartbeats 4000000 in
set_option maxRecDepth 100000 in
theorem ctX10_worth (l : Launch) (g : cc_G) (pls : va_W) (q : cc_S) (v1 : Int32) {res : (Int32 × cc_S)} (h : C_worth q v1 = some res) : cc_Mi l yX10_worth wsX10_worth rmX10_worth g pls [.ref (cc_ad g 0), .int v1] q res.1 res.2 := by
  intro sz A hA
  unfold C_worth at h
  refine cc_ofW hA (own := RX10) (by decide) rfl rfl (Nat.le_of_ble_eq_true rfl) ?_
  intro p e s m args below meth c ls X hr hlk G hl Q hQ
  have hx := X.1.1
  have hb := X.1.2.1
  have hown := X.1.2.2.2.1
  have hts := X.1.2.2.2.2
  refine (fun (key : ∀ (H : Heap) (locs : List Loc), cc_H g A pls q s H locs → W p l e (headSpec wsX10_worth rmX10_worth).room s m args below meth c H locs 0 0 Q (F0 m 0 ls [])) => key _ _ G) ?_
  clear G
  intro H locs G
  have hl : lv_has ls 3 [(0, .ref (cc_ad g 0)), (1, .int v1)] := hl
  have hf19 : Cond.fieldLink RX10 19 (TX10 1).1 (TX10 1).2.1 (TX10 1).2.2.1 ∈ wsX10_worth := by decide +kernel
  have hf23 : Cond.fieldLink RX10 23 (TX10 2).1 (TX10 2).2.1 (TX10 2).2.2.1 ∈ wsX10_worth := by decide +kernel
  have hin10 : ∀ y ∈ wsX100, y ∈ wsX10_worth := (fun _ z => List.mem_cons_of_mem _ (List.mem_append_left _ (List.mem_append_left _ (List.mem_append_left _ (List.mem_append_left _ (List.mem_append_left _ (List.mem_append_left _ (List.mem_append_left _ (List.mem_append_left _ (List.mem_append_right _ z))))))))))
  refine lv_aload_n hx hb dX10_worth_0 rfl (lv_at hl 0 rfl) ?_
  refine cc_get (mo_main g) X G (x := q) rfl hin10 1 (by decide) hf19 (v := .ref (cc_ad g (10 + 20 * 0))) rfl dX10_worth_1 ?_
  refine lv_iload_n hx hb dX10_worth_4 rfl (lv_at hl 1 rfl) ?_
  obtain ⟨r1, hc1, h2⟩ := pp_ob_ex h
  clear h
  refine cc_cali (q2 := q) (cc_pgC q 0) (cc_pgC q 0) (mo_crt g (c := 0) (by decide)) X G (x := q) rfl (ctX1_isPlayer l g pls q (k := 0) (by decide) (cc_gC q 0) _ hc1) (cwV 1 hts gX10_worth_X1_isPlayer rfl rfl rfl (by decide +kernel) ⟨Nat.le_of_ble_eq_true rfl, Nat.le_of_ble_eq_true rfl⟩) (rest := []) rfl hl.1 rfl (Nat.le_of_ble_eq_true rfl) dX10_worth_5 (fun H locs G => ?_)
  refine lv_if_ne (tgt := 20) hx hb dX10_worth_8 (by decide) (fun c3 => ?_) (fun c3 => ?_)
  · have h4 := pp_f c3 h2
    clear h2
    refine lv_aload_n hx hb dX10_worth_20 rfl (lv_at hl 0 rfl) ?_
    refine cc_get (mo_main g) X G (x := q) rfl hin10 1 (by decide) hf19 (v := .ref (cc_ad g (10 + 20 * 0))) rfl dX10_worth_21 ?_
    refine lv_iload_n hx hb dX10_worth_24 rfl (lv_at hl 1 rfl) ?_
    obtain ⟨r5, hc5, h6⟩ := pp_ob_ex h4
    clear h4
    refine cc_cali (q2 := q) (cc_pgC q 0) (cc_pgC q 0) (mo_crt g (c := 0) (by decide)) X G (x := q) rfl (ctX1_isIn l g pls q (k := 0) (by decide) (cc_gC q 0) _ hc5) (cwV 1 hts gX10_worth_X1_isIn rfl rfl rfl (by decide +kernel) ⟨Nat.le_of_ble_eq_true rfl, Nat.le_of_ble_eq_true rfl⟩) (rest := []) rfl hl.1 rfl (Nat.le_of_ble_eq_true rfl) dX10_worth_25 (fun H locs G => ?_)
    refine lv_if_ne (tgt := 41) hx hb dX10_worth_28 (by decide) (fun c7 => ?_) (fun c7 => ?_)
    · have h8 := pp_f c7 h6
      clear h6
      refine lv_aload_n hx hb dX10_worth_41 rfl (lv_at hl 0 rfl) ?_
      refine cc_get (mo_main g) X G (x := q) rfl hin10 1 (by decide) hf19 (v := .ref (cc_ad g (10 + 20 * 0))) rfl dX10_worth_42 ?_
      refine lv_iload_n hx hb dX10_worth_45 rfl (lv_at hl 1 rfl) ?_
      obtain ⟨r9, hc9, h10⟩ := pp_ob_ex h8
      clear h8
      refine cc_cali (q2 := q) (cc_pgC q 0) (cc_pgC q 0) (mo_crt g (c := 0) (by decide)) X G (x := q) rfl (ctX1_sideOf l g pls q (k := 0) (by decide) (cc_gC q 0) _ hc9) (cwV 1 hts gX10_worth_X1_sideOf rfl rfl rfl (by decide +kernel) ⟨Nat.le_of_ble_eq_true rfl, Nat.le_of_ble_eq_true rfl⟩) (rest := []) rfl hl.1 rfl (Nat.le_of_ble_eq_true rfl) dX10_worth_46 (fun H locs G => ?_)
      refine lv_istore_n (lv' := [(2, .int r9), (0, .ref (cc_ad g 0)), (1, .int v1)]) hx hb dX10_worth_49 rfl hl (by decide) rfl (fun ls hl => ?_)
      refine lv_aload_n hx hb dX10_worth_50 rfl (lv_at hl 1 rfl) ?_
      refine cc_get (mo_main g) X G (x := q) rfl hin10 2 (by decide) hf23 (v := .ref (cc_ad g (10 + 20 * 1))) rfl dX10_worth_51 ?_
      refine lv_aload_n hx hb dX10_worth_54 rfl (lv_at hl 1 rfl) ?_
      refine cc_get (mo_main g) X G (x := q) rfl hin10 1 (by decide) hf19 (v := .ref (cc_ad g (10 + 20 * 0))) rfl dX10_worth_55 ?_
      obtain ⟨r11, hc11, h12⟩ := pp_ob_ex h10
      clear h10
      obtain ⟨x13, ex13, h14⟩ := pp_lj_ex h12
      clear h12
      refine cc_calv (q2 := x13) (cc_pgC q 1) ex13.symm (mo_crt g (c := 1) (by decide)) X G (x := q) rfl (ctX1_becomeLike l g pls q (k := 1) (by decide) (cc_gC q 1) (k2 := 0) (by decide) (by decide) (cc_gC q 0) rfl hc11) (cwV 1 hts gX10_worth_X1_becomeLike rfl rfl rfl (by decide +kernel) ⟨Nat.le_of_ble_eq_true rfl, Nat.le_of_ble_eq_true rfl⟩) (rest := []) rfl hl.1 rfl (Nat.le_of_ble_eq_true rfl) dX10_worth_58 (fun H locs G => ?_)
      refine lv_aload_n hx hb dX10_worth_61 rfl (lv_at hl 1 rfl) ?_
      refine cc_get (mo_main g) X G (x := x13) rfl hin10 2 (by decide) hf23 (v := .ref (cc_ad g (10 + 20 * 1))) rfl dX10_worth_62 ?_
      refine lv_iload_n hx hb dX10_worth_65 rfl (lv_at hl 2 rfl) ?_
      obtain ⟨r15, hc15, h16⟩ := pp_ob_ex h14
      clear h14
      obtain ⟨x17, ex17, h18⟩ := pp_lj_ex h16
      clear h16
      refine cc_cali (q2 := x17) (cc_pgC x13 1) ex17.symm (mo_crt g (c := 1) (by decide)) X G (x := x13) rfl (ctX1_goOut l g pls x13 (k := 1) (by decide) (cc_gC x13 1) _ hc15) (cwV 1 hts gX10_worth_X1_goOut rfl rfl rfl (by decide +kernel) ⟨Nat.le_of_ble_eq_true rfl, Nat.le_of_ble_eq_true rfl⟩) (rest := []) rfl hl.1 rfl (Nat.le_of_ble_eq_true rfl) dX10_worth_66 (fun H locs G => ?_)
      refine lv_pop hx hb dX10_worth_69 rfl ?_
      refine lv_aload_n hx hb dX10_worth_70 rfl (lv_at hl 1 rfl) ?_
      refine cc_get (mo_main g) X G (x := x17) rfl hin10 2 (by decide) hf23 (v := .ref (cc_ad g (10 + 20 * 1))) rfl dX10_worth_71 ?_
      refine lv_iload_n hx hb dX10_worth_74 rfl (lv_at hl 0 rfl) ?_
      obtain ⟨r19, hc19, h20⟩ := pp_ob_ex h18
      clear h18
      refine cc_cali (q2 := x17) (cc_pgC x17 1) (cc_pgC x17 1) (mo_crt g (c := 1) (by decide)) X G (x := x17) rfl (ctX1_gainAt l g pls x17 (k := 1) (by decide) (cc_gC x17 1) _ hc19) (cwV 1 hts gX10_worth_X1_gainAt rfl rfl rfl (by decide +kernel) ⟨Nat.le_of_ble_eq_true rfl, Nat.le_of_ble_eq_true rfl⟩) (rest := []) rfl hl.1 rfl (Nat.le_of_ble_eq_true rfl) dX10_worth_75 (fun H locs G => ?_)
      refine lv_aload_n hx hb dX10_worth_78 rfl (lv_at hl 1 rfl) ?_
      refine cc_get (mo_main g) X G (x := x17) rfl hin10 1 (by decide) hf19 (v := .ref (cc_ad g (10 + 20 * 0))) rfl dX10_worth_79 ?_
      refine lv_iload_n hx hb dX10_worth_82 rfl (lv_at hl 0 rfl) ?_
      obtain ⟨r21, hc21, h22⟩ := pp_ob_ex h20
      clear h20
      refine cc_cali (q2 := x17) (cc_pgC x17 0) (cc_pgC x17 0) (mo_crt g (c := 0) (by decide)) X G (x := x17) rfl (ctX1_gainAt l g pls x17 (k := 0) (by decide) (cc_gC x17 0) _ hc21) (cwV 1 hts gX10_worth_X1_gainAt rfl rfl rfl (by decide +kernel) ⟨Nat.le_of_ble_eq_true rfl, Nat.le_of_ble_eq_true rfl⟩) (rest := [.int r19]) rfl hl.1 rfl (Nat.le_of_ble_eq_true rfl) dX10_worth_83 (fun H locs G => ?_)
      refine lv_isub hx hb dX10_worth_86 ?_
      exact cc_iretW cc_id X hr hlk rfl G h22 hQ dX10_worth_87
    · have h23 := pp_t c7 h6
      clear h6
      refine lv_ldc (v := 1000000000) hx hb hown (hts (.constant RX10 149 (1000000000)) (by decide +kernel)) dX10_worth_31 ?_
      refine lv_aload_n hx hb dX10_worth_33 rfl (lv_at hl 0 rfl) ?_
      refine lv_bipush (v := -3) hx hb dX10_worth_34 (by decide) ?_
      obtain ⟨r24, hc24, h25⟩ := pp_ob_ex h23
      clear h23
      refine cc_cali (q2 := r24.2) rfl rfl (mo_main g) X G (x := q) rfl (ctX10_refused l g pls q _ hc24) (cwV 1 hts gX10_worth_X10_refused rfl rfl rfl (by decide +kernel) ⟨Nat.le_of_ble_eq_true rfl, Nat.le_of_ble_eq_true rfl⟩) (rest := [.int (1000000000 : Int32)]) rfl hl.1 rfl (Nat.le_of_ble_eq_true rfl) dX10_worth_36 (fun H locs G => ?_)
      refine lv_isub hx hb dX10_worth_39 ?_
      exact cc_iretW cc_id X hr hlk rfl G h25 hQ dX10_worth_40
  · have h26 := pp_t c3 h2
    clear h2
    refine lv_ldc (v := 1000000000) hx hb hown (hts (.constant RX10 149 (1000000000)) (by decide +kernel)) dX10_worth_11 ?_
    refine lv_aload_n hx hb dX10_worth_13 rfl (lv_at hl 0 rfl) ?_
    refine lv_iconst (v := -1) hx hb dX10_worth_14 (by decide) ?_
    obtain ⟨r27, hc27, h28⟩ := pp_ob_ex h26
    clear h26
    refine cc_cali (q2 := r27.2) rfl rfl (mo_main g) X G (x := q) rfl (ctX10_refused l g pls q _ hc27) (cwV 1 hts gX10_worth_X10_refused rfl rfl rfl (by decide +kernel) ⟨Nat.le_of_ble_eq_true rfl, Nat.le_of_ble_eq_true rfl⟩) (rest := [.int (1000000000 : Int32)]) rfl hl.1 rfl (Nat.le_of_ble_eq_true rfl) dX10_worth_15 (fun H locs G => ?_)
    refine lv_isub hx hb dX10_worth_18 ?_
    exact cc_iretW cc_id X hr hlk rfl G h28 hQ dX10_worth_19
noncomputable def C_duel (q : cc_S) (v1 : Int32) (v2 : Int32) (v3 : Int32) (v4 : Int32) (v5 : Int32) (v6 : Int32) : Option (Int64 × cc_S) := pp_lj (fun (a1 : Unit) => (pp_ob (C_refused q (-4 : Int32)) (fun r4 => some (((4000000000000000000 : Int64) - (Int32.toInt64 r4.1)), r4.2)) : Option (Int64 × cc_S))) (fun j1 => (if v1 < (1 : Int32) then j1 () else (if v2 < (1 : Int32) then j1 () else (if v3 < (1 : Int32) then j1 () else (if v4 < (1 : Int32) then j1 () else (if (1 : Int32) ≤ v5 then pp_lj (fun (a20 : Unit) => (pp_ob (C_refused q (-6 : Int32)) (fun r23 => some (((4000000000000000000 : Int64) - (Int32.toInt64 r23.1)), r23.2)) : Option (Int64 × cc_S))) (fun j20 => (if (4 : Int32) < v1 then j20 () else (if (4 : Int32) < v2 then j20 () else (if (19 : Int32) < v3 then j20 () else (if (19 : Int32) < v4 then j20 () else (if v5 ≤ (9 : Int32) then pp_lj (fun (a39 : Unit) => (pp_ob (C_refused q (-2 : Int32)) (fun r42 => some (((4000000000000000000 : Int64) - (Int32.toInt64 r42.1)), r42.2)) : Option (Int64 × cc_S))) (fun j39 => (if v6 < (0 : Int32) then j39 () else (if v6 ≤ (3 : Int32) then pp_ob (D_begin (cc_gD q) v1 v2 v3 v4) (fun r49 => pp_lj (cc_pD q r49 : cc_S) (fun x51 => pp_it (fun (self53 : cc_S × Int32 → Option (Int64 × cc_S)) (a53 : cc_S × Int32) => (if v5 ≤ a53.2 then pp_ob (D_waysWonBy (cc_gD a53.1) (v6 / (2 : Int32))) (fun r56 => pp_lj (((cc_gD a53.1).2.2 5 0) : Int64) (fun x58 => pp_ob (C_commonDivisor r56 x58) (fun r60 => pp_lj (fun (a62 : Int64) => (pp_lj (fun (a65 : Int64) => (pp_dl a62 (some ((a65 / a62), a53.1)) : Option (Int64 × cc_S))) (fun j65 => (if (v6 - (v6 / (2 : Int32)) * (2 : Int32)) = (0 : Int32) then j65 r56 else j65 x58)) : Option (Int64 × cc_S))) (fun j62 => (if (0 : Int32) ≤ (lg_cmp r60 (1 : Int64)) then j62 r60 else j62 (1 : Int64)))))) else pp_ob (D_throwNext (cc_gD a53.1)) (fun r77 => pp_lj (cc_pD a53.1 r77 : cc_S) (fun x79 => pp_lj (a53.2 + 1 : Int32) (fun x81 => self53 (x79, x81)))))) 200 (x51, (0 : Int32)))) else j39 ()))) else j20 ())))))) else j1 ()))))))
abbrev rmX10_duel : Room := { frames := 3, cells := 0, slots := 0, locals := 102 }
set_option maxHeartbeats 4000000 in
set_option maxRecDepth 100000 in
theorem ctX10_duel (l : Launch) (g : cc_G) (pls : va_W) (q : cc_S) (v1 : Int32) (v2 : Int32) (v3 : Int32) (v4 : Int32) (v5 : Int32) (v6 : Int32) {res : (Int64 × cc_S)} (h : C_duel q v1 v2 v3 v4 v5 v6 = some res) : cc_Ml l yX10_duel wsX10_duel rmX10_duel g pls [.ref (cc_ad g 0), .int v1, .int v2, .int v3, .int v4, .int v5, .int v6] q res.1 res.2 := by
  intro sz A hA
  unfold C_duel at h
  refine cc_ofW hA (own := RX10) (by decide) rfl rfl (Nat.le_of_ble_eq_true rfl) ?_
  intro p e s m args below meth c ls X hr hlk G hl Q hQ
  have hx := X.1.1
  have hb := X.1.2.1
  have hown := X.1.2.2.2.1
  have hts := X.1.2.2.2.2
  refine (fun (key : ∀ (H : Heap) (locs : List Loc), cc_H g A pls q s H locs → W p l e (headSpec wsX10_duel rmX10_duel).room s m args below meth c H locs 0 0 Q (F0 m 0 ls [])) => key _ _ G) ?_
  clear G
  intro H locs G
  have hl : lv_has ls 13 [(0, .ref (cc_ad g 0)), (1, .int v1), (2, .int v2), (3, .int v3), (4, .int v4), (5, .int v5), (6, .int v6)] := hl
  have hf32 : Cond.fieldLink RX10 32 (TX10 5).1 (TX10 5).2.1 (TX10 5).2.2.1 ∈ wsX10_duel := by decide +kernel
  have hin2 : ∀ y ∈ wsX20, y ∈ wsX10_duel := (fun _ z => List.mem_cons_of_mem _ (List.mem_append_right _ z))
  have hin10 : ∀ y ∈ wsX100, y ∈ wsX10_duel := (fun _ z => List.mem_cons_of_mem _ (List.mem_append_left _ (List.mem_append_right _ z)))
  refine lv_iload_n hx hb dX10_duel_0 rfl (lv_at hl 1 rfl) ?_
  refine lv_iconst (v := 1) hx hb dX10_duel_1 (by decide) ?_
  obtain ⟨j1, ej1, h2⟩ := pp_lj_ex h
  clear h
  have hj1 : ∀ (a1 : Unit) (H : Heap) (locs : List Loc) (ls : Array Slot), j1 a1 = some res → cc_H g A pls q s H locs → lv_has ls 13 [(0, .ref (cc_ad g 0))] → W p l e (headSpec wsX10_duel rmX10_duel).room s m args below meth c H locs 0 0 Q (F0 m 27 ls []) := by
    intro a1 H locs ls h G hl
    have h3 := pp_jmp ej1 h
    clear h h2
    refine lv_ldc2 (v := 4000000000000000000) hx hb hown (hts (.constantLong RX10 169 (4000000000000000000)) (by decide +kernel)) dX10_duel_27 ?_
    refine lv_aload_n hx hb dX10_duel_30 rfl (lv_at hl 0 rfl) ?_
    refine lv_bipush (v := -4) hx hb dX10_duel_31 (by decide) ?_
    obtain ⟨r4, hc4, h5⟩ := pp_ob_ex h3
    clear h3
    refine cc_cali (q2 := r4.2) rfl rfl (mo_main g) X G (x := q) rfl (ctX10_refused l g pls q _ hc4) (cwV 1 hts gX10_duel_X10_refused rfl rfl rfl (by decide +kernel) ⟨Nat.le_of_ble_eq_true rfl, Nat.le_of_ble_eq_true rfl⟩) (rest := [.long (4000000000000000000 : Int64)]) rfl hl.1 rfl (Nat.le_of_ble_eq_true rfl) dX10_duel_33 (fun H locs G => ?_)
    refine lv_i2l hx hb dX10_duel_36 rfl ?_
    refine lv_lsub hx hb dX10_duel_37 ?_
    exact cc_lretW cc_id X hr hlk G h5 hQ dX10_duel_38
  refine lv_icmp_lt (tgt := 27) hx hb dX10_duel_2 (by decide) (fun c6 => ?_) (fun c6 => ?_)
  · have h7 := pp_t c6 h2
    clear h2
    exact hj1 _ H locs ls h7 G (lv_sub hl [0] rfl)
  · have h8 := pp_f c6 h2
    clear h2
    refine lv_iload_n hx hb dX10_duel_5 rfl (lv_at hl 2 rfl) ?_
    refine lv_iconst (v := 1) hx hb dX10_duel_6 (by decide) ?_
    refine lv_icmp_lt (tgt := 27) hx hb dX10_duel_7 (by decide) (fun c9 => ?_) (fun c9 => ?_)
    · have h10 := pp_t c9 h8
      clear h8
      exact hj1 _ H locs ls h10 G (lv_sub hl [0] rfl)
    · have h11 := pp_f c9 h8
      clear h8
      refine lv_iload_n hx hb dX10_duel_10 rfl (lv_at hl 3 rfl) ?_
      refine lv_iconst (v := 1) hx hb dX10_duel_11 (by decide) ?_
      refine lv_icmp_lt (tgt := 27) hx hb dX10_duel_12 (by decide) (fun c12 => ?_) (fun c12 => ?_)
      · have h13 := pp_t c12 h11
        clear h11
        exact hj1 _ H locs ls h13 G (lv_sub hl [0] rfl)
      · have h14 := pp_f c12 h11
        clear h11
        refine lv_iload hx hb dX10_duel_15 (lv_at hl 4 rfl) ?_
        refine lv_iconst (v := 1) hx hb dX10_duel_17 (by decide) ?_
        refine lv_icmp_lt (tgt := 27) hx hb dX10_duel_18 (by decide) (fun c15 => ?_) (fun c15 => ?_)
        · have h16 := pp_t c15 h14
          clear h14
          exact hj1 _ H locs ls h16 G (lv_sub hl [0] rfl)
        · have h17 := pp_f c15 h14
          clear h14
          refine lv_iload hx hb dX10_duel_21 (lv_at hl 5 rfl) ?_
          refine lv_iconst (v := 1) hx hb dX10_duel_23 (by decide) ?_
          refine lv_icmp_ge (tgt := 39) hx hb dX10_duel_24 (by decide) (fun c18 => ?_) (fun c18 => ?_)
          · have h19 := pp_t c18 h17
            clear h17
            refine lv_iload_n hx hb dX10_duel_39 rfl (lv_at hl 1 rfl) ?_
            refine lv_iconst (v := 4) hx hb dX10_duel_40 (by decide) ?_
            obtain ⟨j20, ej20, h21⟩ := pp_lj_ex h19
            clear h19
            have hj20 : ∀ (a20 : Unit) (H : Heap) (locs : List Loc) (ls : Array Slot), j20 a20 = some res → cc_H g A pls q s H locs → lv_has ls 13 [(0, .ref (cc_ad g 0))] → W p l e (headSpec wsX10_duel rmX10_duel).room s m args below meth c H locs 0 0 Q (F0 m 69 ls []) := by
              intro a20 H locs ls h G hl
              have h22 := pp_jmp ej20 h
              clear h h21
              refine lv_ldc2 (v := 4000000000000000000) hx hb hown (hts (.constantLong RX10 169 (4000000000000000000)) (by decide +kernel)) dX10_duel_69 ?_
              refine lv_aload_n hx hb dX10_duel_72 rfl (lv_at hl 0 rfl) ?_
              refine lv_bipush (v := -6) hx hb dX10_duel_73 (by decide) ?_
              obtain ⟨r23, hc23, h24⟩ := pp_ob_ex h22
              clear h22
              refine cc_cali (q2 := r23.2) rfl rfl (mo_main g) X G (x := q) rfl (ctX10_refused l g pls q _ hc23) (cwV 1 hts gX10_duel_X10_refused rfl rfl rfl (by decide +kernel) ⟨Nat.le_of_ble_eq_true rfl, Nat.le_of_ble_eq_true rfl⟩) (rest := [.long (4000000000000000000 : Int64)]) rfl hl.1 rfl (Nat.le_of_ble_eq_true rfl) dX10_duel_75 (fun H locs G => ?_)
              refine lv_i2l hx hb dX10_duel_78 rfl ?_
              refine lv_lsub hx hb dX10_duel_79 ?_
              exact cc_lretW cc_id X hr hlk G h24 hQ dX10_duel_80
            refine lv_icmp_gt (tgt := 69) hx hb dX10_duel_41 (by decide) (fun c25 => ?_) (fun c25 => ?_)
            · have h26 := pp_t c25 h21
              clear h21
              exact hj20 _ H locs ls h26 G (lv_sub hl [0] rfl)
            · have h27 := pp_f c25 h21
              clear h21
              refine lv_iload_n hx hb dX10_duel_44 rfl (lv_at hl 2 rfl) ?_
              refine lv_iconst (v := 4) hx hb dX10_duel_45 (by decide) ?_
              refine lv_icmp_gt (tgt := 69) hx hb dX10_duel_46 (by decide) (fun c28 => ?_) (fun c28 => ?_)
              · have h29 := pp_t c28 h27
                clear h27
                exact hj20 _ H locs ls h29 G (lv_sub hl [0] rfl)
              · have h30 := pp_f c28 h27
                clear h27
                refine lv_iload_n hx hb dX10_duel_49 rfl (lv_at hl 3 rfl) ?_
                refine lv_bipush (v := 19) hx hb dX10_duel_50 (by decide) ?_
                refine lv_icmp_gt (tgt := 69) hx hb dX10_duel_52 (by decide) (fun c31 => ?_) (fun c31 => ?_)
                · have h32 := pp_t c31 h30
                  clear h30
                  exact hj20 _ H locs ls h32 G (lv_sub hl [0] rfl)
                · have h33 := pp_f c31 h30
                  clear h30
                  refine lv_iload hx hb dX10_duel_55 (lv_at hl 4 rfl) ?_
                  refine lv_bipush (v := 19) hx hb dX10_duel_57 (by decide) ?_
                  refine lv_icmp_gt (tgt := 69) hx hb dX10_duel_59 (by decide) (fun c34 => ?_) (fun c34 => ?_)
                  · have h35 := pp_t c34 h33
                    clear h33
                    exact hj20 _ H locs ls h35 G (lv_sub hl [0] rfl)
                  · have h36 := pp_f c34 h33
                    clear h33
                    refine lv_iload hx hb dX10_duel_62 (lv_at hl 5 rfl) ?_
                    refine lv_bipush (v := 9) hx hb dX10_duel_64 (by decide) ?_
                    refine lv_icmp_le (tgt := 81) hx hb dX10_duel_66 (by decide) (fun c37 => ?_) (fun c37 => ?_)
                    · have h38 := pp_t c37 h36
                      clear h36
                      refine lv_iload hx hb dX10_duel_81 (lv_at hl 6 rfl) ?_
                      obtain ⟨j39, ej39, h40⟩ := pp_lj_ex h38
                      clear h38
                      have hj39 : ∀ (a39 : Unit) (H : Heap) (locs : List Loc) (ls : Array Slot), j39 a39 = some res → cc_H g A pls q s H locs → lv_has ls 13 [(0, .ref (cc_ad g 0))] → W p l e (headSpec wsX10_duel rmX10_duel).room s m args below meth c H locs 0 0 Q (F0 m 92 ls []) := by
                        intro a39 H locs ls h G hl
                        have h41 := pp_jmp ej39 h
                        clear h h40
                        refine lv_ldc2 (v := 4000000000000000000) hx hb hown (hts (.constantLong RX10 169 (4000000000000000000)) (by decide +kernel)) dX10_duel_92 ?_
                        refine lv_aload_n hx hb dX10_duel_95 rfl (lv_at hl 0 rfl) ?_
                        refine lv_bipush (v := -2) hx hb dX10_duel_96 (by decide) ?_
                        obtain ⟨r42, hc42, h43⟩ := pp_ob_ex h41
                        clear h41
                        refine cc_cali (q2 := r42.2) rfl rfl (mo_main g) X G (x := q) rfl (ctX10_refused l g pls q _ hc42) (cwV 1 hts gX10_duel_X10_refused rfl rfl rfl (by decide +kernel) ⟨Nat.le_of_ble_eq_true rfl, Nat.le_of_ble_eq_true rfl⟩) (rest := [.long (4000000000000000000 : Int64)]) rfl hl.1 rfl (Nat.le_of_ble_eq_true rfl) dX10_duel_98 (fun H locs G => ?_)
                        refine lv_i2l hx hb dX10_duel_101 rfl ?_
                        refine lv_lsub hx hb dX10_duel_102 ?_
                        exact cc_lretW cc_id X hr hlk G h43 hQ dX10_duel_103
                      refine lv_if_lt (tgt := 92) hx hb dX10_duel_83 (by decide) (fun c44 => ?_) (fun c44 => ?_)
                      · have h45 := pp_t c44 h40
                        clear h40
                        exact hj39 _ H locs ls h45 G (lv_sub hl [0] rfl)
                      · have h46 := pp_f c44 h40
                        clear h40
                        refine lv_iload hx hb dX10_duel_86 (lv_at hl 6 rfl) ?_
                        refine lv_iconst (v := 3) hx hb dX10_duel_88 (by decide) ?_
                        refine lv_icmp_le (tgt := 104) hx hb dX10_duel_89 (by decide) (fun c47 => ?_) (fun c47 => ?_)
                        · have h48 := pp_t c47 h46
                          clear h46
                          refine lv_aload_n hx hb dX10_duel_104 rfl (lv_at hl 0 rfl) ?_
                          refine cc_get (mo_main g) X G (x := q) rfl hin10 5 (by decide) hf32 (v := .ref (cc_ad g 3)) rfl dX10_duel_105 ?_
                          refine lv_iload_n hx hb dX10_duel_108 rfl (lv_at hl 1 rfl) ?_
                          refine lv_iload_n hx hb dX10_duel_109 rfl (lv_at hl 2 rfl) ?_
                          refine lv_iload_n hx hb dX10_duel_110 rfl (lv_at hl 3 rfl) ?_
                          refine lv_iload hx hb dX10_duel_111 (lv_at hl 4 rfl) ?_
                          obtain ⟨r49, hc49, h50⟩ := pp_ob_ex h48
                          clear h48
                          obtain ⟨x51, ex51, h52⟩ := pp_lj_ex h50
                          clear h50
                          refine cc_calv (q2 := x51) (cc_pgD q) ex51.symm (mo_duel g) X G (x := q) rfl (ctX2_begin l g pls q (cc_gD q) _ _ _ _ hc49) (cwV 4 hts gX10_duel_X2_begin rfl rfl rfl (by decide +kernel) ⟨Nat.le_of_ble_eq_true rfl, Nat.le_of_ble_eq_true rfl⟩) (rest := []) rfl hl.1 rfl (Nat.le_of_ble_eq_true rfl) dX10_duel_113 (fun H locs G => ?_)
                          refine lv_iconst (v := 0) hx hb dX10_duel_116 (by decide) ?_
                          refine lv_istore (lv' := [(7, .int (0 : Int32)), (0, .ref (cc_ad g 0)), (1, .int v1), (2, .int v2), (3, .int v3), (4, .int v4), (5, .int v5), (6, .int v6)]) hx hb dX10_duel_117 hl (by decide) rfl (fun ls hl => ?_)
                          refine pp_loop (I := fun (a53 : cc_S × Int32) => ∀ (H : Heap) (locs : List Loc) (ls : Array Slot), cc_H g A pls a53.1 s H locs → lv_has ls 13 [(0, .ref (cc_ad g 0)), (5, .int v5), (6, .int v6), (7, .int a53.2)] → W p l e (headSpec wsX10_duel rmX10_duel).room s m args below meth c H locs 0 0 Q (F0 m 119 ls [])) ?_ 200 _ h52 H locs ls G (lv_sub hl [1, 6, 7, 0] rfl)
                          clear h52
                          intro self53 ih53 a53 h53 H locs ls G hl
                          refine lv_iload hx hb dX10_duel_119 (lv_at hl 3 rfl) ?_
                          refine lv_iload hx hb dX10_duel_121 (lv_at hl 1 rfl) ?_
                          refine lv_icmp_ge (tgt := 139) hx hb dX10_duel_123 (by decide) (fun c54 => ?_) (fun c54 => ?_)
                          · have h55 := pp_t c54 h53
                            clear h53
                            refine lv_aload_n hx hb dX10_duel_139 rfl (lv_at hl 0 rfl) ?_
                            refine cc_get (mo_main g) X G (x := a53.1) rfl hin10 5 (by decide) hf32 (v := .ref (cc_ad g 3)) rfl dX10_duel_140 ?_
                            refine lv_iload hx hb dX10_duel_143 (lv_at hl 2 rfl) ?_
                            refine lv_iconst (v := 2) hx hb dX10_duel_145 (by decide) ?_
                            refine lv_idiv hx hb dX10_duel_146 (by decide) ?_
                            obtain ⟨r56, hc56, h57⟩ := pp_ob_ex h55
                            clear h55
                            refine cc_call (q2 := a53.1) (cc_pgD a53.1) (cc_pgD a53.1) (mo_duel g) X G (x := a53.1) rfl (ctX2_waysWonBy l g pls a53.1 (cc_gD a53.1) _ hc56) (cwV 1 hts gX10_duel_X2_waysWonBy rfl rfl rfl (by decide +kernel) ⟨Nat.le_of_ble_eq_true rfl, Nat.le_of_ble_eq_true rfl⟩) (rest := []) rfl hl.1 rfl (Nat.le_of_ble_eq_true rfl) dX10_duel_147 (fun H locs G => ?_)
                            refine lv_lstore (lv' := [(7, .long r56), (0, .ref (cc_ad g 0)), (5, .int v5), (6, .int v6)]) hx hb dX10_duel_150 hl (by decide) rfl (fun ls hl => ?_)
                            refine lv_aload_n hx hb dX10_duel_152 rfl (lv_at hl 1 rfl) ?_
                            refine cc_get (mo_main g) X G (x := a53.1) rfl hin10 5 (by decide) hf32 (v := .ref (cc_ad g 3)) rfl dX10_duel_153 ?_
                            refine cc_getN (mo_duel g) X G (x := a53.1) rfl hin2 5 (by decide) (by decide +kernel) (v := .long ((cc_gD a53.1).2.2 5 0)) rfl dX10_duel_156 ?_
                            obtain ⟨x58, ex58, h59⟩ := pp_lj_ex h57
                            clear h57
                            refine lv_nml ex58 ?_
                            refine lv_lstore (lv' := [(9, .long x58), (7, .long r56), (0, .ref (cc_ad g 0)), (5, .int v5), (6, .int v6)]) hx hb dX10_duel_159 hl (by decide) rfl (fun ls hl => ?_)
                            refine lv_lload hx hb dX10_duel_161 (lv_at hl 1 rfl) ?_
                            refine lv_lload hx hb dX10_duel_163 (lv_at hl 0 rfl) ?_
                            obtain ⟨r60, hc60, h61⟩ := pp_ob_ex h59
                            clear h59
                            refine cc_csl X G (ctX10_commonDivisor l _ _ hc60) (va_cwS 2 hts gX10_duel_X10_commonDivisor rfl rfl rfl (by decide +kernel) ⟨Nat.le_of_ble_eq_true rfl, Nat.le_of_ble_eq_true rfl⟩) (rest := []) rfl hl.1 rfl (Nat.le_of_ble_eq_true rfl) dX10_duel_165 (fun H locs G => ?_)
                            refine lv_lstore (lv' := [(11, .long r60), (9, .long x58), (7, .long r56), (0, .ref (cc_ad g 0)), (5, .int v5), (6, .int v6)]) hx hb dX10_duel_168 hl (by decide) rfl (fun ls hl => ?_)
                            refine lv_lload hx hb dX10_duel_170 (lv_at hl 0 rfl) ?_
                            refine lv_lconst (v := 1) hx hb dX10_duel_172 (by decide) ?_
                            refine W.lcmp hx hb dX10_duel_173 ?_
                            obtain ⟨j62, ej62, h63⟩ := pp_lj_ex h61
                            clear h61
                            have hj62 : ∀ (a62 : Int64) (H : Heap) (locs : List Loc) (ls : Array Slot), j62 a62 = some res → cc_H g A pls a53.1 s H locs → lv_has ls 13 [(6, .int v6), (7, .long r56), (9, .long x58), (11, .long a62)] → W p l e (headSpec wsX10_duel rmX10_duel).room s m args below meth c H locs 0 0 Q (F0 m 180 ls []) := by
                              intro a62 H locs ls h G hl
                              have h64 := pp_jmp ej62 h
                              clear h h63
                              refine lv_iload hx hb dX10_duel_180 (lv_at hl 0 rfl) ?_
                              refine lv_iconst (v := 2) hx hb dX10_duel_182 (by decide) ?_
                              refine lv_irem hx hb dX10_duel_183 (by decide) ?_
                              obtain ⟨j65, ej65, h66⟩ := pp_lj_ex h64
                              clear h64
                              have hj65 : ∀ (a65 : Int64) (H : Heap) (locs : List Loc) (ls : Array Slot), j65 a65 = some res → cc_H g A pls a53.1 s H locs → lv_has ls 13 [(11, .long a62)] → W p l e (headSpec wsX10_duel rmX10_duel).room s m args below meth c H locs 0 0 Q (F0 m 194 ls [.long a65]) := by
                                intro a65 H locs ls h G hl
                                have h67 := pp_jmp ej65 h
                                clear h h66
                                refine lv_lload hx hb dX10_duel_194 (lv_at hl 0 rfl) ?_
                                obtain ⟨hz68, h69⟩ := pp_dl_ex h67
                                clear h67
                                refine lv_ldiv hx hb dX10_duel_196 hz68 ?_
                                exact cc_lretW cc_id X hr hlk G h69 hQ dX10_duel_197
                              refine lv_if_ne (tgt := 192) hx hb dX10_duel_184 (by decide) (fun c70 => ?_) (fun c70 => ?_)
                              · have h71 := pp_f c70 h66
                                clear h66
                                refine lv_lload hx hb dX10_duel_192 (lv_at hl 2 rfl) ?_
                                exact hj65 _ H locs ls h71 G (lv_sub hl [3] rfl)
                              · have h72 := pp_t c70 h66
                                clear h66
                                refine lv_lload hx hb dX10_duel_187 (lv_at hl 1 rfl) ?_
                                refine lv_goto (tgt := 194) hx hb dX10_duel_189 (by decide) ?_
                                exact hj65 _ H locs ls h72 G (lv_sub hl [3] rfl)
                            refine lv_if_ge (tgt := 180) hx hb dX10_duel_174 (by decide) (fun c73 => ?_) (fun c73 => ?_)
                            · have h74 := pp_t c73 h63
                              clear h63
                              exact hj62 _ H locs ls h74 G (lv_sub hl [5, 2, 1, 0] rfl)
                            · have h75 := pp_f c73 h63
                              clear h63
                              refine lv_lconst (v := 1) hx hb dX10_duel_177 (by decide) ?_
                              refine lv_lstore (lv' := [(11, .long (1 : Int64)), (9, .long x58), (7, .long r56), (0, .ref (cc_ad g 0)), (5, .int v5), (6, .int v6)]) hx hb dX10_duel_178 hl (by decide) rfl (fun ls hl => ?_)
                              exact hj62 _ H locs ls h75 G (lv_sub hl [5, 2, 1, 0] rfl)
                          · have h76 := pp_f c54 h53
                            clear h53
                            refine lv_aload_n hx hb dX10_duel_126 rfl (lv_at hl 0 rfl) ?_
                            refine cc_get (mo_main g) X G (x := a53.1) rfl hin10 5 (by decide) hf32 (v := .ref (cc_ad g 3)) rfl dX10_duel_127 ?_
                            obtain ⟨r77, hc77, h78⟩ := pp_ob_ex h76
                            clear h76
                            obtain ⟨x79, ex79, h80⟩ := pp_lj_ex h78
                            clear h78
                            refine cc_calv (q2 := x79) (cc_pgD a53.1) ex79.symm (mo_duel g) X G (x := a53.1) rfl (ctX2_throwNext l g pls a53.1 (cc_gD a53.1) hc77) (cwV 0 hts gX10_duel_X2_throwNext rfl rfl rfl (by decide +kernel) ⟨Nat.le_of_ble_eq_true rfl, Nat.le_of_ble_eq_true rfl⟩) (rest := []) rfl hl.1 rfl (Nat.le_of_ble_eq_true rfl) dX10_duel_130 (fun H locs G => ?_)
                            obtain ⟨x81, ex81, h82⟩ := pp_lj_ex h80
                            clear h80
                            refine lv_iinc (v := x81) (lv' := [(7, .int x81), (0, .ref (cc_ad g 0)), (5, .int v5), (6, .int v6)]) hx hb dX10_duel_133 hl (k := 3) rfl (by rw [ex81]; rfl) (by decide) rfl (fun ls hl => ?_)
                            refine lv_goto (tgt := 119) hx hb dX10_duel_136 (by decide) ?_
                            exact ih53 _ h82 H locs ls G (lv_sub hl [1, 2, 3, 0] rfl)
                        · have h83 := pp_f c47 h46
                          clear h46
                          exact hj39 _ H locs ls h83 G (lv_sub hl [0] rfl)
                    · have h84 := pp_f c37 h36
                      clear h36
                      exact hj20 _ H locs ls h84 G (lv_sub hl [0] rfl)
          · have h85 := pp_f c18 h17
            clear h17
            exact hj1 _ H locs ls h85 G (lv_sub hl [0] rfl)
noncomputable def C_playRowInMind (q : cc_S) : Option (Int32 × cc_S) := pp_ob (K_becomeLike (cc_gC q 1) (cc_gC q 0)) (fun r1 => pp_lj (cc_pC q 1 r1 : cc_S) (fun x3 => pp_it (fun (self5 : cc_S × Int32 → Option (Int32 × cc_S)) (a5 : cc_S × Int32) => (if (a5.1.1.1 7) ≤ a5.2 then some ((-9 : Int32), a5.1) else (if (Int32.ofNat 12) ≤ a5.2 then some ((-9 : Int32), a5.1) else pp_ix a5.2 12 (pp_ob (C_throwInMind a5.1 (a5.1.1.2.1 6 (Int32.toNatClampNeg a5.2))) (fun r14 => (if r14.1 = (0 : Int32) then some (a5.2, r14.2) else pp_lj (a5.2 + 1 : Int32) (fun x18 => self5 (r14.2, x18)))))))) 200 (x3, (0 : Int32))))
abbrev rmX10_playRowInMind : Room := { frames := 5, cells := 0, slots := 0, locals := 123 }
set_option maxHeartbeats 4000000 in
set_option maxRecDepth 100000 in
theorem ctX10_playRowInMind (l : Launch) (g : cc_G) (pls : va_W) (q : cc_S) {res : (Int32 × cc_S)} (h : C_playRowInMind q = some res) : cc_Mi l yX10_playRowInMind wsX10_playRowInMind rmX10_playRowInMind g pls [.ref (cc_ad g 0)] q res.1 res.2 := by
  intro sz A hA
  unfold C_playRowInMind at h
  refine cc_ofW hA (own := RX10) (by decide) rfl rfl (Nat.le_of_ble_eq_true rfl) ?_
  intro p e s m args below meth c ls X hr hlk G hl Q hQ
  have hx := X.1.1
  have hb := X.1.2.1
  have hown := X.1.2.2.2.1
  have hts := X.1.2.2.2.2
  refine (fun (key : ∀ (H : Heap) (locs : List Loc), cc_H g A pls q s H locs → W p l e (headSpec wsX10_playRowInMind rmX10_playRowInMind).room s m args below meth c H locs 0 0 Q (F0 m 0 ls [])) => key _ _ G) ?_
  clear G
  intro H locs G
  have hl : lv_has ls 2 [(0, .ref (cc_ad g 0))] := hl
  have hf19 : Cond.fieldLink RX10 19 (TX10 1).1 (TX10 1).2.1 (TX10 1).2.2.1 ∈ wsX10_playRowInMind := by decide +kernel
  have hf23 : Cond.fieldLink RX10 23 (TX10 2).1 (TX10 2).2.1 (TX10 2).2.2.1 ∈ wsX10_playRowInMind := by decide +kernel
  have hf36 : Cond.fieldLink RX10 36 (TX10 6).1 (TX10 6).2.1 (TX10 6).2.2.1 ∈ wsX10_playRowInMind := by decide +kernel
  have hf193 : Cond.fieldLink RX10 193 (TX10 7).1 (TX10 7).2.1 (TX10 7).2.2.1 ∈ wsX10_playRowInMind := by decide +kernel
  have hin10 : ∀ y ∈ wsX100, y ∈ wsX10_playRowInMind := (fun _ z => List.mem_cons_of_mem _ (List.mem_append_left _ (List.mem_append_left _ (List.mem_append_left _ (List.mem_append_left _ (List.mem_append_left _ (List.mem_append_left _ (List.mem_append_left _ (List.mem_append_left _ (List.mem_append_right _ z))))))))))
  refine lv_aload_n hx hb dX10_playRowInMind_0 rfl (lv_at hl 0 rfl) ?_
  refine cc_get (mo_main g) X G (x := q) rfl hin10 2 (by decide) hf23 (v := .ref (cc_ad g (10 + 20 * 1))) rfl dX10_playRowInMind_1 ?_
  refine lv_aload_n hx hb dX10_playRowInMind_4 rfl (lv_at hl 0 rfl) ?_
  refine cc_get (mo_main g) X G (x := q) rfl hin10 1 (by decide) hf19 (v := .ref (cc_ad g (10 + 20 * 0))) rfl dX10_playRowInMind_5 ?_
  obtain ⟨r1, hc1, h2⟩ := pp_ob_ex h
  clear h
  obtain ⟨x3, ex3, h4⟩ := pp_lj_ex h2
  clear h2
  refine cc_calv (q2 := x3) (cc_pgC q 1) ex3.symm (mo_crt g (c := 1) (by decide)) X G (x := q) rfl (ctX1_becomeLike l g pls q (k := 1) (by decide) (cc_gC q 1) (k2 := 0) (by decide) (by decide) (cc_gC q 0) rfl hc1) (cwV 1 hts gX10_playRowInMind_X1_becomeLike rfl rfl rfl (by decide +kernel) ⟨Nat.le_of_ble_eq_true rfl, Nat.le_of_ble_eq_true rfl⟩) (rest := []) rfl hl.1 rfl (Nat.le_of_ble_eq_true rfl) dX10_playRowInMind_8 (fun H locs G => ?_)
  refine lv_iconst (v := 0) hx hb dX10_playRowInMind_11 (by decide) ?_
  refine lv_istore_n (lv' := [(1, .int (0 : Int32)), (0, .ref (cc_ad g 0))]) hx hb dX10_playRowInMind_12 rfl hl (by decide) rfl (fun ls hl => ?_)
  refine pp_loop (I := fun (a5 : cc_S × Int32) => ∀ (H : Heap) (locs : List Loc) (ls : Array Slot), cc_H g A pls a5.1 s H locs → lv_has ls 2 [(0, .ref (cc_ad g 0)), (1, .int a5.2)] → W p l e (headSpec wsX10_playRowInMind rmX10_playRowInMind).room s m args below meth c H locs 0 0 Q (F0 m 13 ls [])) ?_ 200 _ h4 H locs ls G (lv_sub hl [1, 0] rfl)
  clear h4
  intro self5 ih5 a5 h5 H locs ls G hl
  refine lv_iload_n hx hb dX10_playRowInMind_13 rfl (lv_at hl 1 rfl) ?_
  refine lv_aload_n hx hb dX10_playRowInMind_14 rfl (lv_at hl 0 rfl) ?_
  refine cc_get (mo_main g) X G (x := a5.1) rfl hin10 7 (by decide) hf193 (v := .int (a5.1.1.1 7)) rfl dX10_playRowInMind_15 ?_
  refine lv_icmp_ge (tgt := 51) hx hb dX10_playRowInMind_18 (by decide) (fun c6 => ?_) (fun c6 => ?_)
  · have h7 := pp_t c6 h5
    clear h5
    refine lv_bipush (v := -9) hx hb dX10_playRowInMind_51 (by decide) ?_
    exact cc_iretW cc_id X hr hlk rfl G h7 hQ dX10_playRowInMind_53
  · have h8 := pp_f c6 h5
    clear h5
    refine lv_iload_n hx hb dX10_playRowInMind_21 rfl (lv_at hl 1 rfl) ?_
    refine lv_aload_n hx hb dX10_playRowInMind_22 rfl (lv_at hl 0 rfl) ?_
    refine cc_get (mo_main g) X G (x := a5.1) rfl hin10 6 (by decide) hf36 (v := .ref (cc_ad g 6)) rfl dX10_playRowInMind_23 ?_
    refine cc_ialen (ma_6 g) X G (x := a5.1) rfl dX10_playRowInMind_26 ?_
    refine lv_icmp_ge (tgt := 51) hx hb dX10_playRowInMind_27 (by decide) (fun c9 => ?_) (fun c9 => ?_)
    · have h10 := pp_t c9 h8
      clear h8
      refine lv_bipush (v := -9) hx hb dX10_playRowInMind_51 (by decide) ?_
      exact cc_iretW cc_id X hr hlk rfl G h10 hQ dX10_playRowInMind_53
    · have h11 := pp_f c9 h8
      clear h8
      refine lv_aload_n hx hb dX10_playRowInMind_30 rfl (lv_at hl 0 rfl) ?_
      refine lv_aload_n hx hb dX10_playRowInMind_31 rfl (lv_at hl 0 rfl) ?_
      refine cc_get (mo_main g) X G (x := a5.1) rfl hin10 6 (by decide) hf36 (v := .ref (cc_ad g 6)) rfl dX10_playRowInMind_32 ?_
      refine lv_iload_n hx hb dX10_playRowInMind_35 rfl (lv_at hl 1 rfl) ?_
      obtain ⟨hi12, h13⟩ := pp_ix_ex h11
      clear h11
      refine cc_iald (ma_6 g) X G (x := a5.1) hi12 dX10_playRowInMind_36 ?_
      obtain ⟨r14, hc14, h15⟩ := pp_ob_ex h13
      clear h13
      refine cc_cali (q2 := r14.2) rfl rfl (mo_main g) X G (x := a5.1) rfl (ctX10_throwInMind l g pls a5.1 _ hc14) (cwV 1 hts gX10_playRowInMind_X10_throwInMind rfl rfl rfl (by decide +kernel) ⟨Nat.le_of_ble_eq_true rfl, Nat.le_of_ble_eq_true rfl⟩) (rest := []) rfl hl.1 rfl (Nat.le_of_ble_eq_true rfl) dX10_playRowInMind_37 (fun H locs G => ?_)
      refine lv_if_ne (tgt := 45) hx hb dX10_playRowInMind_40 (by decide) (fun c16 => ?_) (fun c16 => ?_)
      · have h17 := pp_f c16 h15
        clear h15
        obtain ⟨x18, ex18, h19⟩ := pp_lj_ex h17
        clear h17
        refine lv_iinc (v := x18) (lv' := [(1, .int x18), (0, .ref (cc_ad g 0))]) hx hb dX10_playRowInMind_45 hl (k := 1) rfl (by rw [ex18]; rfl) (by decide) rfl (fun ls hl => ?_)
        refine lv_goto (tgt := 13) hx hb dX10_playRowInMind_48 (by decide) ?_
        exact ih5 _ h19 H locs ls G (lv_sub hl [1, 0] rfl)
      · have h20 := pp_t c16 h15
        clear h15
        refine lv_iload_n hx hb dX10_playRowInMind_43 rfl (lv_at hl 1 rfl) ?_
        exact cc_iretW cc_id X hr hlk rfl G h20 hQ dX10_playRowInMind_44
noncomputable def C_judge (q : cc_S) : Option (Int32 × cc_S) := pp_ob (C_playRowInMind q) (fun r1 => some (r1.1, r1.2))
abbrev rmX10_judge : Room := { frames := 6, cells := 0, slots := 0, locals := 144 }
set_option maxHeartbeats 4000000 in
set_option maxRecDepth 100000 in
theorem ctX10_judge (l : Launch) (g : cc_G) (pls : va_W) (q : cc_S) {res : (Int32 × cc_S)} (h : C_judge q = some res) : cc_Mi l yX10_judge wsX10_judge rmX10_judge g pls [.ref (cc_ad g 0)] q res.1 res.2 := by
  intro sz A hA
  unfold C_judge at h
  refine cc_ofW hA (own := RX10) (by decide) rfl rfl (Nat.le_of_ble_eq_true rfl) ?_
  intro p e s m args below meth c ls X hr hlk G hl Q hQ
  have hx := X.1.1
  have hb := X.1.2.1
  have hown := X.1.2.2.2.1
  have hts := X.1.2.2.2.2
  refine (fun (key : ∀ (H : Heap) (locs : List Loc), cc_H g A pls q s H locs → W p l e (headSpec wsX10_judge rmX10_judge).room s m args below meth c H locs 0 0 Q (F0 m 0 ls [])) => key _ _ G) ?_
  clear G
  intro H locs G
  have hl : lv_has ls 1 [(0, .ref (cc_ad g 0))] := hl
  refine lv_aload_n hx hb dX10_judge_0 rfl (lv_at hl 0 rfl) ?_
  obtain ⟨r1, hc1, h2⟩ := pp_ob_ex h
  clear h
  refine cc_cali (q2 := r1.2) rfl rfl (mo_main g) X G (x := q) rfl (ctX10_playRowInMind l g pls q hc1) (cwV 0 hts gX10_judge_X10_playRowInMind rfl rfl rfl (by decide +kernel) ⟨Nat.le_of_ble_eq_true rfl, Nat.le_of_ble_eq_true rfl⟩) (rest := []) rfl hl.1 rfl (Nat.le_of_ble_eq_true rfl) dX10_judge_1 (fun H locs G => ?_)
  exact cc_iretW cc_id X hr hlk rfl G h2 hQ dX10_judge_4
noncomputable def C_ends (q : cc_S) : Option (Int32 × cc_S) := pp_ob (C_playRowInMind q) (fun r1 => pp_ob (K_inBits (cc_gC r1.2 1)) (fun r3 => some (r3, r1.2)))
abbrev rmX10_ends : Room := { frames := 6, cells := 0, slots := 0, locals := 144 }
set_option maxHeartbeats 4000000 in
set_option maxRecDepth 100000 in
theorem ctX10_ends (l : Launch) (g : cc_G) (pls : va_W) (q : cc_S) {res : (Int32 × cc_S)} (h : C_ends q = some res) : cc_Mi l yX10_ends wsX10_ends rmX10_ends g pls [.ref (cc_ad g 0)] q res.1 res.2 := by
  intro sz A hA
  unfold C_ends at h
  refine cc_ofW hA (own := RX10) (by decide) rfl rfl (Nat.le_of_ble_eq_true rfl) ?_
  intro p e s m args below meth c ls X hr hlk G hl Q hQ
  have hx := X.1.1
  have hb := X.1.2.1
  have hown := X.1.2.2.2.1
  have hts := X.1.2.2.2.2
  refine (fun (key : ∀ (H : Heap) (locs : List Loc), cc_H g A pls q s H locs → W p l e (headSpec wsX10_ends rmX10_ends).room s m args below meth c H locs 0 0 Q (F0 m 0 ls [])) => key _ _ G) ?_
  clear G
  intro H locs G
  have hl : lv_has ls 1 [(0, .ref (cc_ad g 0))] := hl
  have hf23 : Cond.fieldLink RX10 23 (TX10 2).1 (TX10 2).2.1 (TX10 2).2.2.1 ∈ wsX10_ends := by decide +kernel
  have hin10 : ∀ y ∈ wsX100, y ∈ wsX10_ends := (fun _ z => List.mem_cons_of_mem _ (List.mem_append_left _ (List.mem_append_left _ (List.mem_append_left _ (List.mem_append_left _ (List.mem_append_left _ (List.mem_append_left _ (List.mem_append_left _ (List.mem_append_left _ (List.mem_append_right _ z))))))))))
  refine lv_aload_n hx hb dX10_ends_0 rfl (lv_at hl 0 rfl) ?_
  obtain ⟨r1, hc1, h2⟩ := pp_ob_ex h
  clear h
  refine cc_cali (q2 := r1.2) rfl rfl (mo_main g) X G (x := q) rfl (ctX10_playRowInMind l g pls q hc1) (cwV 0 hts gX10_ends_X10_playRowInMind rfl rfl rfl (by decide +kernel) ⟨Nat.le_of_ble_eq_true rfl, Nat.le_of_ble_eq_true rfl⟩) (rest := []) rfl hl.1 rfl (Nat.le_of_ble_eq_true rfl) dX10_ends_1 (fun H locs G => ?_)
  refine lv_pop hx hb dX10_ends_4 rfl ?_
  refine lv_aload_n hx hb dX10_ends_5 rfl (lv_at hl 0 rfl) ?_
  refine cc_get (mo_main g) X G (x := r1.2) rfl hin10 2 (by decide) hf23 (v := .ref (cc_ad g (10 + 20 * 1))) rfl dX10_ends_6 ?_
  obtain ⟨r3, hc3, h4⟩ := pp_ob_ex h2
  clear h2
  refine cc_cali (q2 := r1.2) (cc_pgC r1.2 1) (cc_pgC r1.2 1) (mo_crt g (c := 1) (by decide)) X G (x := r1.2) rfl (ctX1_inBits l g pls r1.2 (k := 1) (by decide) (cc_gC r1.2 1) hc3) (cwV 0 hts gX10_ends_X1_inBits rfl rfl rfl (by decide +kernel) ⟨Nat.le_of_ble_eq_true rfl, Nat.le_of_ble_eq_true rfl⟩) (rest := []) rfl hl.1 rfl (Nat.le_of_ble_eq_true rfl) dX10_ends_9 (fun H locs G => ?_)
  exact cc_iretW cc_id X hr hlk rfl G h4 hQ dX10_ends_12
noncomputable def C_lots (q : cc_S) (v1 : Int32) (v2 : Int32) : Option (Int32 × cc_S) := (if (1 : Int32) ≤ v1 then (if v1 ≤ (30 : Int32) then (if ((cc_gC q 0).1.1 1) = (0 : Int32) then pp_ob (C_refused q (-3 : Int32)) (fun r24 => some (r24.1, r24.2)) else pp_ob (K_becomeLike (cc_gC q 1) (cc_gC q 0)) (fun r7 => pp_lj (cc_pC q 1 r7 : cc_S) (fun x9 => pp_lj (cc_mi x9 9 v2 : cc_S) (fun x11 => pp_it (fun (self13 : cc_S × Int32 → Option (Int32 × cc_S)) (a13 : cc_S × Int32) => (if v1 ≤ a13.2 then pp_ob (K_inBits (cc_gC a13.1 1)) (fun r16 => some (r16, a13.1)) else pp_ob (C_throwByLot a13.1) (fun r19 => pp_lj (a13.2 + 1 : Int32) (fun x21 => self13 (r19, x21))))) 200 (x11, (0 : Int32)))))) else pp_ob (C_refused q (-6 : Int32)) (fun r27 => some (r27.1, r27.2))) else pp_ob (C_refused q (-4 : Int32)) (fun r30 => some (r30.1, r30.2)))
abbrev rmX10_lots : Room := { frames := 6, cells := 0, slots := 0, locals := 134 }
set_option maxHeartbeats 4000000 in
set_option maxRecDepth 100000 in
theorem ctX10_lots (l : Launch) (g : cc_G) (pls : va_W) (q : cc_S) (v1 : Int32) (v2 : Int32) {res : (Int32 × cc_S)} (h : C_lots q v1 v2 = some res) : cc_Mi l yX10_lots wsX10_lots rmX10_lots g pls [.ref (cc_ad g 0), .int v1, .int v2] q res.1 res.2 := by
  intro sz A hA
  unfold C_lots at h
  refine cc_ofW hA (own := RX10) (by decide) rfl rfl (Nat.le_of_ble_eq_true rfl) ?_
  intro p e s m args below meth c ls X hr hlk G hl Q hQ
  have hx := X.1.1
  have hb := X.1.2.1
  have hown := X.1.2.2.2.1
  have hts := X.1.2.2.2.2
  refine (fun (key : ∀ (H : Heap) (locs : List Loc), cc_H g A pls q s H locs → W p l e (headSpec wsX10_lots rmX10_lots).room s m args below meth c H locs 0 0 Q (F0 m 0 ls [])) => key _ _ G) ?_
  clear G
  intro H locs G
  have hl : lv_has ls 4 [(0, .ref (cc_ad g 0)), (1, .int v1), (2, .int v2)] := hl
  have hf19 : Cond.fieldLink RX10 19 (TX10 1).1 (TX10 1).2.1 (TX10 1).2.2.1 ∈ wsX10_lots := by decide +kernel
  have hf23 : Cond.fieldLink RX10 23 (TX10 2).1 (TX10 2).2.1 (TX10 2).2.2.1 ∈ wsX10_lots := by decide +kernel
  have hf217 : Cond.fieldLink RX10 217 (TX10 9).1 (TX10 9).2.1 (TX10 9).2.2.1 ∈ wsX10_lots := by decide +kernel
  have hin1 : ∀ y ∈ wsX10, y ∈ wsX10_lots := (fun _ z => List.mem_cons_of_mem _ (List.mem_append_left _ (List.mem_append_left _ (List.mem_append_left _ (List.mem_append_left _ (List.mem_append_left _ (List.mem_append_left _ (List.mem_append_left _ (List.mem_append_right _ z)))))))))
  have hin10 : ∀ y ∈ wsX100, y ∈ wsX10_lots := (fun _ z => List.mem_cons_of_mem _ (List.mem_append_left _ (List.mem_append_left _ (List.mem_append_left _ (List.mem_append_left _ (List.mem_append_left _ (List.mem_append_left _ (List.mem_append_left _ (List.mem_append_left _ (List.mem_append_right _ z))))))))))
  refine lv_iload_n hx hb dX10_lots_0 rfl (lv_at hl 1 rfl) ?_
  refine lv_iconst (v := 1) hx hb dX10_lots_1 (by decide) ?_
  refine lv_icmp_ge (tgt := 12) hx hb dX10_lots_2 (by decide) (fun c1 => ?_) (fun c1 => ?_)
  · have h2 := pp_t c1 h
    clear h
    refine lv_iload_n hx hb dX10_lots_12 rfl (lv_at hl 1 rfl) ?_
    refine lv_bipush (v := 30) hx hb dX10_lots_13 (by decide) ?_
    refine lv_icmp_le (tgt := 25) hx hb dX10_lots_15 (by decide) (fun c3 => ?_) (fun c3 => ?_)
    · have h4 := pp_t c3 h2
      clear h2
      refine lv_aload_n hx hb dX10_lots_25 rfl (lv_at hl 0 rfl) ?_
      refine cc_get (mo_main g) X G (x := q) rfl hin10 1 (by decide) hf19 (v := .ref (cc_ad g (10 + 20 * 0))) rfl dX10_lots_26 ?_
      refine cc_getN (mo_crt g (c := 0) (by decide)) X G (x := q) rfl hin1 1 (by decide) (by decide +kernel) (v := .int ((cc_gC q 0).1.1 1)) rfl dX10_lots_29 ?_
      refine lv_if_ne (tgt := 42) hx hb dX10_lots_32 (by decide) (fun c5 => ?_) (fun c5 => ?_)
      · have h6 := pp_f c5 h4
        clear h4
        refine lv_aload_n hx hb dX10_lots_42 rfl (lv_at hl 0 rfl) ?_
        refine cc_get (mo_main g) X G (x := q) rfl hin10 2 (by decide) hf23 (v := .ref (cc_ad g (10 + 20 * 1))) rfl dX10_lots_43 ?_
        refine lv_aload_n hx hb dX10_lots_46 rfl (lv_at hl 0 rfl) ?_
        refine cc_get (mo_main g) X G (x := q) rfl hin10 1 (by decide) hf19 (v := .ref (cc_ad g (10 + 20 * 0))) rfl dX10_lots_47 ?_
        obtain ⟨r7, hc7, h8⟩ := pp_ob_ex h6
        clear h6
        obtain ⟨x9, ex9, h10⟩ := pp_lj_ex h8
        clear h8
        refine cc_calv (q2 := x9) (cc_pgC q 1) ex9.symm (mo_crt g (c := 1) (by decide)) X G (x := q) rfl (ctX1_becomeLike l g pls q (k := 1) (by decide) (cc_gC q 1) (k2 := 0) (by decide) (by decide) (cc_gC q 0) rfl hc7) (cwV 1 hts gX10_lots_X1_becomeLike rfl rfl rfl (by decide +kernel) ⟨Nat.le_of_ble_eq_true rfl, Nat.le_of_ble_eq_true rfl⟩) (rest := []) rfl hl.1 rfl (Nat.le_of_ble_eq_true rfl) dX10_lots_50 (fun H locs G => ?_)
        refine lv_aload_n hx hb dX10_lots_53 rfl (lv_at hl 0 rfl) ?_
        refine lv_iload_n hx hb dX10_lots_54 rfl (lv_at hl 2 rfl) ?_
        obtain ⟨x11, ex11, h12⟩ := pp_lj_ex h10
        clear h10
        refine cc_put (mi_9 g) X G (x := x9) rfl hin10 tyX10 tyX10_ok nmX10 (by decide) hf217 rfl (ty := .int) (by decide +kernel) rfl rfl ex11 dX10_lots_55 (fun H locs G => ?_)
        refine lv_iconst (v := 0) hx hb dX10_lots_58 (by decide) ?_
        refine lv_istore_n (lv' := [(3, .int (0 : Int32)), (0, .ref (cc_ad g 0)), (1, .int v1), (2, .int v2)]) hx hb dX10_lots_59 rfl hl (by decide) rfl (fun ls hl => ?_)
        refine pp_loop (I := fun (a13 : cc_S × Int32) => ∀ (H : Heap) (locs : List Loc) (ls : Array Slot), cc_H g A pls a13.1 s H locs → lv_has ls 4 [(0, .ref (cc_ad g 0)), (1, .int v1), (3, .int a13.2)] → W p l e (headSpec wsX10_lots rmX10_lots).room s m args below meth c H locs 0 0 Q (F0 m 60 ls [])) ?_ 200 _ h12 H locs ls G (lv_sub hl [1, 2, 0] rfl)
        clear h12
        intro self13 ih13 a13 h13 H locs ls G hl
        refine lv_iload_n hx hb dX10_lots_60 rfl (lv_at hl 2 rfl) ?_
        refine lv_iload_n hx hb dX10_lots_61 rfl (lv_at hl 1 rfl) ?_
        refine lv_icmp_ge (tgt := 75) hx hb dX10_lots_62 (by decide) (fun c14 => ?_) (fun c14 => ?_)
        · have h15 := pp_t c14 h13
          clear h13
          refine lv_aload_n hx hb dX10_lots_75 rfl (lv_at hl 0 rfl) ?_
          refine cc_get (mo_main g) X G (x := a13.1) rfl hin10 2 (by decide) hf23 (v := .ref (cc_ad g (10 + 20 * 1))) rfl dX10_lots_76 ?_
          obtain ⟨r16, hc16, h17⟩ := pp_ob_ex h15
          clear h15
          refine cc_cali (q2 := a13.1) (cc_pgC a13.1 1) (cc_pgC a13.1 1) (mo_crt g (c := 1) (by decide)) X G (x := a13.1) rfl (ctX1_inBits l g pls a13.1 (k := 1) (by decide) (cc_gC a13.1 1) hc16) (cwV 0 hts gX10_lots_X1_inBits rfl rfl rfl (by decide +kernel) ⟨Nat.le_of_ble_eq_true rfl, Nat.le_of_ble_eq_true rfl⟩) (rest := []) rfl hl.1 rfl (Nat.le_of_ble_eq_true rfl) dX10_lots_79 (fun H locs G => ?_)
          exact cc_iretW cc_id X hr hlk rfl G h17 hQ dX10_lots_82
        · have h18 := pp_f c14 h13
          clear h13
          refine lv_aload_n hx hb dX10_lots_65 rfl (lv_at hl 0 rfl) ?_
          obtain ⟨r19, hc19, h20⟩ := pp_ob_ex h18
          clear h18
          refine cc_calv (q2 := r19) rfl rfl (mo_main g) X G (x := a13.1) rfl (ctX10_throwByLot l g pls a13.1 hc19) (cwV 0 hts gX10_lots_X10_throwByLot rfl rfl rfl (by decide +kernel) ⟨Nat.le_of_ble_eq_true rfl, Nat.le_of_ble_eq_true rfl⟩) (rest := []) rfl hl.1 rfl (Nat.le_of_ble_eq_true rfl) dX10_lots_66 (fun H locs G => ?_)
          obtain ⟨x21, ex21, h22⟩ := pp_lj_ex h20
          clear h20
          refine lv_iinc (v := x21) (lv' := [(3, .int x21), (0, .ref (cc_ad g 0)), (1, .int v1)]) hx hb dX10_lots_69 hl (k := 2) rfl (by rw [ex21]; rfl) (by decide) rfl (fun ls hl => ?_)
          refine lv_goto (tgt := 60) hx hb dX10_lots_72 (by decide) ?_
          exact ih13 _ h22 H locs ls G (lv_sub hl [1, 2, 0] rfl)
      · have h23 := pp_t c5 h4
        clear h4
        refine lv_aload_n hx hb dX10_lots_35 rfl (lv_at hl 0 rfl) ?_
        refine lv_bipush (v := -3) hx hb dX10_lots_36 (by decide) ?_
        obtain ⟨r24, hc24, h25⟩ := pp_ob_ex h23
        clear h23
        refine cc_cali (q2 := r24.2) rfl rfl (mo_main g) X G (x := q) rfl (ctX10_refused l g pls q _ hc24) (cwV 1 hts gX10_lots_X10_refused rfl rfl rfl (by decide +kernel) ⟨Nat.le_of_ble_eq_true rfl, Nat.le_of_ble_eq_true rfl⟩) (rest := []) rfl hl.1 rfl (Nat.le_of_ble_eq_true rfl) dX10_lots_38 (fun H locs G => ?_)
        exact cc_iretW cc_id X hr hlk rfl G h25 hQ dX10_lots_41
    · have h26 := pp_f c3 h2
      clear h2
      refine lv_aload_n hx hb dX10_lots_18 rfl (lv_at hl 0 rfl) ?_
      refine lv_bipush (v := -6) hx hb dX10_lots_19 (by decide) ?_
      obtain ⟨r27, hc27, h28⟩ := pp_ob_ex h26
      clear h26
      refine cc_cali (q2 := r27.2) rfl rfl (mo_main g) X G (x := q) rfl (ctX10_refused l g pls q _ hc27) (cwV 1 hts gX10_lots_X10_refused rfl rfl rfl (by decide +kernel) ⟨Nat.le_of_ble_eq_true rfl, Nat.le_of_ble_eq_true rfl⟩) (rest := []) rfl hl.1 rfl (Nat.le_of_ble_eq_true rfl) dX10_lots_21 (fun H locs G => ?_)
      exact cc_iretW cc_id X hr hlk rfl G h28 hQ dX10_lots_24
  · have h29 := pp_f c1 h
    clear h
    refine lv_aload_n hx hb dX10_lots_5 rfl (lv_at hl 0 rfl) ?_
    refine lv_bipush (v := -4) hx hb dX10_lots_6 (by decide) ?_
    obtain ⟨r30, hc30, h31⟩ := pp_ob_ex h29
    clear h29
    refine cc_cali (q2 := r30.2) rfl rfl (mo_main g) X G (x := q) rfl (ctX10_refused l g pls q _ hc30) (cwV 1 hts gX10_lots_X10_refused rfl rfl rfl (by decide +kernel) ⟨Nat.le_of_ble_eq_true rfl, Nat.le_of_ble_eq_true rfl⟩) (rest := []) rfl hl.1 rfl (Nat.le_of_ble_eq_true rfl) dX10_lots_8 (fun H locs G => ?_)
    exact cc_iretW cc_id X hr hlk rfl G h31 hQ dX10_lots_11
noncomputable def C_image (q : cc_S) : Option (Int32 × cc_S) := pp_ob (K_becomeLike (cc_gC q 2) (cc_gC q 0)) (fun r1 => pp_lj (cc_pC q 2 r1 : cc_S) (fun x3 => pp_lj (cc_mi x3 4 (1 : Int32) : cc_S) (fun x5 => some (((cc_gC x5 0).1.1 7), x5))))
abbrev rmX10_image : Room := { frames := 3, cells := 0, slots := 0, locals := 123 }
set_option maxHeartbeats 4000000 in
set_option maxRecDepth 100000 in
theorem ctX10_image (l : Launch) (g : cc_G) (pls : va_W) (q : cc_S) {res : (Int32 × cc_S)} (h : C_image q = some res) : cc_Mi l yX10_image wsX10_image rmX10_image g pls [.ref (cc_ad g 0)] q res.1 res.2 := by
  intro sz A hA
  unfold C_image at h
  refine cc_ofW hA (own := RX10) (by decide) rfl rfl (Nat.le_of_ble_eq_true rfl) ?_
  intro p e s m args below meth c ls X hr hlk G hl Q hQ
  have hx := X.1.1
  have hb := X.1.2.1
  have hown := X.1.2.2.2.1
  have hts := X.1.2.2.2.2
  refine (fun (key : ∀ (H : Heap) (locs : List Loc), cc_H g A pls q s H locs → W p l e (headSpec wsX10_image rmX10_image).room s m args below meth c H locs 0 0 Q (F0 m 0 ls [])) => key _ _ G) ?_
  clear G
  intro H locs G
  have hl : lv_has ls 1 [(0, .ref (cc_ad g 0))] := hl
  have hf19 : Cond.fieldLink RX10 19 (TX10 1).1 (TX10 1).2.1 (TX10 1).2.2.1 ∈ wsX10_image := by decide +kernel
  have hf26 : Cond.fieldLink RX10 26 (TX10 3).1 (TX10 3).2.1 (TX10 3).2.2.1 ∈ wsX10_image := by decide +kernel
  have hf223 : Cond.fieldLink RX10 223 (TX10 4).1 (TX10 4).2.1 (TX10 4).2.2.1 ∈ wsX10_image := by decide +kernel
  have hin1 : ∀ y ∈ wsX10, y ∈ wsX10_image := (fun _ z => List.mem_cons_of_mem _ (List.mem_append_left _ (List.mem_append_right _ z)))
  have hin10 : ∀ y ∈ wsX100, y ∈ wsX10_image := (fun _ z => List.mem_cons_of_mem _ (List.mem_append_left _ (List.mem_append_left _ (List.mem_append_right _ z))))
  refine lv_aload_n hx hb dX10_image_0 rfl (lv_at hl 0 rfl) ?_
  refine cc_get (mo_main g) X G (x := q) rfl hin10 3 (by decide) hf26 (v := .ref (cc_ad g (10 + 20 * 2))) rfl dX10_image_1 ?_
  refine lv_aload_n hx hb dX10_image_4 rfl (lv_at hl 0 rfl) ?_
  refine cc_get (mo_main g) X G (x := q) rfl hin10 1 (by decide) hf19 (v := .ref (cc_ad g (10 + 20 * 0))) rfl dX10_image_5 ?_
  obtain ⟨r1, hc1, h2⟩ := pp_ob_ex h
  clear h
  obtain ⟨x3, ex3, h4⟩ := pp_lj_ex h2
  clear h2
  refine cc_calv (q2 := x3) (cc_pgC q 2) ex3.symm (mo_crt g (c := 2) (by decide)) X G (x := q) rfl (ctX1_becomeLike l g pls q (k := 2) (by decide) (cc_gC q 2) (k2 := 0) (by decide) (by decide) (cc_gC q 0) rfl hc1) (cwV 1 hts gX10_image_X1_becomeLike rfl rfl rfl (by decide +kernel) ⟨Nat.le_of_ble_eq_true rfl, Nat.le_of_ble_eq_true rfl⟩) (rest := []) rfl hl.1 rfl (Nat.le_of_ble_eq_true rfl) dX10_image_8 (fun H locs G => ?_)
  refine lv_aload_n hx hb dX10_image_11 rfl (lv_at hl 0 rfl) ?_
  refine lv_iconst (v := 1) hx hb dX10_image_12 (by decide) ?_
  obtain ⟨x5, ex5, h6⟩ := pp_lj_ex h4
  clear h4
  refine cc_put (mi_4 g) X G (x := x3) rfl hin10 tyX10 tyX10_ok nmX10 (by decide) hf223 rfl (ty := .boolean) (by decide +kernel) rfl rfl ex5 dX10_image_13 (fun H locs G => ?_)
  refine lv_aload_n hx hb dX10_image_16 rfl (lv_at hl 0 rfl) ?_
  refine cc_get (mo_main g) X G (x := x5) rfl hin10 1 (by decide) hf19 (v := .ref (cc_ad g (10 + 20 * 0))) rfl dX10_image_17 ?_
  refine cc_getN (mo_crt g (c := 0) (by decide)) X G (x := x5) rfl hin1 7 (by decide) (by decide +kernel) (v := .int ((cc_gC x5 0).1.1 7)) rfl dX10_image_20 ?_
  exact cc_iretW cc_id X hr hlk rfl G h6 hQ dX10_image_23
noncomputable def C_on (q : cc_S) : Option (Int32 × cc_S) := (if (q.1.1 4) = (0 : Int32) then pp_ob (C_refused q (-3 : Int32)) (fun r8 => some (r8.1, r8.2)) else pp_ob (K_becomeLike (cc_gC q 0) (cc_gC q 2)) (fun r3 => pp_lj (cc_pC q 0 r3 : cc_S) (fun x5 => some (((cc_gC x5 0).1.1 7), x5))))
abbrev rmX10_on : Room := { frames := 3, cells := 0, slots := 0, locals := 123 }
set_option maxHeartbeats 4000000 in
set_option maxRecDepth 100000 in
theorem ctX10_on (l : Launch) (g : cc_G) (pls : va_W) (q : cc_S) {res : (Int32 × cc_S)} (h : C_on q = some res) : cc_Mi l yX10_on wsX10_on rmX10_on g pls [.ref (cc_ad g 0)] q res.1 res.2 := by
  intro sz A hA
  unfold C_on at h
  refine cc_ofW hA (own := RX10) (by decide) rfl rfl (Nat.le_of_ble_eq_true rfl) ?_
  intro p e s m args below meth c ls X hr hlk G hl Q hQ
  have hx := X.1.1
  have hb := X.1.2.1
  have hown := X.1.2.2.2.1
  have hts := X.1.2.2.2.2
  refine (fun (key : ∀ (H : Heap) (locs : List Loc), cc_H g A pls q s H locs → W p l e (headSpec wsX10_on rmX10_on).room s m args below meth c H locs 0 0 Q (F0 m 0 ls [])) => key _ _ G) ?_
  clear G
  intro H locs G
  have hl : lv_has ls 1 [(0, .ref (cc_ad g 0))] := hl
  have hf19 : Cond.fieldLink RX10 19 (TX10 1).1 (TX10 1).2.1 (TX10 1).2.2.1 ∈ wsX10_on := by decide +kernel
  have hf26 : Cond.fieldLink RX10 26 (TX10 3).1 (TX10 3).2.1 (TX10 3).2.2.1 ∈ wsX10_on := by decide +kernel
  have hf223 : Cond.fieldLink RX10 223 (TX10 4).1 (TX10 4).2.1 (TX10 4).2.2.1 ∈ wsX10_on := by decide +kernel
  have hin1 : ∀ y ∈ wsX10, y ∈ wsX10_on := (fun _ z => List.mem_cons_of_mem _ (List.mem_append_left _ (List.mem_append_right _ z)))
  have hin10 : ∀ y ∈ wsX100, y ∈ wsX10_on := (fun _ z => List.mem_cons_of_mem _ (List.mem_append_left _ (List.mem_append_left _ (List.mem_append_right _ z))))
  refine lv_aload_n hx hb dX10_on_0 rfl (lv_at hl 0 rfl) ?_
  refine cc_get (mo_main g) X G (x := q) rfl hin10 4 (by decide) hf223 (v := .int (q.1.1 4)) rfl dX10_on_1 ?_
  refine lv_if_ne (tgt := 14) hx hb dX10_on_4 (by decide) (fun c1 => ?_) (fun c1 => ?_)
  · have h2 := pp_f c1 h
    clear h
    refine lv_aload_n hx hb dX10_on_14 rfl (lv_at hl 0 rfl) ?_
    refine cc_get (mo_main g) X G (x := q) rfl hin10 1 (by decide) hf19 (v := .ref (cc_ad g (10 + 20 * 0))) rfl dX10_on_15 ?_
    refine lv_aload_n hx hb dX10_on_18 rfl (lv_at hl 0 rfl) ?_
    refine cc_get (mo_main g) X G (x := q) rfl hin10 3 (by decide) hf26 (v := .ref (cc_ad g (10 + 20 * 2))) rfl dX10_on_19 ?_
    obtain ⟨r3, hc3, h4⟩ := pp_ob_ex h2
    clear h2
    obtain ⟨x5, ex5, h6⟩ := pp_lj_ex h4
    clear h4
    refine cc_calv (q2 := x5) (cc_pgC q 0) ex5.symm (mo_crt g (c := 0) (by decide)) X G (x := q) rfl (ctX1_becomeLike l g pls q (k := 0) (by decide) (cc_gC q 0) (k2 := 2) (by decide) (by decide) (cc_gC q 2) rfl hc3) (cwV 1 hts gX10_on_X1_becomeLike rfl rfl rfl (by decide +kernel) ⟨Nat.le_of_ble_eq_true rfl, Nat.le_of_ble_eq_true rfl⟩) (rest := []) rfl hl.1 rfl (Nat.le_of_ble_eq_true rfl) dX10_on_22 (fun H locs G => ?_)
    refine lv_aload_n hx hb dX10_on_25 rfl (lv_at hl 0 rfl) ?_
    refine cc_get (mo_main g) X G (x := x5) rfl hin10 1 (by decide) hf19 (v := .ref (cc_ad g (10 + 20 * 0))) rfl dX10_on_26 ?_
    refine cc_getN (mo_crt g (c := 0) (by decide)) X G (x := x5) rfl hin1 7 (by decide) (by decide +kernel) (v := .int ((cc_gC x5 0).1.1 7)) rfl dX10_on_29 ?_
    exact cc_iretW cc_id X hr hlk rfl G h6 hQ dX10_on_32
  · have h7 := pp_t c1 h
    clear h
    refine lv_aload_n hx hb dX10_on_7 rfl (lv_at hl 0 rfl) ?_
    refine lv_bipush (v := -3) hx hb dX10_on_8 (by decide) ?_
    obtain ⟨r8, hc8, h9⟩ := pp_ob_ex h7
    clear h7
    refine cc_cali (q2 := r8.2) rfl rfl (mo_main g) X G (x := q) rfl (ctX10_refused l g pls q _ hc8) (cwV 1 hts gX10_on_X10_refused rfl rfl rfl (by decide +kernel) ⟨Nat.le_of_ble_eq_true rfl, Nat.le_of_ble_eq_true rfl⟩) (rest := []) rfl hl.1 rfl (Nat.le_of_ble_eq_true rfl) dX10_on_10 (fun H locs G => ?_)
    exact cc_iretW cc_id X hr hlk rfl G h9 hQ dX10_on_13
