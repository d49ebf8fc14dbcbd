noncomputable def T_tellStatement (t : rr_S) (x : cc_CT) (v1 : Int32) : Option (Int32 × cc_CT) :=
  pp_ob (T_digitAt t (v1 + (1 : Int32))) (fun r1 => pp_ob (T_letterAt t v1) (fun r2 =>
    if r2 = (98 : Int32) then pp_ob (T_digitAt t (v1 + (2 : Int32))) (fun r3 => pp_ob (K_give x r1 r3) (fun r4 => pp_bz r4.1 (some (r4.1, r4.2))))
    else if r2 = (103 : Int32) then pp_ob (T_digitAt t (v1 + (2 : Int32))) (fun r3 => pp_ob (K_lay x r1 r3) (fun r4 => pp_bz r4.1 (some (r4.1, r4.2))))
    else if r2 = (111 : Int32) then pp_ob (K_goOut x r1) (fun r4 => pp_bz r4.1 (some (r4.1, r4.2)))
    else if r2 = (112 : Int32) then pp_ob (T_kindAt t (v1 + (2 : Int32))) (fun r3 => pp_ob (T_digitAt t (v1 + (3 : Int32))) (fun r5 => pp_ob (T_digitAt t (v1 + (4 : Int32))) (fun r6 => pp_ob (K_add x (np_ci r3, cn_f r3 r1 r5 r6)) (fun r4 => pp_bz r4.1 (some (r4.1, r4.2))))))
    else some ((0 : Int32), x)))
noncomputable def T_tellTo (t : rr_S) (x : cc_CT) : Option (Int32 × cc_CT) :=
  pp_it (fun (self : cc_CT × Int32 × Int32 × Int32 → Option (Int32 × cc_CT)) (a : cc_CT × Int32 × Int32 × Int32) =>
    if (t.1 1) ≤ a.2.2.2 then some (a.2.1, a.1)
    else pp_ob (T_letterAt t a.2.2.2) (fun r1 => if r1 = (59 : Int32) then pp_ob (T_tellStatement t a.1 a.2.2.1) (fun r2 => if r2.1 = (0 : Int32) then some ((-2000 : Int32) - a.2.2.1, r2.2) else self (r2.2, a.2.1 + 1, a.2.2.2 + (1 : Int32), a.2.2.2 + 1)) else self (a.1, a.2.1, a.2.2.1, a.2.2.2 + 1))) 200 (x, (0 : Int32), (0 : Int32), (0 : Int32))
theorem tc_eq {q : cc_S} {k : Nat} {x : cc_CT} {t : rr_S} (ht : t = cc_gT q) : cc_pT (cc_pC q k x) t = cc_pC q k x := by rw [ht]; rfl
theorem tc_ob {g : cc_G} {q : cc_S} {k : Nat} {t : rr_S} (ht : t = cc_gT q) : cc_Ob g (cc_pC q k) 1 7 (fun _ => cc_tF g t) := by rw [ht]; exact ⟨3, fun _ _ _ => rfl⟩
abbrev rmX7_tellStatement : Room := { frames := 6, cells := 1, slots := 4, locals := 120 }
abbrev rmX7_tellTo : Room := { frames := 7, cells := 200, slots := 800, locals := 150 }
abbrev rmX10_hall : Room := { frames := 8, cells := 200, slots := 800, locals := 180 }
set_option maxHeartbeats 4000000 in
set_option maxRecDepth 100000 in
theorem ctX7_tellStatement (l : Launch) (g : cc_G) (pls : va_W) (q : cc_S) {k : Nat} (hk : k < 3) (t : rr_S) (ht : t = cc_gT q) (x : cc_CT) (v1 : Int32) {res : Int32 × cc_CT} (h : T_tellStatement t x v1 = some res) : cc_Ni l yX7_tellStatement wsX7_tellStatement rmX7_tellStatement g pls [.ref (cc_ad g 1), .int v1, .ref (cc_ad g (10 + 20 * k))] (cc_pC q k x) res.1 (cc_pC q k res.2) 1 4 := by
  intro sz A hA
  unfold T_tellStatement at h
  refine cc_ofWN hA (own := RX7) (by decide) rfl rfl (Nat.le_of_ble_eq_true rfl) ?_
  intro p e s m args below meth c ls X hr hlk G hl Q hQ
  have hx := X.1.1
  have hb := X.1.2.1
  have hown := X.1.2.2.2.1
  have hts := X.1.2.2.2.2
  refine (fun (key : ∀ (H : Heap) (locs : List Loc), cc_H g A pls (cc_pC q k x) s H locs → W p l e (headSpec wsX7_tellStatement rmX7_tellStatement).room s m args below meth c H locs 0 0 Q (F0 m 0 ls [])) => key _ _ G) ?_
  clear G
  intro H locs G
  have hl : lv_has ls 4 [(0, .ref (cc_ad g 1)), (1, .int v1), (2, .ref (cc_ad g (10 + 20 * k)))] := hl
  have hfin : ∀ z ∈ pls, z ∈ pls := fun _ z => z
  refine lv_aload_n hx hb dX7_tellStatement_0 rfl (lv_at hl 0 rfl) ?_
  refine lv_iload_n hx hb dX7_tellStatement_1 rfl (lv_at hl 1 rfl) ?_
  refine lv_iconst (v := 1) hx hb dX7_tellStatement_2 (by decide) ?_
  refine lv_iadd hx hb dX7_tellStatement_3 ?_
  obtain ⟨r1, hc1, h1⟩ := pp_ob_ex h
  refine cc_cali (q2 := cc_pC q k x) (tc_eq ht) (tc_eq ht) (tc_ob ht) X G (x := x) rfl (ctX7_digitAt l g pls (cc_pC q k x) t _ hc1) (cwV 1 hts gX7_tellStatement_X7_digitAt rfl rfl rfl (by decide +kernel) ⟨Nat.le_of_ble_eq_true rfl, Nat.le_of_ble_eq_true rfl⟩) (rest := []) rfl hl.1 rfl (Nat.le_of_ble_eq_true rfl) dX7_tellStatement_4 (fun H locs G => ?_)
  refine lv_istore_n (lv' := [(3, .int r1), (0, .ref (cc_ad g 1)), (1, .int v1), (2, .ref (cc_ad g (10 + 20 * k)))]) hx hb dX7_tellStatement_7 rfl hl (by decide) rfl (fun ls hl => ?_)
  refine lv_aload_n hx hb dX7_tellStatement_8 rfl (lv_at hl 1 rfl) ?_
  refine lv_iload_n hx hb dX7_tellStatement_9 rfl (lv_at hl 2 rfl) ?_
  obtain ⟨r2, hc2, h2⟩ := pp_ob_ex h1
  refine cc_cali (q2 := cc_pC q k x) (tc_eq ht) (tc_eq ht) (tc_ob ht) X G (x := x) rfl (ctX7_letterAt l g pls (cc_pC q k x) t _ hc2) (cwV 1 hts gX7_tellStatement_X7_letterAt rfl rfl rfl (by decide +kernel) ⟨Nat.le_of_ble_eq_true rfl, Nat.le_of_ble_eq_true rfl⟩) (rest := []) rfl hl.1 rfl (Nat.le_of_ble_eq_true rfl) dX7_tellStatement_10 (fun H locs G => ?_)
  by_cases c98 : r2 = (98 : Int32)
  · have h3 := pp_t c98 h2
    refine lv_lookup (off := 73) (tgt := 86) hx hb dX7_tellStatement_13 (by decide) (by rw [c98]; decide) (by decide) ?_
    refine lv_aload_n hx hb dX7_tellStatement_86 rfl (lv_at hl 3 rfl) ?_
    refine lv_iload_n hx hb dX7_tellStatement_87 rfl (lv_at hl 0 rfl) ?_
    refine lv_aload_n hx hb dX7_tellStatement_88 rfl (lv_at hl 1 rfl) ?_
    refine lv_iload_n hx hb dX7_tellStatement_89 rfl (lv_at hl 2 rfl) ?_
    refine lv_iconst (v := 2) hx hb dX7_tellStatement_90 (by decide) ?_
    refine lv_iadd hx hb dX7_tellStatement_91 ?_
    obtain ⟨r3, hc3, h4⟩ := pp_ob_ex h3
    refine cc_cali (q2 := cc_pC q k x) (tc_eq ht) (tc_eq ht) (tc_ob ht) X G (x := x) rfl (ctX7_digitAt l g pls (cc_pC q k x) t _ hc3) (cwV 1 hts gX7_tellStatement_X7_digitAt rfl rfl rfl (by decide +kernel) ⟨Nat.le_of_ble_eq_true rfl, Nat.le_of_ble_eq_true rfl⟩) (rest := [.int r1, .ref (cc_ad g (10 + 20 * k))]) rfl hl.1 rfl (Nat.le_of_ble_eq_true rfl) dX7_tellStatement_92 (fun H locs G => ?_)
    obtain ⟨r4, hc4, h5⟩ := pp_ob_ex h4
    obtain ⟨hz, h6⟩ := pp_bz_ex h5
    refine cc_caliC (q2 := cc_pC q k r4.2) ⟨Nat.le_of_ble_eq_true rfl, Nat.le_of_ble_eq_true rfl⟩ rfl rfl (co_crt g q hk) X G (x := x) rfl (ctX1_give l g pls q hk x _ _ hc4) (cwV 2 hts gX7_tellStatement_X1_give rfl rfl rfl (by decide +kernel) ⟨Nat.le_of_ble_eq_true rfl, Nat.le_of_ble_eq_true rfl⟩) (rest := []) rfl hl.1 rfl (Nat.le_of_ble_eq_true rfl) dX7_tellStatement_95 (fun H locs G => ?_)
    exact cc_iretN (Nat.le_of_ble_eq_true rfl) (Nat.le_of_ble_eq_true rfl) hfin X hr hlk hz.1 G (congrArg Prod.fst (Option.some.inj h6)) (congrArg (fun (z : Int32 × cc_CT) => cc_pC q k z.2) (Option.some.inj h6)) hQ dX7_tellStatement_98
  have n98 := pp_f c98 h2
  by_cases c103 : r2 = (103 : Int32)
  · have h3 := pp_t c103 n98
    refine lv_lookup (off := 86) (tgt := 99) hx hb dX7_tellStatement_13 (by decide) (by rw [c103]; decide) (by decide) ?_
    refine lv_aload_n hx hb dX7_tellStatement_99 rfl (lv_at hl 3 rfl) ?_
    refine lv_iload_n hx hb dX7_tellStatement_100 rfl (lv_at hl 0 rfl) ?_
    refine lv_aload_n hx hb dX7_tellStatement_101 rfl (lv_at hl 1 rfl) ?_
    refine lv_iload_n hx hb dX7_tellStatement_102 rfl (lv_at hl 2 rfl) ?_
    refine lv_iconst (v := 2) hx hb dX7_tellStatement_103 (by decide) ?_
    refine lv_iadd hx hb dX7_tellStatement_104 ?_
    obtain ⟨r3, hc3, h4⟩ := pp_ob_ex h3
    refine cc_cali (q2 := cc_pC q k x) (tc_eq ht) (tc_eq ht) (tc_ob ht) X G (x := x) rfl (ctX7_digitAt l g pls (cc_pC q k x) t _ hc3) (cwV 1 hts gX7_tellStatement_X7_digitAt rfl rfl rfl (by decide +kernel) ⟨Nat.le_of_ble_eq_true rfl, Nat.le_of_ble_eq_true rfl⟩) (rest := [.int r1, .ref (cc_ad g (10 + 20 * k))]) rfl hl.1 rfl (Nat.le_of_ble_eq_true rfl) dX7_tellStatement_105 (fun H locs G => ?_)
    obtain ⟨r4, hc4, h5⟩ := pp_ob_ex h4
    obtain ⟨hz, h6⟩ := pp_bz_ex h5
    refine cc_caliC (q2 := cc_pC q k r4.2) ⟨Nat.le_of_ble_eq_true rfl, Nat.le_of_ble_eq_true rfl⟩ rfl rfl (co_crt g q hk) X G (x := x) rfl (ctX1_lay l g pls q hk x _ _ hc4) (cwV 2 hts gX7_tellStatement_X1_lay rfl rfl rfl (by decide +kernel) ⟨Nat.le_of_ble_eq_true rfl, Nat.le_of_ble_eq_true rfl⟩) (rest := []) rfl hl.1 rfl (Nat.le_of_ble_eq_true rfl) dX7_tellStatement_108 (fun H locs G => ?_)
    exact cc_iretN (Nat.le_of_ble_eq_true rfl) (Nat.le_of_ble_eq_true rfl) hfin X hr hlk hz.1 G (congrArg Prod.fst (Option.some.inj h6)) (congrArg (fun (z : Int32 × cc_CT) => cc_pC q k z.2) (Option.some.inj h6)) hQ dX7_tellStatement_111
  have n103 := pp_f c103 n98
  by_cases c111 : r2 = (111 : Int32)
  · have h3 := pp_t c111 n103
    refine lv_lookup (off := 99) (tgt := 112) hx hb dX7_tellStatement_13 (by decide) (by rw [c111]; decide) (by decide) ?_
    refine lv_aload_n hx hb dX7_tellStatement_112 rfl (lv_at hl 3 rfl) ?_
    refine lv_iload_n hx hb dX7_tellStatement_113 rfl (lv_at hl 0 rfl) ?_
    obtain ⟨r4, hc4, h5⟩ := pp_ob_ex h3
    obtain ⟨hz, h6⟩ := pp_bz_ex h5
    refine cc_caliC (q2 := cc_pC q k r4.2) ⟨Nat.le_of_ble_eq_true rfl, Nat.le_of_ble_eq_true rfl⟩ rfl rfl (co_crt g q hk) X G (x := x) rfl (ctX1_goOut l g pls q hk x _ hc4) (cwV 1 hts gX7_tellStatement_X1_goOut rfl rfl rfl (by decide +kernel) ⟨Nat.le_of_ble_eq_true rfl, Nat.le_of_ble_eq_true rfl⟩) (rest := []) rfl hl.1 rfl (Nat.le_of_ble_eq_true rfl) dX7_tellStatement_114 (fun H locs G => ?_)
    exact cc_iretN (Nat.le_of_ble_eq_true rfl) (Nat.le_of_ble_eq_true rfl) hfin X hr hlk hz.1 G (congrArg Prod.fst (Option.some.inj h6)) (congrArg (fun (z : Int32 × cc_CT) => cc_pC q k z.2) (Option.some.inj h6)) hQ dX7_tellStatement_117
  have n111 := pp_f c111 n103
  by_cases c112 : r2 = (112 : Int32)
  · have h3 := pp_t c112 n111
    refine lv_lookup (off := 43) (tgt := 56) hx hb dX7_tellStatement_13 (by decide) (by rw [c112]; decide) (by decide) ?_
    refine lv_aload_n hx hb dX7_tellStatement_56 rfl (lv_at hl 3 rfl) ?_
    refine lv_aload_n hx hb dX7_tellStatement_57 rfl (lv_at hl 1 rfl) ?_
    refine lv_iload_n hx hb dX7_tellStatement_58 rfl (lv_at hl 2 rfl) ?_
    refine lv_iconst (v := 2) hx hb dX7_tellStatement_59 (by decide) ?_
    refine lv_iadd hx hb dX7_tellStatement_60 ?_
    obtain ⟨r3, hc3, h4⟩ := pp_ob_ex h3
    refine cc_cali (q2 := cc_pC q k x) (tc_eq ht) (tc_eq ht) (tc_ob ht) X G (x := x) rfl (ctX7_kindAt l g pls (cc_pC q k x) t _ hc3) (cwV 1 hts gX7_tellStatement_X7_kindAt rfl rfl rfl (by decide +kernel) ⟨Nat.le_of_ble_eq_true rfl, Nat.le_of_ble_eq_true rfl⟩) (rest := [.ref (cc_ad g (10 + 20 * k))]) rfl hl.1 rfl (Nat.le_of_ble_eq_true rfl) dX7_tellStatement_61 (fun H locs G => ?_)
    refine lv_iload_n hx hb dX7_tellStatement_64 rfl (lv_at hl 0 rfl) ?_
    refine lv_aload_n hx hb dX7_tellStatement_65 rfl (lv_at hl 1 rfl) ?_
    refine lv_iload_n hx hb dX7_tellStatement_66 rfl (lv_at hl 2 rfl) ?_
    refine lv_iconst (v := 3) hx hb dX7_tellStatement_67 (by decide) ?_
    refine lv_iadd hx hb dX7_tellStatement_68 ?_
    obtain ⟨r5, hc5, h5⟩ := pp_ob_ex h4
    refine cc_cali (q2 := cc_pC q k x) (tc_eq ht) (tc_eq ht) (tc_ob ht) X G (x := x) rfl (ctX7_digitAt l g pls (cc_pC q k x) t _ hc5) (cwV 1 hts gX7_tellStatement_X7_digitAt rfl rfl rfl (by decide +kernel) ⟨Nat.le_of_ble_eq_true rfl, Nat.le_of_ble_eq_true rfl⟩) (rest := [.int r1, .int r3, .ref (cc_ad g (10 + 20 * k))]) rfl hl.1 rfl (Nat.le_of_ble_eq_true rfl) dX7_tellStatement_69 (fun H locs G => ?_)
    refine lv_aload_n hx hb dX7_tellStatement_72 rfl (lv_at hl 1 rfl) ?_
    refine lv_iload_n hx hb dX7_tellStatement_73 rfl (lv_at hl 2 rfl) ?_
    refine lv_iconst (v := 4) hx hb dX7_tellStatement_74 (by decide) ?_
    refine lv_iadd hx hb dX7_tellStatement_75 ?_
    obtain ⟨r6, hc6, h6⟩ := pp_ob_ex h5
    refine cc_cali (q2 := cc_pC q k x) (tc_eq ht) (tc_eq ht) (tc_ob ht) X G (x := x) rfl (ctX7_digitAt l g pls (cc_pC q k x) t _ hc6) (cwV 1 hts gX7_tellStatement_X7_digitAt rfl rfl rfl (by decide +kernel) ⟨Nat.le_of_ble_eq_true rfl, Nat.le_of_ble_eq_true rfl⟩) (rest := [.int r5, .int r1, .int r3, .ref (cc_ad g (10 + 20 * k))]) rfl hl.1 rfl (Nat.le_of_ble_eq_true rfl) dX7_tellStatement_76 (fun H locs G => ?_)
    obtain ⟨r4, hc4, h7⟩ := pp_ob_ex h6
    obtain ⟨hz, h8⟩ := pp_bz_ex h7
    refine cc_np ⟨Nat.le_of_ble_eq_true rfl, Nat.le_of_ble_eq_true rfl⟩ X G (np_isP r3) (ctX10_newPlayer l g.1 r3 r1 r5 r6) ⟨va_cnB 4 hts gX7_tellStatement_X10_newPlayer_n59 rfl rfl rfl (X.2.1.2.1 (.methodLinkNest RX7 59 yX10_newPlayer RX10) (by decide +kernel)) (hts (.initialized RX10) (by decide +kernel)) (by decide +kernel) ⟨Nat.le_of_ble_eq_true rfl, Nat.le_of_ble_eq_true rfl⟩, hts (.static yX10_newPlayer) (by decide +kernel), trivial⟩ rfl hl.1 (rest := [.ref (cc_ad g (10 + 20 * k))]) (Nat.le_of_ble_eq_true rfl) dX7_tellStatement_79 (fun a H locs G => ?_)
    refine cc_caliC (q2 := cc_pC q k r4.2) ⟨Nat.le_of_ble_eq_true rfl, Nat.le_of_ble_eq_true rfl⟩ rfl rfl (co_crt g q hk) X G (x := x) rfl (ctX1_add l g (pls ++ [(a, cc_plc (np_ci r3, cn_f r3 r1 r5 r6))]) q hk x a (np_ci r3, cn_f r3 r1 r5 r6) (List.mem_append_right _ (List.mem_singleton.mpr rfl)) hc4) (cwV 1 hts gX7_tellStatement_X1_add rfl rfl rfl (by decide +kernel) ⟨Nat.le_of_ble_eq_true rfl, Nat.le_of_ble_eq_true rfl⟩) (rest := []) rfl hl.1 rfl (Nat.le_of_ble_eq_true rfl) dX7_tellStatement_82 (fun H locs G => ?_)
    exact cc_iretN (Nat.le_of_ble_eq_true rfl) (Nat.le_of_ble_eq_true rfl) (fun _ z => List.mem_append_left _ z) X hr hlk hz.1 G (congrArg Prod.fst (Option.some.inj h8)) (congrArg (fun (z : Int32 × cc_CT) => cc_pC q k z.2) (Option.some.inj h8)) hQ dX7_tellStatement_85
  have n112 := pp_f c112 n111
  refine lv_lookup (off := 105) (tgt := 118) hx hb dX7_tellStatement_13 (by decide) ((lv_osw c98 (by decide)).trans ((lv_osw c103 (by decide)).trans ((lv_osw c111 (by decide)).trans ((lv_osw c112 (by decide)).trans (rfl))))) (by decide) ?_
  refine lv_iconst (v := 0) hx hb dX7_tellStatement_118 (by decide) ?_
  exact cc_iretN (Nat.le_of_ble_eq_true rfl) (Nat.le_of_ble_eq_true rfl) hfin X hr hlk rfl G (congrArg Prod.fst (Option.some.inj n112)) (congrArg (fun (z : Int32 × cc_CT) => cc_pC q k z.2) (Option.some.inj n112)) hQ dX7_tellStatement_119
set_option maxHeartbeats 4000000 in
set_option maxRecDepth 100000 in
theorem ctX7_tellTo (l : Launch) (g : cc_G) (pls : va_W) (q : cc_S) {k : Nat} (hk : k < 3) (t : rr_S) (ht : t = cc_gT q) (x : cc_CT) {res : Int32 × cc_CT} (h : T_tellTo t x = some res) : cc_Ni l yX7_tellTo wsX7_tellTo rmX7_tellTo g pls [.ref (cc_ad g 1), .ref (cc_ad g (10 + 20 * k))] (cc_pC q k x) res.1 (cc_pC q k res.2) 200 800 := by
  intro sz A hA
  unfold T_tellTo at h
  refine cc_ofWN hA (own := RX7) (by decide) rfl rfl (Nat.le_of_ble_eq_true rfl) ?_
  intro p e s m args below meth c ls X hr hlk G hl Q hQ
  have hx := X.1.1
  have hb := X.1.2.1
  have hown := X.1.2.2.2.1
  have hts := X.1.2.2.2.2
  refine (fun (key : ∀ (H : Heap) (locs : List Loc), cc_H g A pls (cc_pC q k x) s H locs → W p l e (headSpec wsX7_tellTo rmX7_tellTo).room s m args below meth c H locs 0 0 Q (F0 m 0 ls [])) => key _ _ G) ?_
  clear G
  intro H locs G
  have hl : lv_has ls 5 [(0, .ref (cc_ad g 1)), (1, .ref (cc_ad g (10 + 20 * k)))] := hl
  have hin7 : ∀ y ∈ wsX70, y ∈ wsX7_tellTo := (fun _ z => List.mem_cons_of_mem _ (List.mem_append_left _ (List.mem_append_left _ (List.mem_append_left _ (List.mem_append_left _ (List.mem_append_left _ (List.mem_append_left _ (List.mem_append_left _ (List.mem_append_left _ (List.mem_append_right _ z))))))))))
  have hf15 : Cond.fieldLink RX7 15 (TX7 1).1 (TX7 1).2.1 (TX7 1).2.2.1 ∈ wsX7_tellTo := by decide +kernel
  refine lv_iconst (v := 0) hx hb dX7_tellTo_0 (by decide) ?_
  refine lv_istore_n (lv' := [(2, .int 0), (0, .ref (cc_ad g 1)), (1, .ref (cc_ad g (10 + 20 * k)))]) hx hb dX7_tellTo_1 rfl hl (by decide) rfl (fun ls hl => ?_)
  refine lv_iconst (v := 0) hx hb dX7_tellTo_2 (by decide) ?_
  refine lv_istore_n (lv' := [(3, .int 0), (2, .int 0), (0, .ref (cc_ad g 1)), (1, .ref (cc_ad g (10 + 20 * k)))]) hx hb dX7_tellTo_3 rfl hl (by decide) rfl (fun ls hl => ?_)
  refine lv_iconst (v := 0) hx hb dX7_tellTo_4 (by decide) ?_
  refine lv_istore (lv' := [(4, .int 0), (3, .int 0), (2, .int 0), (0, .ref (cc_ad g 1)), (1, .ref (cc_ad g (10 + 20 * k)))]) hx hb dX7_tellTo_5 hl (by decide) rfl (fun ls hl => ?_)
  refine pp_loopN (I := fun n a => ∀ (pls1 : va_W) (cells slots : Nat) (H : Heap) (locs : List Loc) (ls : Array Slot), (∀ z ∈ pls, z ∈ pls1) → cells + n ≤ 200 → slots + 4 * n ≤ 800 → cc_H g A pls1 (cc_pC q k a.1) s H locs → lv_has ls 5 [(4, .int a.2.2.2), (3, .int a.2.2.1), (2, .int a.2.1), (0, .ref (cc_ad g 1)), (1, .ref (cc_ad g (10 + 20 * k)))] → W p l e (headSpec wsX7_tellTo rmX7_tellTo).room s m args below meth c H locs cells slots Q (F0 m 7 ls [])) ?_ 200 _ h pls 0 0 H locs ls (fun _ z => z) (Nat.le_refl _) (Nat.le_refl _) G hl
  clear h G hl
  intro n self ih a h pls1 cells slots H locs ls hsub hc hs G hl
  refine lv_iload hx hb dX7_tellTo_7 (lv_at hl 0 rfl) ?_
  refine lv_aload_n hx hb dX7_tellTo_9 rfl (lv_at hl 3 rfl) ?_
  refine cc_get (tc_ob ht) X G (x := a.1) rfl hin7 1 (by decide) hf15 (v := .int (t.1 1)) rfl dX7_tellTo_10 ?_
  refine lv_icmp_ge (tgt := 56) hx hb dX7_tellTo_13 (by decide) (fun c1 => ?_) (fun c1 => ?_)
  · have h1 := pp_t c1 h
    refine lv_iload_n hx hb dX7_tellTo_56 rfl (lv_at hl 2 rfl) ?_
    obtain ⟨e1, e2⟩ : a.2.1 = res.1 ∧ cc_pC q k a.1 = cc_pC q k res.2 := by cases h1; exact ⟨rfl, rfl⟩
    exact cc_iretN (mc := 200) (ms := 800) (by omega) (by omega) hsub X hr hlk rfl G e1 e2 hQ dX7_tellTo_57
  · have h1 := pp_f c1 h
    obtain ⟨r1, hc1, h2⟩ := pp_ob_ex h1
    refine lv_aload_n hx hb dX7_tellTo_16 rfl (lv_at hl 3 rfl) ?_
    refine lv_iload hx hb dX7_tellTo_17 (lv_at hl 0 rfl) ?_
    refine cc_caliC (q2 := cc_pC q k a.1) ⟨show cells ≤ 200 by omega, show slots ≤ 800 by omega⟩ (tc_eq ht) (tc_eq ht) (tc_ob ht) X G (x := a.1) rfl (ctX7_letterAt l g pls1 (cc_pC q k a.1) t _ hc1) (cwV 1 hts gX7_tellTo_X7_letterAt rfl rfl rfl (by decide +kernel) ⟨Nat.le_of_ble_eq_true rfl, Nat.le_of_ble_eq_true rfl⟩) (rest := []) rfl hl.1 rfl (Nat.le_of_ble_eq_true rfl) dX7_tellTo_19 (fun H locs G => ?_)
    refine lv_bipush (v := 59) hx hb dX7_tellTo_22 (by decide) ?_
    have back : ∀ (pls2 : va_W) (cells slots : Nat) (H : Heap) (locs : List Loc) (ls : Array Slot) (x2 : cc_CT) (s2 f2 : Int32), self (x2, s2, f2, a.2.2.2 + 1) = some res → (∀ z ∈ pls, z ∈ pls2) → cells + n ≤ 200 → slots + 4 * n ≤ 800 → cc_H g A pls2 (cc_pC q k x2) s H locs → lv_has ls 5 [(4, .int a.2.2.2), (3, .int f2), (2, .int s2), (0, .ref (cc_ad g 1)), (1, .ref (cc_ad g (10 + 20 * k)))] → W p l e (headSpec wsX7_tellTo rmX7_tellTo).room s m args below meth c H locs cells slots Q (F0 m 50 ls []) := by
      intro pls2 cells slots H locs ls x2 s2 f2 h hsub hc hs G hl
      refine lv_iinc (v := a.2.2.2 + 1) (lv' := [(4, .int (a.2.2.2 + 1)), (3, .int f2), (2, .int s2), (0, .ref (cc_ad g 1)), (1, .ref (cc_ad g (10 + 20 * k)))]) hx hb dX7_tellTo_50 hl (k := 0) rfl rfl (by decide) rfl (fun ls hl => ?_)
      refine lv_goto (tgt := 7) hx hb dX7_tellTo_53 (by decide) ?_
      exact ih _ h pls2 cells slots H locs ls hsub hc hs G hl
    refine lv_icmp_ne (tgt := 50) hx hb dX7_tellTo_24 (by decide) (fun c2 => ?_) (fun c2 => ?_)
    · have h3 := pp_f c2 h2
      exact back pls1 cells slots H locs ls _ _ _ h3 hsub (by omega) (by omega) G hl
    · have h3 := pp_t c2 h2
      obtain ⟨r2, hc2, h4⟩ := pp_ob_ex h3
      refine lv_aload_n hx hb dX7_tellTo_27 rfl (lv_at hl 3 rfl) ?_
      refine lv_iload_n hx hb dX7_tellTo_28 rfl (lv_at hl 1 rfl) ?_
      refine lv_aload_n hx hb dX7_tellTo_29 rfl (lv_at hl 4 rfl) ?_
      refine cc_calNi (q2 := cc_pC q k r2.2) ⟨show cells + 1 ≤ 200 by omega, show slots + 4 ≤ 800 by omega⟩ rfl rfl (tc_ob ht) X G (x := a.1) rfl (ctX7_tellStatement l g pls1 q hk t ht a.1 _ hc2) (cwV 2 hts gX7_tellTo_X7_tellStatement rfl rfl rfl (by decide +kernel) ⟨Nat.le_of_ble_eq_true rfl, Nat.le_of_ble_eq_true rfl⟩) (rest := []) rfl hl.1 rfl (Nat.le_of_ble_eq_true rfl) dX7_tellTo_30 (fun pls2 H locs hsub2 G => ?_)
      have hsub3 : ∀ z ∈ pls, z ∈ pls2 := fun z hz => hsub2 z (hsub z hz)
      refine lv_if_ne (tgt := 42) hx hb dX7_tellTo_33 (by decide) (fun c3 => ?_) (fun c3 => ?_)
      · have h5 := pp_f c3 h4
        refine lv_iinc (v := a.2.1 + 1) (lv' := [(2, .int (a.2.1 + 1)), (4, .int a.2.2.2), (3, .int a.2.2.1), (0, .ref (cc_ad g 1)), (1, .ref (cc_ad g (10 + 20 * k)))]) hx hb dX7_tellTo_42 hl (k := 2) rfl rfl (by decide) rfl (fun ls hl => ?_)
        refine lv_iload hx hb dX7_tellTo_45 (lv_at hl 1 rfl) ?_
        refine lv_iconst (v := 1) hx hb dX7_tellTo_47 (by decide) ?_
        refine lv_iadd hx hb dX7_tellTo_48 ?_
        refine lv_istore_n (lv' := [(3, .int (a.2.2.2 + 1)), (2, .int (a.2.1 + 1)), (4, .int a.2.2.2), (0, .ref (cc_ad g 1)), (1, .ref (cc_ad g (10 + 20 * k)))]) hx hb dX7_tellTo_49 rfl hl (by decide) rfl (fun ls hl => ?_)
        exact back pls2 (cells + 1) (slots + 4) H locs ls _ _ _ h5 hsub3 (by omega) (by omega) G (lv_sub hl [2, 0, 1, 3, 4] rfl)
      · have h5 := pp_t c3 h4
        refine lv_sipush (v := -2000) hx hb dX7_tellTo_36 (by decide) ?_
        refine lv_iload_n hx hb dX7_tellTo_39 rfl (lv_at hl 1 rfl) ?_
        refine lv_isub hx hb dX7_tellTo_40 ?_
        obtain ⟨e1, e2⟩ : (-2000 : Int32) - a.2.2.1 = res.1 ∧ cc_pC q k r2.2 = cc_pC q k res.2 := by refine ⟨?_, ?_⟩ <;> rw [← Option.some.inj h5]
        exact cc_iretN (mc := 200) (ms := 800) (by omega) (by omega) hsub3 X hr hlk rfl G e1 e2 hQ dX7_tellTo_41
noncomputable def C_hall (q : cc_S) : Option (Int32 × cc_S) :=
  pp_ob (T_unfitLetter (cc_gT q)) (fun r1 => pp_lj (fun (a : cc_S × Int32) => (pp_ob (T_forget (cc_gT a.1)) (fun r9 => some (a.2, cc_pT a.1 r9)) : Option (Int32 × cc_S))) (fun j =>
    if r1 = (-9 : Int32) then pp_ob (K_becomeLike (cc_gC q 1) (cc_gC q 0)) (fun r2 => pp_lj (cc_pC q 1 r2) (fun q3 => pp_ob (T_tellTo (cc_gT q3) (cc_gC q3 1)) (fun r4 => pp_lj (cc_pC q3 1 r4.2) (fun q5 => if r4.1 ≤ (0 : Int32) then j (q5, r4.1) else pp_ob (K_becomeLike (cc_gC q5 0) (cc_gC q5 1)) (fun r6 => j (cc_pC q5 0 r6, r4.1))))))
    else j (q, (-1000 : Int32) - r1)))
set_option maxHeartbeats 4000000 in
set_option maxRecDepth 100000 in
theorem ctX10_hall (l : Launch) (g : cc_G) (pls : va_W) (q : cc_S) {res : Int32 × cc_S} (h : C_hall q = some res) : cc_Ni l yX10_hall wsX10_hall rmX10_hall g pls [.ref (cc_ad g 0)] q res.1 res.2 200 800 := by
  intro sz A hA
  unfold C_hall at h
  refine cc_ofWN hA (own := RX10) (by decide) rfl rfl (Nat.le_of_ble_eq_true rfl) ?_
  intro p e s m args below meth c ls X hr hlk G hl Q hQ
  have hx := X.1.1
  have hb := X.1.2.1
  have hown := X.1.2.2.2.1
  have hts := X.1.2.2.2.2
  refine (fun (key : ∀ (H : Heap) (locs : List Loc), cc_H g A pls q s H locs → W p l e (headSpec wsX10_hall rmX10_hall).room s m args below meth c H locs 0 0 Q (F0 m 0 ls [])) => key _ _ G) ?_
  clear G
  intro H locs G
  have hl : lv_has ls 3 [(0, .ref (cc_ad g 0))] := hl
  have hin10 : ∀ y ∈ wsX100, y ∈ wsX10_hall := (fun _ z => List.mem_cons_of_mem _ (List.mem_append_left _ (List.mem_append_left _ (List.mem_append_left _ (List.mem_append_left _ (List.mem_append_left _ (List.mem_append_left _ (List.mem_append_left _ (List.mem_append_left _ (List.mem_append_left _ (List.mem_append_right _ z)))))))))))
  have hf10 : Cond.fieldLink RX10 10 (TX10 0).1 (TX10 0).2.1 (TX10 0).2.2.1 ∈ wsX10_hall := by decide +kernel
  have hf19 : Cond.fieldLink RX10 19 (TX10 1).1 (TX10 1).2.1 (TX10 1).2.2.1 ∈ wsX10_hall := by decide +kernel
  have hf23 : Cond.fieldLink RX10 23 (TX10 2).1 (TX10 2).2.1 (TX10 2).2.2.1 ∈ wsX10_hall := by decide +kernel
  obtain ⟨r1, hc1, h1⟩ := pp_ob_ex h
  refine lv_aload_n hx hb dX10_hall_0 rfl (lv_at hl 0 rfl) ?_
  refine cc_get (mo_main g) X G (x := q) rfl hin10 0 (by decide) hf10 (v := .ref (cc_ad g 1)) rfl dX10_hall_1 ?_
  refine cc_cali (q2 := q) (cc_pgT q) (cc_pgT q) (mo_text g) X G (x := q) rfl (ctX7_unfitLetter l g pls q (cc_gT q) hc1) (cwV 0 hts gX10_hall_X7_unfitLetter rfl rfl rfl (by decide +kernel) ⟨Nat.le_of_ble_eq_true rfl, Nat.le_of_ble_eq_true rfl⟩) (rest := []) rfl hl.1 rfl (Nat.le_of_ble_eq_true rfl) dX10_hall_4 (fun H locs G => ?_)
  refine lv_istore_n (lv' := [(2, .int r1), (0, .ref (cc_ad g 0))]) hx hb dX10_hall_7 rfl hl (by decide) rfl (fun ls hl => ?_)
  refine lv_iload_n hx hb dX10_hall_8 rfl (lv_at hl 0 rfl) ?_
  refine lv_bipush (v := -9) hx hb dX10_hall_9 (by decide) ?_
  obtain ⟨j, ej, h2⟩ := pp_lj_ex h1
  have hj : ∀ (pls1 : va_W) (a : cc_S × Int32) (cells slots : Nat) (H : Heap) (locs : List Loc) (ls : Array Slot), cells ≤ 200 → slots ≤ 800 → (∀ z ∈ pls, z ∈ pls1) → j a = some res → cc_H g A pls1 a.1 s H locs → lv_has ls 3 [(1, .int a.2), (0, .ref (cc_ad g 0))] → W p l e (headSpec wsX10_hall rmX10_hall).room s m args below meth c H locs cells slots Q (F0 m 61 ls []) := by
    intro pls1 a cells slots H locs ls hc hs hsub h G hl
    have h3 := pp_jmp ej h
    obtain ⟨r9, hc9, h4⟩ := pp_ob_ex h3
    refine lv_aload_n hx hb dX10_hall_61 rfl (lv_at hl 1 rfl) ?_
    refine cc_get (mo_main g) X G (x := a.1) rfl hin10 0 (by decide) hf10 (v := .ref (cc_ad g 1)) rfl dX10_hall_62 ?_
    refine cc_calvC (q2 := cc_pT a.1 r9) ⟨hc, hs⟩ (cc_pgT a.1) rfl (mo_text g) X G (x := a.1) rfl (ctX7_forget l g pls1 a.1 (cc_gT a.1) hc9) (cwV 0 hts gX10_hall_X7_forget rfl rfl rfl (by decide +kernel) ⟨Nat.le_of_ble_eq_true rfl, Nat.le_of_ble_eq_true rfl⟩) (rest := []) rfl hl.1 rfl (Nat.le_of_ble_eq_true rfl) dX10_hall_65 (fun H locs G => ?_)
    refine lv_iload_n hx hb dX10_hall_68 rfl (lv_at hl 0 rfl) ?_
    exact cc_iretN hc hs hsub X hr hlk rfl G (congrArg Prod.fst (Option.some.inj h4)) (congrArg (fun (z : Int32 × cc_S) => z.2) (Option.some.inj h4)) hQ dX10_hall_69
  refine lv_icmp_eq (tgt := 23) hx hb dX10_hall_11 (by decide) (fun c1 => ?_) (fun c1 => ?_)
  · have h3 := pp_t c1 h2
    obtain ⟨r2, hc2, h4⟩ := pp_ob_ex h3
    obtain ⟨q3, e3, h5⟩ := pp_lj_ex h4
    refine lv_aload_n hx hb dX10_hall_23 rfl (lv_at hl 1 rfl) ?_
    refine cc_get (mo_main g) X G (x := q) rfl hin10 2 (by decide) hf23 (v := .ref (cc_ad g (10 + 20 * 1))) rfl dX10_hall_24 ?_
    refine lv_aload_n hx hb dX10_hall_27 rfl (lv_at hl 1 rfl) ?_
    refine cc_get (mo_main g) X G (x := q) rfl hin10 1 (by decide) hf19 (v := .ref (cc_ad g (10 + 20 * 0))) rfl dX10_hall_28 ?_
    refine cc_calv (q2 := q3) (cc_pgC q 1) e3.symm (mo_crt g (c := 1) (by decide)) X G (x := q) rfl (ctX1_becomeLike l g pls q (k := 1) (by decide) (cc_gC q 1) (k2 := 0) (by decide) (by decide) (cc_gC q 0) rfl hc2) (cwV 1 hts gX10_hall_X1_becomeLike rfl rfl rfl (by decide +kernel) ⟨Nat.le_of_ble_eq_true rfl, Nat.le_of_ble_eq_true rfl⟩) (rest := []) rfl hl.1 rfl (Nat.le_of_ble_eq_true rfl) dX10_hall_31 (fun H locs G => ?_)
    obtain ⟨r4, hc4, h6⟩ := pp_ob_ex h5
    obtain ⟨q5, e5, h7⟩ := pp_lj_ex h6
    refine lv_aload_n hx hb dX10_hall_34 rfl (lv_at hl 1 rfl) ?_
    refine cc_get (mo_main g) X G (x := q3) rfl hin10 0 (by decide) hf10 (v := .ref (cc_ad g 1)) rfl dX10_hall_35 ?_
    refine lv_aload_n hx hb dX10_hall_38 rfl (lv_at hl 1 rfl) ?_
    refine cc_get (mo_main g) X G (x := q3) rfl hin10 2 (by decide) hf23 (v := .ref (cc_ad g (10 + 20 * 1))) rfl dX10_hall_39 ?_
    refine cc_calNi (q2 := q5) ⟨Nat.le_of_ble_eq_true rfl, Nat.le_of_ble_eq_true rfl⟩ (cc_pgC q3 1) e5.symm (mo_text g) X G (x := q3) rfl (ctX7_tellTo l g pls q3 (k := 1) (by decide) (cc_gT q3) rfl (cc_gC q3 1) hc4) (cwV 1 hts gX10_hall_X7_tellTo rfl rfl rfl (by decide +kernel) ⟨Nat.le_of_ble_eq_true rfl, Nat.le_of_ble_eq_true rfl⟩) (rest := []) rfl hl.1 rfl (Nat.le_of_ble_eq_true rfl) dX10_hall_42 (fun pls1 H locs hsub G => ?_)
    refine lv_istore_n (lv' := [(1, .int r4.1), (2, .int r1), (0, .ref (cc_ad g 0))]) hx hb dX10_hall_45 rfl hl (by decide) rfl (fun ls hl => ?_)
    refine lv_iload_n hx hb dX10_hall_46 rfl (lv_at hl 0 rfl) ?_
    refine lv_if_le (tgt := 61) hx hb dX10_hall_47 (by decide) (fun c2 => ?_) (fun c2 => ?_)
    · have h8 := pp_t c2 h7
      exact hj pls1 _ _ _ H locs ls (Nat.le_of_ble_eq_true rfl) (Nat.le_of_ble_eq_true rfl) hsub h8 G (lv_sub hl [0, 2] rfl)
    · have h8 := pp_f c2 h7
      obtain ⟨r6, hc6, h9⟩ := pp_ob_ex h8
      refine lv_aload_n hx hb dX10_hall_50 rfl (lv_at hl 2 rfl) ?_
      refine cc_get (mo_main g) X G (x := q5) rfl hin10 1 (by decide) hf19 (v := .ref (cc_ad g (10 + 20 * 0))) rfl dX10_hall_51 ?_
      refine lv_aload_n hx hb dX10_hall_54 rfl (lv_at hl 2 rfl) ?_
      refine cc_get (mo_main g) X G (x := q5) rfl hin10 2 (by decide) hf23 (v := .ref (cc_ad g (10 + 20 * 1))) rfl dX10_hall_55 ?_
      refine cc_calvC (q2 := cc_pC q5 0 r6) ⟨Nat.le_of_ble_eq_true rfl, Nat.le_of_ble_eq_true rfl⟩ (cc_pgC q5 0) rfl (mo_crt g (c := 0) (by decide)) X G (x := q5) rfl (ctX1_becomeLike l g pls1 q5 (k := 0) (by decide) (cc_gC q5 0) (k2 := 1) (by decide) (by decide) (cc_gC q5 1) rfl hc6) (cwV 1 hts gX10_hall_X1_becomeLike rfl rfl rfl (by decide +kernel) ⟨Nat.le_of_ble_eq_true rfl, Nat.le_of_ble_eq_true rfl⟩) (rest := []) rfl hl.1 rfl (Nat.le_of_ble_eq_true rfl) dX10_hall_58 (fun H locs G => ?_)
      exact hj pls1 _ _ _ H locs ls (Nat.le_of_ble_eq_true rfl) (Nat.le_of_ble_eq_true rfl) hsub h9 G (lv_sub hl [0, 2] rfl)
  · have h3 := pp_f c1 h2
    refine lv_sipush (v := -1000) hx hb dX10_hall_14 (by decide) ?_
    refine lv_iload_n hx hb dX10_hall_17 rfl (lv_at hl 0 rfl) ?_
    refine lv_isub hx hb dX10_hall_18 ?_
    refine lv_istore_n (lv' := [(1, .int ((-1000) - r1)), (2, .int r1), (0, .ref (cc_ad g 0))]) hx hb dX10_hall_19 rfl hl (by decide) rfl (fun ls hl => ?_)
    refine lv_goto (tgt := 61) hx hb dX10_hall_20 (by decide) ?_
    exact hj pls _ _ _ H locs ls (Nat.le_of_ble_eq_true rfl) (Nat.le_of_ble_eq_true rfl) (fun _ z => z) h3 G (lv_sub hl [0, 2] rfl)
