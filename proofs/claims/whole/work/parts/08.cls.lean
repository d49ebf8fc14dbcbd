noncomputable def P4_grasp (d : cc_PD) (v1 : Int32) : Option Int32 := some (((d.2 2) + (d.2 3)) / (2 : Int32))
abbrev rmX4_grasp : Room := { frames := 0, cells := 0, slots := 0, locals := 0 }
set_option maxHeartbeats 4000000 in
set_option maxRecDepth 100000 in
theorem ctX4_grasp (l : Launch) (D : va_G) (a : Nat) (d : cc_PD) (hci : cc_isP d.1) (v1 : Int32) {res : Int32} (h : P4_grasp d v1 = some res) : cp_Mi l yX4_grasp wsX4_grasp rmX4_grasp D [.ref a, .int v1] a d res := by
  intro sz
  unfold P4_grasp at h
  refine cp_ofW hci ⟨(fun _ z => List.mem_cons_of_mem _ (List.mem_append_left _ (List.mem_append_left _ (List.mem_append_left _ (List.mem_append_left _ (List.mem_append_left _ (List.mem_append_right _ z))))))), (fun _ z => List.mem_cons_of_mem _ (List.mem_append_left _ (List.mem_append_left _ (List.mem_append_left _ (List.mem_append_left _ (List.mem_append_right _ z)))))), (fun _ z => List.mem_cons_of_mem _ (List.mem_append_left _ (List.mem_append_left _ (List.mem_append_left _ (List.mem_append_right _ z))))), (fun _ z => List.mem_cons_of_mem _ (List.mem_append_left _ (List.mem_append_left _ (List.mem_append_right _ z)))), (fun _ z => List.mem_cons_of_mem _ (List.mem_append_left _ (List.mem_append_right _ z))), (fun _ z => List.mem_cons_of_mem _ (List.mem_append_right _ z))⟩ (own := RX4) (by decide) rfl rfl (Nat.le_of_ble_eq_true rfl) ?_
  intro p e s m args below meth c ls X hr hlk G hl Q hQ
  have hx := X.1.1
  have hb := X.1.2.1
  have hown := X.1.2.2.2.1
  have hts := X.1.2.2.2.2
  refine (fun (key : ∀ (H : Heap) (locs : List Loc), cp_H D a d s H locs → W p l e (headSpec wsX4_grasp rmX4_grasp).room s m args below meth c H locs 0 0 Q (F0 m 0 ls [])) => key _ _ G) ?_
  clear G
  intro H locs G
  have hl : lv_has ls 2 [(0, .ref a), (1, .int v1)] := hl
  have hf16 : Cond.fieldLink RX4 16 (TX4 2).1 (TX4 2).2.1 (TX4 2).2.2.1 ∈ wsX4_grasp := by decide +kernel
  have hf19 : Cond.fieldLink RX4 19 (TX4 3).1 (TX4 3).2.1 (TX4 3).2.2.1 ∈ wsX4_grasp := by decide +kernel
  refine lv_aload_n hx hb dX4_grasp_0 rfl (lv_at hl 0 rfl) ?_
  refine cp_getf X G 2 (by decide) hf16 (v := .int (d.2 2)) rfl dX4_grasp_1 ?_
  refine lv_aload_n hx hb dX4_grasp_4 rfl (lv_at hl 0 rfl) ?_
  refine cp_getf X G 3 (by decide) hf19 (v := .int (d.2 3)) rfl dX4_grasp_5 ?_
  refine lv_iadd hx hb dX4_grasp_8 ?_
  refine lv_iconst (v := 2) hx hb dX4_grasp_9 (by decide) ?_
  refine lv_idiv hx hb dX4_grasp_10 (by decide) ?_
  exact cp_iret X hr hlk rfl G h hQ dX4_grasp_11
noncomputable def P0_grasp (d : cc_PD) (v1 : Int32) : Option Int32 := pp_ob (P4_grasp d v1) (fun r1 => some (r1 + (4 : Int32)))
abbrev rmX0_grasp : Room := { frames := 1, cells := 0, slots := 0, locals := 21 }
set_option maxHeartbeats 4000000 in
set_option maxRecDepth 100000 in
theorem ctX0_grasp (l : Launch) (D : va_G) (a : Nat) (d : cc_PD) (hci : cc_isP d.1) (v1 : Int32) {res : Int32} (h : P0_grasp d v1 = some res) : cp_Mi l yX0_grasp wsX0_grasp rmX0_grasp D [.ref a, .int v1] a d res := by
  intro sz
  unfold P0_grasp at h
  refine cp_ofW hci ⟨(fun _ z => List.mem_cons_of_mem _ (List.mem_append_left _ (List.mem_append_left _ (List.mem_append_left _ (List.mem_append_left _ (List.mem_append_left _ (List.mem_append_right _ z))))))), (fun _ z => List.mem_cons_of_mem _ (List.mem_append_left _ (List.mem_append_left _ (List.mem_append_left _ (List.mem_append_left _ (List.mem_append_right _ z)))))), (fun _ z => List.mem_cons_of_mem _ (List.mem_append_left _ (List.mem_append_left _ (List.mem_append_left _ (List.mem_append_right _ z))))), (fun _ z => List.mem_cons_of_mem _ (List.mem_append_left _ (List.mem_append_left _ (List.mem_append_right _ z)))), (fun _ z => List.mem_cons_of_mem _ (List.mem_append_left _ (List.mem_append_right _ z))), (fun _ z => List.mem_cons_of_mem _ (List.mem_append_right _ z))⟩ (own := RX0) (by decide) rfl rfl (Nat.le_of_ble_eq_true rfl) ?_
  intro p e s m args below meth c ls X hr hlk G hl Q hQ
  have hx := X.1.1
  have hb := X.1.2.1
  have hown := X.1.2.2.2.1
  have hts := X.1.2.2.2.2
  refine (fun (key : ∀ (H : Heap) (locs : List Loc), cp_H D a d s H locs → W p l e (headSpec wsX0_grasp rmX0_grasp).room s m args below meth c H locs 0 0 Q (F0 m 0 ls [])) => key _ _ G) ?_
  clear G
  intro H locs G
  have hl : lv_has ls 2 [(0, .ref a), (1, .int v1)] := hl
  refine lv_aload_n hx hb dX0_grasp_0 rfl (lv_at hl 0 rfl) ?_
  refine lv_iload_n hx hb dX0_grasp_1 rfl (lv_at hl 1 rfl) ?_
  obtain ⟨r1, hc1, h2⟩ := pp_ob_ex h
  clear h
  refine cp_super X G (ctX4_grasp l D a d X.2.2.1 _ hc1) (va_cwSU 1 hts gX0_grasp_X4_grasp_s7 rfl rfl rfl (by decide +kernel) ⟨Nat.le_of_ble_eq_true rfl, Nat.le_of_ble_eq_true rfl⟩) (rest := []) rfl hl.1 rfl (Nat.le_of_ble_eq_true rfl) dX0_grasp_2 (fun H locs G => ?_)
  refine lv_iconst (v := 4) hx hb dX0_grasp_5 (by decide) ?_
  refine lv_iadd hx hb dX0_grasp_6 ?_
  exact cp_iret X hr hlk rfl G h2 hQ dX0_grasp_7
noncomputable def K_isPlayer (x : cc_CT) (v1 : Int32) : Option Int32 := pp_lj (fun (a1 : Unit) => (some (0 : Int32) : Option Int32)) (fun j1 => (if v1 < (0 : Int32) then j1 () else (if (x.1.1 1) ≤ v1 then j1 () else (if (Int32.ofNat 8) ≤ v1 then j1 () else some (1 : Int32)))))
abbrev rmX1_isPlayer : Room := { frames := 0, cells := 0, slots := 0, locals := 0 }
set_option maxHeartbeats 4000000 in
set_option maxRecDepth 100000 in
theorem ctX1_isPlayer (l : Launch) (g : cc_G) (pls : va_W) (q : cc_S) {k : Nat} (hk : k < 3) (x : cc_CT) (v1 : Int32) {res : Int32} (h : K_isPlayer x v1 = some res) : cc_Mi l yX1_isPlayer wsX1_isPlayer rmX1_isPlayer g pls [.ref (cc_ad g (10 + 20 * k)), .int v1] (cc_pC q k x) res (cc_pC q k x) := by
  intro sz A hA
  unfold K_isPlayer at h
  refine cc_ofW hA (own := RX1) (by decide) rfl rfl (Nat.le_of_ble_eq_true rfl) ?_
  intro p e s m args below meth c ls X hr hlk G hl Q hQ
  have hx := X.1.1
  have hb := X.1.2.1
  have hown := X.1.2.2.2.1
  have hts := X.1.2.2.2.2
  refine (fun (key : ∀ (H : Heap) (locs : List Loc), cc_H g A pls (cc_pC q k x) s H locs → W p l e (headSpec wsX1_isPlayer rmX1_isPlayer).room s m args below meth c H locs 0 0 Q (F0 m 0 ls [])) => key _ _ G) ?_
  clear G
  intro H locs G
  have hl : lv_has ls 2 [(0, .ref (cc_ad g (10 + 20 * k))), (1, .int v1)] := hl
  have hf11 : Cond.fieldLink RX1 11 (TX1 0).1 (TX1 0).2.1 (TX1 0).2.2.1 ∈ wsX1_isPlayer := by decide +kernel
  have hf44 : Cond.fieldLink RX1 44 (TX1 1).1 (TX1 1).2.1 (TX1 1).2.2.1 ∈ wsX1_isPlayer := by decide +kernel
  have hin1 : ∀ y ∈ wsX10, y ∈ wsX1_isPlayer := (fun _ z => List.mem_cons_of_mem _ (List.mem_append_right _ z))
  refine lv_iload_n hx hb dX1_isPlayer_0 rfl (lv_at hl 1 rfl) ?_
  obtain ⟨j1, ej1, h2⟩ := pp_lj_ex h
  clear h
  have hj1 : ∀ (a1 : Unit) (H : Heap) (locs : List Loc) (ls : Array Slot), j1 a1 = some res → cc_H g A pls (cc_pC q k x) s H locs → lv_has ls 2 [] → W p l e (headSpec wsX1_isPlayer rmX1_isPlayer).room s m args below meth c H locs 0 0 Q (F0 m 25 ls []) := by
    intro a1 H locs ls h G hl
    have h3 := pp_jmp ej1 h
    clear h h2
    refine lv_iconst (v := 0) hx hb dX1_isPlayer_25 (by decide) ?_
    exact cc_iret X hr hlk rfl G (Option.some.inj h3) rfl hQ dX1_isPlayer_26
  refine lv_if_lt (tgt := 25) hx hb dX1_isPlayer_1 (by decide) (fun c4 => ?_) (fun c4 => ?_)
  · have h5 := pp_t c4 h2
    clear h2
    exact hj1 _ H locs ls h5 G (lv_sub hl [] rfl)
  · have h6 := pp_f c4 h2
    clear h2
    refine lv_iload_n hx hb dX1_isPlayer_4 rfl (lv_at hl 1 rfl) ?_
    refine lv_aload_n hx hb dX1_isPlayer_5 rfl (lv_at hl 0 rfl) ?_
    refine cc_get (co_crt g q hk) X G (x := x) rfl hin1 1 (by decide) hf44 (v := .int (x.1.1 1)) rfl dX1_isPlayer_6 ?_
    refine lv_icmp_ge (tgt := 25) hx hb dX1_isPlayer_9 (by decide) (fun c7 => ?_) (fun c7 => ?_)
    · have h8 := pp_t c7 h6
      clear h6
      exact hj1 _ H locs ls h8 G (lv_sub hl [] rfl)
    · have h9 := pp_f c7 h6
      clear h6
      refine lv_iload_n hx hb dX1_isPlayer_12 rfl (lv_at hl 1 rfl) ?_
      refine lv_aload_n hx hb dX1_isPlayer_13 rfl (lv_at hl 0 rfl) ?_
      refine cc_get (co_crt g q hk) X G (x := x) rfl hin1 0 (by decide) hf11 (v := .ref (cc_ad g (10 + 20 * k + 1))) rfl dX1_isPlayer_14 ?_
      refine cc_plen hk X G rfl dX1_isPlayer_17 ?_
      refine lv_icmp_ge (tgt := 25) hx hb dX1_isPlayer_18 (by decide) (fun c10 => ?_) (fun c10 => ?_)
      · have h11 := pp_t c10 h9
        clear h9
        exact hj1 _ H locs ls h11 G (lv_sub hl [] rfl)
      · have h12 := pp_f c10 h9
        clear h9
        refine lv_iconst (v := 1) hx hb dX1_isPlayer_21 (by decide) ?_
        refine lv_goto (tgt := 26) hx hb dX1_isPlayer_22 (by decide) ?_
        exact cc_iret X hr hlk rfl G (Option.some.inj h12) rfl hQ dX1_isPlayer_26
noncomputable def K_inBits (x : cc_CT) : Option Int32 := some (((cc_gS x 0).1 0) ||| ((cc_gS x 1).1 0))
abbrev rmX1_inBits : Room := { frames := 0, cells := 0, slots := 0, locals := 0 }
set_option maxHeartbeats 4000000 in
set_option maxRecDepth 100000 in
theorem ctX1_inBits (l : Launch) (g : cc_G) (pls : va_W) (q : cc_S) {k : Nat} (hk : k < 3) (x : cc_CT) {res : Int32} (h : K_inBits x = some res) : cc_Mi l yX1_inBits wsX1_inBits rmX1_inBits g pls [.ref (cc_ad g (10 + 20 * k))] (cc_pC q k x) res (cc_pC q k x) := by
  intro sz A hA
  unfold K_inBits at h
  refine cc_ofW hA (own := RX1) (by decide) rfl rfl (Nat.le_of_ble_eq_true rfl) ?_
  intro p e s m args below meth c ls X hr hlk G hl Q hQ
  have hx := X.1.1
  have hb := X.1.2.1
  have hown := X.1.2.2.2.1
  have hts := X.1.2.2.2.2
  refine (fun (key : ∀ (H : Heap) (locs : List Loc), cc_H g A pls (cc_pC q k x) s H locs → W p l e (headSpec wsX1_inBits rmX1_inBits).room s m args below meth c H locs 0 0 Q (F0 m 0 ls [])) => key _ _ G) ?_
  clear G
  intro H locs G
  have hl : lv_has ls 1 [(0, .ref (cc_ad g (10 + 20 * k)))] := hl
  have hf20 : Cond.fieldLink RX1 20 (TX1 2).1 (TX1 2).2.1 (TX1 2).2.2.1 ∈ wsX1_inBits := by decide +kernel
  have hf24 : Cond.fieldLink RX1 24 (TX1 3).1 (TX1 3).2.1 (TX1 3).2.2.1 ∈ wsX1_inBits := by decide +kernel
  have hin1 : ∀ y ∈ wsX10, y ∈ wsX1_inBits := (fun _ z => List.mem_cons_of_mem _ (List.mem_append_left _ (List.mem_append_right _ z)))
  have hin6 : ∀ y ∈ wsX60, y ∈ wsX1_inBits := (fun _ z => List.mem_cons_of_mem _ (List.mem_append_right _ z))
  refine lv_aload_n hx hb dX1_inBits_0 rfl (lv_at hl 0 rfl) ?_
  refine cc_get (co_crt g q hk) X G (x := x) rfl hin1 2 (by decide) hf20 (v := .ref (cc_ad g (cs_id k 0))) rfl dX1_inBits_1 ?_
  refine cc_getN (co_side g q hk (sd := 0) (by decide)) X G (x := x) rfl hin6 0 (by decide) (by decide +kernel) (v := .int ((cc_gS x 0).1 0)) rfl dX1_inBits_4 ?_
  refine lv_aload_n hx hb dX1_inBits_7 rfl (lv_at hl 0 rfl) ?_
  refine cc_get (co_crt g q hk) X G (x := x) rfl hin1 3 (by decide) hf24 (v := .ref (cc_ad g (cs_id k 1))) rfl dX1_inBits_8 ?_
  refine cc_getN (co_side g q hk (sd := 1) (by decide)) X G (x := x) rfl hin6 0 (by decide) (by decide +kernel) (v := .int ((cc_gS x 1).1 0)) rfl dX1_inBits_11 ?_
  refine lv_ior hx hb dX1_inBits_14 ?_
  exact cc_iret X hr hlk rfl G (Option.some.inj h) rfl hQ dX1_inBits_15
noncomputable def K_isIn (x : cc_CT) (v1 : Int32) : Option Int32 := pp_ob (K_isPlayer x v1) (fun r1 => pp_lj (fun (a3 : Unit) => (some (0 : Int32) : Option Int32)) (fun j3 => (if r1 = (0 : Int32) then j3 () else pp_ob (K_inBits x) (fun r9 => (if ((r9 >>> (v1 &&& 31)) &&& (1 : Int32)) = (1 : Int32) then some (1 : Int32) else j3 ())))))
abbrev rmX1_isIn : Room := { frames := 1, cells := 0, slots := 0, locals := 21 }
set_option maxHeartbeats 4000000 in
set_option maxRecDepth 100000 in
theorem ctX1_isIn (l : Launch) (g : cc_G) (pls : va_W) (q : cc_S) {k : Nat} (hk : k < 3) (x : cc_CT) (v1 : Int32) {res : Int32} (h : K_isIn x v1 = some res) : cc_Mi l yX1_isIn wsX1_isIn rmX1_isIn g pls [.ref (cc_ad g (10 + 20 * k)), .int v1] (cc_pC q k x) res (cc_pC q k x) := by
  intro sz A hA
  unfold K_isIn at h
  refine cc_ofW hA (own := RX1) (by decide) rfl rfl (Nat.le_of_ble_eq_true rfl) ?_
  intro p e s m args below meth c ls X hr hlk G hl Q hQ
  have hx := X.1.1
  have hb := X.1.2.1
  have hown := X.1.2.2.2.1
  have hts := X.1.2.2.2.2
  refine (fun (key : ∀ (H : Heap) (locs : List Loc), cc_H g A pls (cc_pC q k x) s H locs → W p l e (headSpec wsX1_isIn rmX1_isIn).room s m args below meth c H locs 0 0 Q (F0 m 0 ls [])) => key _ _ G) ?_
  clear G
  intro H locs G
  have hl : lv_has ls 2 [(0, .ref (cc_ad g (10 + 20 * k))), (1, .int v1)] := hl
  refine lv_aload_n hx hb dX1_isIn_0 rfl (lv_at hl 0 rfl) ?_
  refine lv_iload_n hx hb dX1_isIn_1 rfl (lv_at hl 1 rfl) ?_
  obtain ⟨r1, hc1, h2⟩ := pp_ob_ex h
  clear h
  refine cc_cali (q2 := (cc_pC q k x)) rfl rfl (co_crt g q hk) X G (x := x) rfl (ctX1_isPlayer l g pls q hk x _ hc1) (cwV 1 hts gX1_isIn_X1_isPlayer rfl rfl rfl (by decide +kernel) ⟨Nat.le_of_ble_eq_true rfl, Nat.le_of_ble_eq_true rfl⟩) (rest := []) rfl hl.1 rfl (Nat.le_of_ble_eq_true rfl) dX1_isIn_2 (fun H locs G => ?_)
  obtain ⟨j3, ej3, h4⟩ := pp_lj_ex h2
  clear h2
  have hj3 : ∀ (a3 : Unit) (H : Heap) (locs : List Loc) (ls : Array Slot), j3 a3 = some res → cc_H g A pls (cc_pC q k x) s H locs → lv_has ls 2 [] → W p l e (headSpec wsX1_isIn rmX1_isIn).room s m args below meth c H locs 0 0 Q (F0 m 24 ls []) := by
    intro a3 H locs ls h G hl
    have h5 := pp_jmp ej3 h
    clear h h4
    refine lv_iconst (v := 0) hx hb dX1_isIn_24 (by decide) ?_
    exact cc_iret X hr hlk rfl G (Option.some.inj h5) rfl hQ dX1_isIn_25
  refine lv_if_eq (tgt := 24) hx hb dX1_isIn_5 (by decide) (fun c6 => ?_) (fun c6 => ?_)
  · have h7 := pp_t c6 h4
    clear h4
    exact hj3 _ H locs ls h7 G (lv_sub hl [] rfl)
  · have h8 := pp_f c6 h4
    clear h4
    refine lv_aload_n hx hb dX1_isIn_8 rfl (lv_at hl 0 rfl) ?_
    obtain ⟨r9, hc9, h10⟩ := pp_ob_ex h8
    clear h8
    refine cc_cali (q2 := (cc_pC q k x)) rfl rfl (co_crt g q hk) X G (x := x) rfl (ctX1_inBits l g pls q hk x hc9) (cwV 0 hts gX1_isIn_X1_inBits rfl rfl rfl (by decide +kernel) ⟨Nat.le_of_ble_eq_true rfl, Nat.le_of_ble_eq_true rfl⟩) (rest := []) rfl hl.1 rfl (Nat.le_of_ble_eq_true rfl) dX1_isIn_9 (fun H locs G => ?_)
    refine lv_iload_n hx hb dX1_isIn_12 rfl (lv_at hl 1 rfl) ?_
    refine lv_ishr hx hb dX1_isIn_13 ?_
    refine lv_iconst (v := 1) hx hb dX1_isIn_14 (by decide) ?_
    refine lv_iand hx hb dX1_isIn_15 ?_
    refine lv_iconst (v := 1) hx hb dX1_isIn_16 (by decide) ?_
    refine lv_icmp_ne (tgt := 24) hx hb dX1_isIn_17 (by decide) (fun c11 => ?_) (fun c11 => ?_)
    · have h12 := pp_f c11 h10
      clear h10
      exact hj3 _ H locs ls h12 G (lv_sub hl [] rfl)
    · have h13 := pp_t c11 h10
      clear h10
      refine lv_iconst (v := 1) hx hb dX1_isIn_20 (by decide) ?_
      refine lv_goto (tgt := 25) hx hb dX1_isIn_21 (by decide) ?_
      exact cc_iret X hr hlk rfl G (Option.some.inj h13) rfl hQ dX1_isIn_25
noncomputable def K_sideAt (x : cc_CT) (v1 : Int32) : Option Nat := (if v1 = (0 : Int32) then some (0 : Nat) else some (1 : Nat))
abbrev rmX1_sideAt : Room := { frames := 0, cells := 0, slots := 0, locals := 0 }
set_option maxHeartbeats 4000000 in
set_option maxRecDepth 100000 in
theorem ctX1_sideAt (l : Launch) (g : cc_G) (pls : va_W) (q : cc_S) {k : Nat} (hk : k < 3) (x : cc_CT) (v1 : Int32) {res : Nat} (h : K_sideAt x v1 = some res) : cc_Mo l yX1_sideAt wsX1_sideAt rmX1_sideAt g pls [.ref (cc_ad g (10 + 20 * k)), .int v1] (cc_pC q k x) (cc_ad g (cs_id k res)) (cc_pC q k x) := by
  intro sz A hA
  unfold K_sideAt at h
  refine cc_ofW hA (own := RX1) (by decide) rfl rfl (Nat.le_of_ble_eq_true rfl) ?_
  intro p e s m args below meth c ls X hr hlk G hl Q hQ
  have hx := X.1.1
  have hb := X.1.2.1
  have hown := X.1.2.2.2.1
  have hts := X.1.2.2.2.2
  refine (fun (key : ∀ (H : Heap) (locs : List Loc), cc_H g A pls (cc_pC q k x) s H locs → W p l e (headSpec wsX1_sideAt rmX1_sideAt).room s m args below meth c H locs 0 0 Q (F0 m 0 ls [])) => key _ _ G) ?_
  clear G
  intro H locs G
  have hl : lv_has ls 2 [(0, .ref (cc_ad g (10 + 20 * k))), (1, .int v1)] := hl
  have hf20 : Cond.fieldLink RX1 20 (TX1 2).1 (TX1 2).2.1 (TX1 2).2.2.1 ∈ wsX1_sideAt := by decide +kernel
  have hf24 : Cond.fieldLink RX1 24 (TX1 3).1 (TX1 3).2.1 (TX1 3).2.2.1 ∈ wsX1_sideAt := by decide +kernel
  have hin1 : ∀ y ∈ wsX10, y ∈ wsX1_sideAt := (fun _ z => List.mem_cons_of_mem _ (List.mem_append_right _ z))
  refine lv_iload_n hx hb dX1_sideAt_0 rfl (lv_at hl 1 rfl) ?_
  refine lv_if_ne (tgt := 11) hx hb dX1_sideAt_1 (by decide) (fun c1 => ?_) (fun c1 => ?_)
  · have h2 := pp_f c1 h
    clear h
    refine lv_aload_n hx hb dX1_sideAt_11 rfl (lv_at hl 0 rfl) ?_
    refine cc_get (co_crt g q hk) X G (x := x) rfl hin1 3 (by decide) hf24 (v := .ref (cc_ad g (cs_id k 1))) rfl dX1_sideAt_12 ?_
    exact cc_oret X hr ⟨_, rfl⟩ hlk G (congrArg (fun z => cc_ad g (cs_id k z)) (Option.some.inj h2)) rfl hQ dX1_sideAt_15
  · have h3 := pp_t c1 h
    clear h
    refine lv_aload_n hx hb dX1_sideAt_4 rfl (lv_at hl 0 rfl) ?_
    refine cc_get (co_crt g q hk) X G (x := x) rfl hin1 2 (by decide) hf20 (v := .ref (cc_ad g (cs_id k 0))) rfl dX1_sideAt_5 ?_
    refine lv_goto (tgt := 15) hx hb dX1_sideAt_8 (by decide) ?_
    exact cc_oret X hr ⟨_, rfl⟩ hlk G (congrArg (fun z => cc_ad g (cs_id k z)) (Option.some.inj h3)) rfl hQ dX1_sideAt_15
noncomputable def K_sideOf (x : cc_CT) (v1 : Int32) : Option Int32 := pp_ob (K_isPlayer x v1) (fun r1 => (if r1 = (0 : Int32) then some (-9 : Int32) else pp_ix v1 8 (some ((x.2.2 (Int32.toNatClampNeg v1)).2 1))))
abbrev rmX1_sideOf : Room := { frames := 1, cells := 0, slots := 0, locals := 21 }
set_option maxHeartbeats 4000000 in
set_option maxRecDepth 100000 in
theorem ctX1_sideOf (l : Launch) (g : cc_G) (pls : va_W) (q : cc_S) {k : Nat} (hk : k < 3) (x : cc_CT) (v1 : Int32) {res : Int32} (h : K_sideOf x v1 = some res) : cc_Mi l yX1_sideOf wsX1_sideOf rmX1_sideOf g pls [.ref (cc_ad g (10 + 20 * k)), .int v1] (cc_pC q k x) res (cc_pC q k x) := by
  intro sz A hA
  unfold K_sideOf at h
  refine cc_ofW hA (own := RX1) (by decide) rfl rfl (Nat.le_of_ble_eq_true rfl) ?_
  intro p e s m args below meth c ls X hr hlk G hl Q hQ
  have hx := X.1.1
  have hb := X.1.2.1
  have hown := X.1.2.2.2.1
  have hts := X.1.2.2.2.2
  refine (fun (key : ∀ (H : Heap) (locs : List Loc), cc_H g A pls (cc_pC q k x) s H locs → W p l e (headSpec wsX1_sideOf rmX1_sideOf).room s m args below meth c H locs 0 0 Q (F0 m 0 ls [])) => key _ _ G) ?_
  clear G
  intro H locs G
  have hl : lv_has ls 2 [(0, .ref (cc_ad g (10 + 20 * k))), (1, .int v1)] := hl
  have hf11 : Cond.fieldLink RX1 11 (TX1 0).1 (TX1 0).2.1 (TX1 0).2.2.1 ∈ wsX1_sideOf := by decide +kernel
  have hin1 : ∀ y ∈ wsX10, y ∈ wsX1_sideOf := (fun _ z => List.mem_cons_of_mem _ (List.mem_append_left _ (List.mem_append_left _ (List.mem_append_left _ (List.mem_append_left _ (List.mem_append_left _ (List.mem_append_left _ (List.mem_append_right _ z))))))))
  have hpw : cc_pW wsX1_sideOf := ⟨(fun _ z => List.mem_cons_of_mem _ (List.mem_append_left _ (List.mem_append_left _ (List.mem_append_left _ (List.mem_append_left _ (List.mem_append_left _ (List.mem_append_right _ z))))))), (fun _ z => List.mem_cons_of_mem _ (List.mem_append_left _ (List.mem_append_left _ (List.mem_append_left _ (List.mem_append_left _ (List.mem_append_right _ z)))))), (fun _ z => List.mem_cons_of_mem _ (List.mem_append_left _ (List.mem_append_left _ (List.mem_append_left _ (List.mem_append_right _ z))))), (fun _ z => List.mem_cons_of_mem _ (List.mem_append_left _ (List.mem_append_left _ (List.mem_append_right _ z)))), (fun _ z => List.mem_cons_of_mem _ (List.mem_append_left _ (List.mem_append_right _ z))), (fun _ z => List.mem_cons_of_mem _ (List.mem_append_right _ z))⟩
  refine lv_aload_n hx hb dX1_sideOf_0 rfl (lv_at hl 0 rfl) ?_
  refine lv_iload_n hx hb dX1_sideOf_1 rfl (lv_at hl 1 rfl) ?_
  obtain ⟨r1, hc1, h2⟩ := pp_ob_ex h
  clear h
  refine cc_cali (q2 := (cc_pC q k x)) rfl rfl (co_crt g q hk) X G (x := x) rfl (ctX1_isPlayer l g pls q hk x _ hc1) (cwV 1 hts gX1_sideOf_X1_isPlayer rfl rfl rfl (by decide +kernel) ⟨Nat.le_of_ble_eq_true rfl, Nat.le_of_ble_eq_true rfl⟩) (rest := []) rfl hl.1 rfl (Nat.le_of_ble_eq_true rfl) dX1_sideOf_2 (fun H locs G => ?_)
  refine lv_if_eq (tgt := 20) hx hb dX1_sideOf_5 (by decide) (fun c3 => ?_) (fun c3 => ?_)
  · have h4 := pp_t c3 h2
    clear h2
    refine lv_bipush (v := -9) hx hb dX1_sideOf_20 (by decide) ?_
    exact cc_iret X hr hlk rfl G (Option.some.inj h4) rfl hQ dX1_sideOf_22
  · have h5 := pp_f c3 h2
    clear h2
    refine lv_aload_n hx hb dX1_sideOf_8 rfl (lv_at hl 0 rfl) ?_
    refine cc_get (co_crt g q hk) X G (x := x) rfl hin1 0 (by decide) hf11 (v := .ref (cc_ad g (10 + 20 * k + 1))) rfl dX1_sideOf_9 ?_
    refine lv_iload_n hx hb dX1_sideOf_12 rfl (lv_at hl 1 rfl) ?_
    obtain ⟨hi6, h7⟩ := pp_ix_ex h5
    clear h5
    refine cc_aald hk X G hi6 dX1_sideOf_13 (fun a8 hm8 => ?_)
    refine cc_getP hm8 X G hpw 1 (by decide) (by decide +kernel) (v := .int ((x.2.2 (Int32.toNatClampNeg v1)).2 1)) rfl dX1_sideOf_14 ?_
    refine lv_goto (tgt := 22) hx hb dX1_sideOf_17 (by decide) ?_
    exact cc_iret X hr hlk rfl G (Option.some.inj h7) rfl hQ dX1_sideOf_22
noncomputable def K_kindOf (x : cc_CT) (v1 : Int32) : Option Int32 := pp_ob (K_isPlayer x v1) (fun r1 => (if r1 = (0 : Int32) then some (-9 : Int32) else pp_ix v1 8 (some ((x.2.2 (Int32.toNatClampNeg v1)).2 0))))
abbrev rmX1_kindOf : Room := { frames := 1, cells := 0, slots := 0, locals := 21 }
set_option maxHeartbeats 4000000 in
set_option maxRecDepth 100000 in
theorem ctX1_kindOf (l : Launch) (g : cc_G) (pls : va_W) (q : cc_S) {k : Nat} (hk : k < 3) (x : cc_CT) (v1 : Int32) {res : Int32} (h : K_kindOf x v1 = some res) : cc_Mi l yX1_kindOf wsX1_kindOf rmX1_kindOf g pls [.ref (cc_ad g (10 + 20 * k)), .int v1] (cc_pC q k x) res (cc_pC q k x) := by
  intro sz A hA
  unfold K_kindOf at h
  refine cc_ofW hA (own := RX1) (by decide) rfl rfl (Nat.le_of_ble_eq_true rfl) ?_
  intro p e s m args below meth c ls X hr hlk G hl Q hQ
  have hx := X.1.1
  have hb := X.1.2.1
  have hown := X.1.2.2.2.1
  have hts := X.1.2.2.2.2
  refine (fun (key : ∀ (H : Heap) (locs : List Loc), cc_H g A pls (cc_pC q k x) s H locs → W p l e (headSpec wsX1_kindOf rmX1_kindOf).room s m args below meth c H locs 0 0 Q (F0 m 0 ls [])) => key _ _ G) ?_
  clear G
  intro H locs G
  have hl : lv_has ls 2 [(0, .ref (cc_ad g (10 + 20 * k))), (1, .int v1)] := hl
  have hf11 : Cond.fieldLink RX1 11 (TX1 0).1 (TX1 0).2.1 (TX1 0).2.2.1 ∈ wsX1_kindOf := by decide +kernel
  have hin1 : ∀ y ∈ wsX10, y ∈ wsX1_kindOf := (fun _ z => List.mem_cons_of_mem _ (List.mem_append_left _ (List.mem_append_left _ (List.mem_append_left _ (List.mem_append_left _ (List.mem_append_left _ (List.mem_append_left _ (List.mem_append_right _ z))))))))
  have hpw : cc_pW wsX1_kindOf := ⟨(fun _ z => List.mem_cons_of_mem _ (List.mem_append_left _ (List.mem_append_left _ (List.mem_append_left _ (List.mem_append_left _ (List.mem_append_left _ (List.mem_append_right _ z))))))), (fun _ z => List.mem_cons_of_mem _ (List.mem_append_left _ (List.mem_append_left _ (List.mem_append_left _ (List.mem_append_left _ (List.mem_append_right _ z)))))), (fun _ z => List.mem_cons_of_mem _ (List.mem_append_left _ (List.mem_append_left _ (List.mem_append_left _ (List.mem_append_right _ z))))), (fun _ z => List.mem_cons_of_mem _ (List.mem_append_left _ (List.mem_append_left _ (List.mem_append_right _ z)))), (fun _ z => List.mem_cons_of_mem _ (List.mem_append_left _ (List.mem_append_right _ z))), (fun _ z => List.mem_cons_of_mem _ (List.mem_append_right _ z))⟩
  refine lv_aload_n hx hb dX1_kindOf_0 rfl (lv_at hl 0 rfl) ?_
  refine lv_iload_n hx hb dX1_kindOf_1 rfl (lv_at hl 1 rfl) ?_
  obtain ⟨r1, hc1, h2⟩ := pp_ob_ex h
  clear h
  refine cc_cali (q2 := (cc_pC q k x)) rfl rfl (co_crt g q hk) X G (x := x) rfl (ctX1_isPlayer l g pls q hk x _ hc1) (cwV 1 hts gX1_kindOf_X1_isPlayer rfl rfl rfl (by decide +kernel) ⟨Nat.le_of_ble_eq_true rfl, Nat.le_of_ble_eq_true rfl⟩) (rest := []) rfl hl.1 rfl (Nat.le_of_ble_eq_true rfl) dX1_kindOf_2 (fun H locs G => ?_)
  refine lv_if_eq (tgt := 20) hx hb dX1_kindOf_5 (by decide) (fun c3 => ?_) (fun c3 => ?_)
  · have h4 := pp_t c3 h2
    clear h2
    refine lv_bipush (v := -9) hx hb dX1_kindOf_20 (by decide) ?_
    exact cc_iret X hr hlk rfl G (Option.some.inj h4) rfl hQ dX1_kindOf_22
  · have h5 := pp_f c3 h2
    clear h2
    refine lv_aload_n hx hb dX1_kindOf_8 rfl (lv_at hl 0 rfl) ?_
    refine cc_get (co_crt g q hk) X G (x := x) rfl hin1 0 (by decide) hf11 (v := .ref (cc_ad g (10 + 20 * k + 1))) rfl dX1_kindOf_9 ?_
    refine lv_iload_n hx hb dX1_kindOf_12 rfl (lv_at hl 1 rfl) ?_
    obtain ⟨hi6, h7⟩ := pp_ix_ex h5
    clear h5
    refine cc_aald hk X G hi6 dX1_kindOf_13 (fun a8 hm8 => ?_)
    refine cc_getP hm8 X G hpw 0 (by decide) (by decide +kernel) (v := .int ((x.2.2 (Int32.toNatClampNeg v1)).2 0)) rfl dX1_kindOf_14 ?_
    refine lv_goto (tgt := 22) hx hb dX1_kindOf_17 (by decide) ?_
    exact cc_iret X hr hlk rfl G (Option.some.inj h7) rfl hQ dX1_kindOf_22
noncomputable def P4_aim (d : cc_PD) (v1 : Int32) : Option Int32 := some (d.2 2)
abbrev rmX4_aim : Room := { frames := 0, cells := 0, slots := 0, locals := 0 }
set_option maxHeartbeats 4000000 in
set_option maxRecDepth 100000 in
theorem ctX4_aim (l : Launch) (D : va_G) (a : Nat) (d : cc_PD) (hci : cc_isP d.1) (v1 : Int32) {res : Int32} (h : P4_aim d v1 = some res) : cp_Mi l yX4_aim wsX4_aim rmX4_aim D [.ref a, .int v1] a d res := by
  intro sz
  unfold P4_aim at h
  refine cp_ofW hci ⟨(fun _ z => List.mem_cons_of_mem _ (List.mem_append_left _ (List.mem_append_left _ (List.mem_append_left _ (List.mem_append_left _ (List.mem_append_left _ (List.mem_append_right _ z))))))), (fun _ z => List.mem_cons_of_mem _ (List.mem_append_left _ (List.mem_append_left _ (List.mem_append_left _ (List.mem_append_left _ (List.mem_append_right _ z)))))), (fun _ z => List.mem_cons_of_mem _ (List.mem_append_left _ (List.mem_append_left _ (List.mem_append_left _ (List.mem_append_right _ z))))), (fun _ z => List.mem_cons_of_mem _ (List.mem_append_left _ (List.mem_append_left _ (List.mem_append_right _ z)))), (fun _ z => List.mem_cons_of_mem _ (List.mem_append_left _ (List.mem_append_right _ z))), (fun _ z => List.mem_cons_of_mem _ (List.mem_append_right _ z))⟩ (own := RX4) (by decide) rfl rfl (Nat.le_of_ble_eq_true rfl) ?_
  intro p e s m args below meth c ls X hr hlk G hl Q hQ
  have hx := X.1.1
  have hb := X.1.2.1
  have hown := X.1.2.2.2.1
  have hts := X.1.2.2.2.2
  refine (fun (key : ∀ (H : Heap) (locs : List Loc), cp_H D a d s H locs → W p l e (headSpec wsX4_aim rmX4_aim).room s m args below meth c H locs 0 0 Q (F0 m 0 ls [])) => key _ _ G) ?_
  clear G
  intro H locs G
  have hl : lv_has ls 2 [(0, .ref a), (1, .int v1)] := hl
  have hf16 : Cond.fieldLink RX4 16 (TX4 2).1 (TX4 2).2.1 (TX4 2).2.2.1 ∈ wsX4_aim := by decide +kernel
  refine lv_aload_n hx hb dX4_aim_0 rfl (lv_at hl 0 rfl) ?_
  refine cp_getf X G 2 (by decide) hf16 (v := .int (d.2 2)) rfl dX4_aim_1 ?_
  exact cp_iret X hr hlk rfl G h hQ dX4_aim_4
noncomputable def P8_aim (d : cc_PD) (v1 : Int32) : Option Int32 := pp_ob (P4_aim d v1) (fun r1 => some (if (0 : Int32) < (r1 - (v1 / (10 : Int32))) then (r1 - (v1 / (10 : Int32))) else (0 : Int32)))
abbrev rmX8_aim : Room := { frames := 1, cells := 0, slots := 0, locals := 21 }
set_option maxHeartbeats 4000000 in
set_option maxRecDepth 100000 in
theorem ctX8_aim (l : Launch) (D : va_G) (a : Nat) (d : cc_PD) (hci : cc_isP d.1) (v1 : Int32) {res : Int32} (h : P8_aim d v1 = some res) : cp_Mi l yX8_aim wsX8_aim rmX8_aim D [.ref a, .int v1] a d res := by
  intro sz
  unfold P8_aim at h
  refine cp_ofW hci ⟨(fun _ z => List.mem_cons_of_mem _ (List.mem_append_left _ (List.mem_append_left _ (List.mem_append_left _ (List.mem_append_left _ (List.mem_append_left _ (List.mem_append_right _ z))))))), (fun _ z => List.mem_cons_of_mem _ (List.mem_append_left _ (List.mem_append_left _ (List.mem_append_left _ (List.mem_append_left _ (List.mem_append_right _ z)))))), (fun _ z => List.mem_cons_of_mem _ (List.mem_append_left _ (List.mem_append_left _ (List.mem_append_left _ (List.mem_append_right _ z))))), (fun _ z => List.mem_cons_of_mem _ (List.mem_append_left _ (List.mem_append_left _ (List.mem_append_right _ z)))), (fun _ z => List.mem_cons_of_mem _ (List.mem_append_left _ (List.mem_append_right _ z))), (fun _ z => List.mem_cons_of_mem _ (List.mem_append_right _ z))⟩ (own := RX8) (by decide) rfl rfl (Nat.le_of_ble_eq_true rfl) ?_
  intro p e s m args below meth c ls X hr hlk G hl Q hQ
  have hx := X.1.1
  have hb := X.1.2.1
  have hown := X.1.2.2.2.1
  have hts := X.1.2.2.2.2
  refine (fun (key : ∀ (H : Heap) (locs : List Loc), cp_H D a d s H locs → W p l e (headSpec wsX8_aim rmX8_aim).room s m args below meth c H locs 0 0 Q (F0 m 0 ls [])) => key _ _ G) ?_
  clear G
  intro H locs G
  have hl : lv_has ls 2 [(0, .ref a), (1, .int v1)] := hl
  refine lv_iconst (v := 0) hx hb dX8_aim_0 (by decide) ?_
  refine lv_aload_n hx hb dX8_aim_1 rfl (lv_at hl 0 rfl) ?_
  refine lv_iload_n hx hb dX8_aim_2 rfl (lv_at hl 1 rfl) ?_
  obtain ⟨r1, hc1, h2⟩ := pp_ob_ex h
  clear h
  refine cp_super X G (ctX4_aim l D a d X.2.2.1 _ hc1) (va_cwSU 1 hts gX8_aim_X4_aim_s7 rfl rfl rfl (by decide +kernel) ⟨Nat.le_of_ble_eq_true rfl, Nat.le_of_ble_eq_true rfl⟩) (rest := [.int (0 : Int32)]) rfl hl.1 rfl (Nat.le_of_ble_eq_true rfl) dX8_aim_3 (fun H locs G => ?_)
  refine lv_iload_n hx hb dX8_aim_6 rfl (lv_at hl 1 rfl) ?_
  refine lv_bipush (v := 10) hx hb dX8_aim_7 (by decide) ?_
  refine lv_idiv hx hb dX8_aim_9 (by decide) ?_
  refine lv_isub hx hb dX8_aim_10 ?_
  refine va_mmax hx hb (X.1.2.2.1.trans hl.1.symm) hown (hts (.methodLink RX8 11 Lib.Math.max.name) (by decide +kernel)) (hts (.static Lib.Math.max.name) (by decide +kernel)) (hts (.initialized "java/lang/Math") (by decide +kernel)) (hts (.code Lib.Math.max.name Lib.Math.max.code 2 (some .int)) (by decide +kernel)) (Nat.le_of_ble_eq_true rfl) (Nat.le_of_ble_eq_true rfl) (Nat.zero_le _) (Nat.zero_le _) dX8_aim_11 ?_
  exact cp_iret X hr hlk rfl G h2 hQ dX8_aim_14
noncomputable def Cl_aim (d : cc_PD) (v : Int32) : Option Int32 := if d.1 = 8 then P8_aim d v else P4_aim d v
noncomputable def K_aimOf (x : cc_CT) (v1 : Int32) : Option Int32 := pp_ob (K_isPlayer x v1) (fun r1 => (if r1 = (0 : Int32) then some (0 : Int32) else pp_ix v1 8 (pp_ob (Cl_aim (x.2.2 (Int32.toNatClampNeg v1)) (x.1.1 7)) (fun r9 => some r9))))
abbrev rmX1_aimOf : Room := { frames := 2, cells := 0, slots := 0, locals := 42 }
set_option maxHeartbeats 4000000 in
set_option maxRecDepth 100000 in
theorem ctX1_aimOf (l : Launch) (g : cc_G) (pls : va_W) (q : cc_S) {k : Nat} (hk : k < 3) (x : cc_CT) (v1 : Int32) {res : Int32} (h : K_aimOf x v1 = some res) : cc_Mi l yX1_aimOf wsX1_aimOf rmX1_aimOf g pls [.ref (cc_ad g (10 + 20 * k)), .int v1] (cc_pC q k x) res (cc_pC q k x) := by
  intro sz A hA
  unfold K_aimOf at h
  refine cc_ofW hA (own := RX1) (by decide) rfl rfl (Nat.le_of_ble_eq_true rfl) ?_
  intro p e s m args below meth c ls X hr hlk G hl Q hQ
  have hx := X.1.1
  have hb := X.1.2.1
  have hown := X.1.2.2.2.1
  have hts := X.1.2.2.2.2
  refine (fun (key : ∀ (H : Heap) (locs : List Loc), cc_H g A pls (cc_pC q k x) s H locs → W p l e (headSpec wsX1_aimOf rmX1_aimOf).room s m args below meth c H locs 0 0 Q (F0 m 0 ls [])) => key _ _ G) ?_
  clear G
  intro H locs G
  have hl : lv_has ls 2 [(0, .ref (cc_ad g (10 + 20 * k))), (1, .int v1)] := hl
  have hf11 : Cond.fieldLink RX1 11 (TX1 0).1 (TX1 0).2.1 (TX1 0).2.2.1 ∈ wsX1_aimOf := by decide +kernel
  have hf58 : Cond.fieldLink RX1 58 (TX1 7).1 (TX1 7).2.1 (TX1 7).2.2.1 ∈ wsX1_aimOf := by decide +kernel
  have hin1 : ∀ y ∈ wsX10, y ∈ wsX1_aimOf := (fun _ z => List.mem_cons_of_mem _ (List.mem_append_left _ (List.mem_append_left _ (List.mem_append_left _ (List.mem_append_left _ (List.mem_append_left _ (List.mem_append_left _ (List.mem_append_right _ z))))))))
  refine lv_aload_n hx hb dX1_aimOf_0 rfl (lv_at hl 0 rfl) ?_
  refine lv_iload_n hx hb dX1_aimOf_1 rfl (lv_at hl 1 rfl) ?_
  obtain ⟨r1, hc1, h2⟩ := pp_ob_ex h
  clear h
  refine cc_cali (q2 := (cc_pC q k x)) rfl rfl (co_crt g q hk) X G (x := x) rfl (ctX1_isPlayer l g pls q hk x _ hc1) (cwV 1 hts gX1_aimOf_X1_isPlayer rfl rfl rfl (by decide +kernel) ⟨Nat.le_of_ble_eq_true rfl, Nat.le_of_ble_eq_true rfl⟩) (rest := []) rfl hl.1 rfl (Nat.le_of_ble_eq_true rfl) dX1_aimOf_2 (fun H locs G => ?_)
  refine lv_if_eq (tgt := 24) hx hb dX1_aimOf_5 (by decide) (fun c3 => ?_) (fun c3 => ?_)
  · have h4 := pp_t c3 h2
    clear h2
    refine lv_iconst (v := 0) hx hb dX1_aimOf_24 (by decide) ?_
    exact cc_iret X hr hlk rfl G (Option.some.inj h4) rfl hQ dX1_aimOf_25
  · have h5 := pp_f c3 h2
    clear h2
    refine lv_aload_n hx hb dX1_aimOf_8 rfl (lv_at hl 0 rfl) ?_
    refine cc_get (co_crt g q hk) X G (x := x) rfl hin1 0 (by decide) hf11 (v := .ref (cc_ad g (10 + 20 * k + 1))) rfl dX1_aimOf_9 ?_
    refine lv_iload_n hx hb dX1_aimOf_12 rfl (lv_at hl 1 rfl) ?_
    obtain ⟨hi6, h7⟩ := pp_ix_ex h5
    clear h5
    refine cc_aald hk X G hi6 dX1_aimOf_13 (fun a8 hm8 => ?_)
    refine lv_aload_n hx hb dX1_aimOf_14 rfl (lv_at hl 0 rfl) ?_
    refine cc_get (co_crt g q hk) X G (x := x) rfl hin1 7 (by decide) hf58 (v := .int (x.1.1 7)) rfl dX1_aimOf_15 ?_
    obtain ⟨r9, hc9, h10⟩ := pp_ob_ex h7
    clear h7
    have kk9 : ∀ (H : Heap) (locs : List Loc), cc_H g A pls (cc_pC q k x) s H locs → W p l e (headSpec wsX1_aimOf rmX1_aimOf).room s m args below meth c H locs 0 0 Q (F0 m 21 ls [.int r9]) := by
      intro H locs G
      refine lv_goto (tgt := 25) hx hb dX1_aimOf_21 (by decide) ?_
      exact cc_iret X hr hlk rfl G (Option.some.inj h10) rfl hQ dX1_aimOf_25
    rcases cc_cls (by obtain ⟨⟨_, hok, _, _⟩, _⟩ := G; exact hok.2) hm8 with e0 | e0 | e0 | e0 | e0 | e0
    · exact cc_calPU hm8 X G e0 (C := RX0) rfl (ctX4_aim l g.1 _ _ (cc_cls (by obtain ⟨⟨_, hok, _, _⟩, _⟩ := G; exact hok.2) hm8) _ (by have z := hc9; unfold Cl_aim at z; rw [if_neg (by rw [e0]; decide)] at z; exact z)) (va_cwU 1 hts gX1_aimOf_X4_aim_u78X0 rfl rfl rfl rfl (by decide +kernel) ⟨Nat.le_of_ble_eq_true rfl, Nat.le_of_ble_eq_true rfl⟩) (rest := []) rfl hl.1 rfl (Nat.le_of_ble_eq_true rfl) dX1_aimOf_18 kk9
    · exact cc_calPU hm8 X G e0 (C := RX3) rfl (ctX4_aim l g.1 _ _ (cc_cls (by obtain ⟨⟨_, hok, _, _⟩, _⟩ := G; exact hok.2) hm8) _ (by have z := hc9; unfold Cl_aim at z; rw [if_neg (by rw [e0]; decide)] at z; exact z)) (va_cwU 1 hts gX1_aimOf_X4_aim_u78X3 rfl rfl rfl rfl (by decide +kernel) ⟨Nat.le_of_ble_eq_true rfl, Nat.le_of_ble_eq_true rfl⟩) (rest := []) rfl hl.1 rfl (Nat.le_of_ble_eq_true rfl) dX1_aimOf_18 kk9
    · exact cc_calPV hm8 X G e0 (C := RX4) rfl (ctX4_aim l g.1 _ _ (cc_cls (by obtain ⟨⟨_, hok, _, _⟩, _⟩ := G; exact hok.2) hm8) _ (by have z := hc9; unfold Cl_aim at z; rw [if_neg (by rw [e0]; decide)] at z; exact z)) (cwV 1 hts gX1_aimOf_X4_aim rfl rfl rfl (by decide +kernel) ⟨Nat.le_of_ble_eq_true rfl, Nat.le_of_ble_eq_true rfl⟩) (rest := []) rfl hl.1 rfl (Nat.le_of_ble_eq_true rfl) dX1_aimOf_18 kk9
    · exact cc_calPU hm8 X G e0 (C := RX5) rfl (ctX4_aim l g.1 _ _ (cc_cls (by obtain ⟨⟨_, hok, _, _⟩, _⟩ := G; exact hok.2) hm8) _ (by have z := hc9; unfold Cl_aim at z; rw [if_neg (by rw [e0]; decide)] at z; exact z)) (va_cwU 1 hts gX1_aimOf_X4_aim_u78X5 rfl rfl rfl rfl (by decide +kernel) ⟨Nat.le_of_ble_eq_true rfl, Nat.le_of_ble_eq_true rfl⟩) (rest := []) rfl hl.1 rfl (Nat.le_of_ble_eq_true rfl) dX1_aimOf_18 kk9
    · exact cc_calPU hm8 X G e0 (C := RX8) rfl (ctX8_aim l g.1 _ _ (cc_cls (by obtain ⟨⟨_, hok, _, _⟩, _⟩ := G; exact hok.2) hm8) _ (by have z := hc9; unfold Cl_aim at z; rw [if_pos e0] at z; exact z)) (va_cwO 1 hts gX1_aimOf_X8_aim_u78X8 rfl rfl rfl (b0 := cX4_aim) (m0 := 2) (r0 := some .int) (by decide +kernel) (by decide +kernel) ⟨Nat.le_of_ble_eq_true rfl, Nat.le_of_ble_eq_true rfl⟩) (rest := []) rfl hl.1 rfl (Nat.le_of_ble_eq_true rfl) dX1_aimOf_18 kk9
    · exact cc_calPU hm8 X G e0 (C := RX9) rfl (ctX4_aim l g.1 _ _ (cc_cls (by obtain ⟨⟨_, hok, _, _⟩, _⟩ := G; exact hok.2) hm8) _ (by have z := hc9; unfold Cl_aim at z; rw [if_neg (by rw [e0]; decide)] at z; exact z)) (va_cwU 1 hts gX1_aimOf_X4_aim_u78X9 rfl rfl rfl rfl (by decide +kernel) ⟨Nat.le_of_ble_eq_true rfl, Nat.le_of_ble_eq_true rfl⟩) (rest := []) rfl hl.1 rfl (Nat.le_of_ble_eq_true rfl) dX1_aimOf_18 kk9
noncomputable def K_ballsOf (x : cc_CT) (v1 : Int32) : Option Int32 := pp_it (fun (self1 : Int32 × Int32 → Option Int32) (a1 : Int32 × Int32) => pp_lj (fun (a2 : Unit) => (some a1.1 : Option Int32)) (fun j2 => (if (6 : Int32) ≤ a1.2 then j2 () else pp_ob (K_isPlayer x v1) (fun r8 => (if r8 = (0 : Int32) then j2 () else pp_ix a1.2 6 (pp_lj (fun (a15 : Int32) => (pp_lj (a1.2 + 1 : Int32) (fun x18 => self1 (a15, x18)) : Option Int32)) (fun j15 => (if (x.1.2.1 4 (Int32.toNatClampNeg a1.2)) = v1 then pp_lj ((a1.1 ||| ((1 : Int32) <<< (a1.2 &&& 31))) : Int32) (fun x23 => j15 x23) else j15 a1.1)))))))) 200 ((0 : Int32), (0 : Int32))
abbrev rmX1_ballsOf : Room := { frames := 1, cells := 0, slots := 0, locals := 21 }
set_option maxHeartbeats 4000000 in
set_option maxRecDepth 100000 in
theorem ctX1_ballsOf (l : Launch) (g : cc_G) (pls : va_W) (q : cc_S) {k : Nat} (hk : k < 3) (x : cc_CT) (v1 : Int32) {res : Int32} (h : K_ballsOf x v1 = some res) : cc_Mi l yX1_ballsOf wsX1_ballsOf rmX1_ballsOf g pls [.ref (cc_ad g (10 + 20 * k)), .int v1] (cc_pC q k x) res (cc_pC q k x) := by
  intro sz A hA
  unfold K_ballsOf at h
  refine cc_ofW hA (own := RX1) (by decide) rfl rfl (Nat.le_of_ble_eq_true rfl) ?_
  intro p e s m args below meth c ls X hr hlk G hl Q hQ
  have hx := X.1.1
  have hb := X.1.2.1
  have hown := X.1.2.2.2.1
  have hts := X.1.2.2.2.2
  refine (fun (key : ∀ (H : Heap) (locs : List Loc), cc_H g A pls (cc_pC q k x) s H locs → W p l e (headSpec wsX1_ballsOf rmX1_ballsOf).room s m args below meth c H locs 0 0 Q (F0 m 0 ls [])) => key _ _ G) ?_
  clear G
  intro H locs G
  have hl : lv_has ls 4 [(0, .ref (cc_ad g (10 + 20 * k))), (1, .int v1)] := hl
  have hf27 : Cond.fieldLink RX1 27 (TX1 4).1 (TX1 4).2.1 (TX1 4).2.2.1 ∈ wsX1_ballsOf := by decide +kernel
  have hin1 : ∀ y ∈ wsX10, y ∈ wsX1_ballsOf := (fun _ z => List.mem_cons_of_mem _ (List.mem_append_right _ z))
  refine lv_iconst (v := 0) hx hb dX1_ballsOf_0 (by decide) ?_
  refine lv_istore_n (lv' := [(2, .int (0 : Int32)), (0, .ref (cc_ad g (10 + 20 * k))), (1, .int v1)]) hx hb dX1_ballsOf_1 rfl hl (by decide) rfl (fun ls hl => ?_)
  refine lv_iconst (v := 0) hx hb dX1_ballsOf_2 (by decide) ?_
  refine lv_istore_n (lv' := [(3, .int (0 : Int32)), (2, .int (0 : Int32)), (0, .ref (cc_ad g (10 + 20 * k))), (1, .int v1)]) hx hb dX1_ballsOf_3 rfl hl (by decide) rfl (fun ls hl => ?_)
  refine pp_loop (I := fun (a1 : Int32 × Int32) => ∀ (H : Heap) (locs : List Loc) (ls : Array Slot), cc_H g A pls (cc_pC q k x) s H locs → lv_has ls 4 [(0, .ref (cc_ad g (10 + 20 * k))), (1, .int v1), (2, .int a1.1), (3, .int a1.2)] → W p l e (headSpec wsX1_ballsOf rmX1_ballsOf).room s m args below meth c H locs 0 0 Q (F0 m 4 ls [])) ?_ 200 _ h H locs ls G (lv_sub hl [2, 3, 1, 0] rfl)
  clear h
  intro self1 ih1 a1 h1 H locs ls G hl
  refine lv_iload_n hx hb dX1_ballsOf_4 rfl (lv_at hl 3 rfl) ?_
  refine lv_bipush (v := 6) hx hb dX1_ballsOf_5 (by decide) ?_
  obtain ⟨j2, ej2, h3⟩ := pp_lj_ex h1
  clear h1
  have hj2 : ∀ (a2 : Unit) (H : Heap) (locs : List Loc) (ls : Array Slot), j2 a2 = some res → cc_H g A pls (cc_pC q k x) s H locs → lv_has ls 4 [(2, .int a1.1)] → W p l e (headSpec wsX1_ballsOf rmX1_ballsOf).room s m args below meth c H locs 0 0 Q (F0 m 40 ls []) := by
    intro a2 H locs ls h G hl
    have h4 := pp_jmp ej2 h
    clear h h3
    refine lv_iload_n hx hb dX1_ballsOf_40 rfl (lv_at hl 0 rfl) ?_
    exact cc_iret X hr hlk rfl G (Option.some.inj h4) rfl hQ dX1_ballsOf_41
  refine lv_icmp_ge (tgt := 40) hx hb dX1_ballsOf_7 (by decide) (fun c5 => ?_) (fun c5 => ?_)
  · have h6 := pp_t c5 h3
    clear h3
    exact hj2 _ H locs ls h6 G (lv_sub hl [2] rfl)
  · have h7 := pp_f c5 h3
    clear h3
    refine lv_aload_n hx hb dX1_ballsOf_10 rfl (lv_at hl 0 rfl) ?_
    refine lv_iload_n hx hb dX1_ballsOf_11 rfl (lv_at hl 1 rfl) ?_
    obtain ⟨r8, hc8, h9⟩ := pp_ob_ex h7
    clear h7
    refine cc_cali (q2 := (cc_pC q k x)) rfl rfl (co_crt g q hk) X G (x := x) rfl (ctX1_isPlayer l g pls q hk x _ hc8) (cwV 1 hts gX1_ballsOf_X1_isPlayer rfl rfl rfl (by decide +kernel) ⟨Nat.le_of_ble_eq_true rfl, Nat.le_of_ble_eq_true rfl⟩) (rest := []) rfl hl.1 rfl (Nat.le_of_ble_eq_true rfl) dX1_ballsOf_12 (fun H locs G => ?_)
    refine lv_if_eq (tgt := 40) hx hb dX1_ballsOf_15 (by decide) (fun c10 => ?_) (fun c10 => ?_)
    · have h11 := pp_t c10 h9
      clear h9
      exact hj2 _ H locs ls h11 G (lv_sub hl [2] rfl)
    · have h12 := pp_f c10 h9
      clear h9
      refine lv_aload_n hx hb dX1_ballsOf_18 rfl (lv_at hl 0 rfl) ?_
      refine cc_get (co_crt g q hk) X G (x := x) rfl hin1 4 (by decide) hf27 (v := .ref (cc_ad g (10 + 20 * k + 6))) rfl dX1_ballsOf_19 ?_
      refine lv_iload_n hx hb dX1_ballsOf_22 rfl (lv_at hl 3 rfl) ?_
      obtain ⟨hi13, h14⟩ := pp_ix_ex h12
      clear h12
      refine cc_iald (ca_4 g q hk) X G (x := x) hi13 dX1_ballsOf_23 ?_
      refine lv_iload_n hx hb dX1_ballsOf_24 rfl (lv_at hl 1 rfl) ?_
      obtain ⟨j15, ej15, h16⟩ := pp_lj_ex h14
      clear h14
      have hj15 : ∀ (a15 : Int32) (H : Heap) (locs : List Loc) (ls : Array Slot), j15 a15 = some res → cc_H g A pls (cc_pC q k x) s H locs → lv_has ls 4 [(0, .ref (cc_ad g (10 + 20 * k))), (1, .int v1), (2, .int a15), (3, .int a1.2)] → W p l e (headSpec wsX1_ballsOf rmX1_ballsOf).room s m args below meth c H locs 0 0 Q (F0 m 34 ls []) := by
        intro a15 H locs ls h G hl
        have h17 := pp_jmp ej15 h
        clear h h16
        obtain ⟨x18, ex18, h19⟩ := pp_lj_ex h17
        clear h17
        refine lv_iinc (v := x18) (lv' := [(3, .int x18), (0, .ref (cc_ad g (10 + 20 * k))), (1, .int v1), (2, .int a15)]) hx hb dX1_ballsOf_34 hl (k := 3) rfl (by rw [ex18]; rfl) (by decide) rfl (fun ls hl => ?_)
        refine lv_goto (tgt := 4) hx hb dX1_ballsOf_37 (by decide) ?_
        exact ih1 _ h19 H locs ls G (lv_sub hl [1, 2, 3, 0] rfl)
      refine lv_icmp_ne (tgt := 34) hx hb dX1_ballsOf_25 (by decide) (fun c20 => ?_) (fun c20 => ?_)
      · have h21 := pp_f c20 h16
        clear h16
        exact hj15 _ H locs ls h21 G hl
      · have h22 := pp_t c20 h16
        clear h16
        refine lv_iload_n hx hb dX1_ballsOf_28 rfl (lv_at hl 2 rfl) ?_
        refine lv_iconst (v := 1) hx hb dX1_ballsOf_29 (by decide) ?_
        refine lv_iload_n hx hb dX1_ballsOf_30 rfl (lv_at hl 3 rfl) ?_
        refine lv_ishl hx hb dX1_ballsOf_31 ?_
        refine lv_ior hx hb dX1_ballsOf_32 ?_
        obtain ⟨x23, ex23, h24⟩ := pp_lj_ex h22
        clear h22
        refine lv_nmi ex23 ?_
        refine lv_istore_n (lv' := [(2, .int x23), (0, .ref (cc_ad g (10 + 20 * k))), (1, .int v1), (3, .int a1.2)]) hx hb dX1_ballsOf_33 rfl hl (by decide) rfl (fun ls hl => ?_)
        exact hj15 _ H locs ls h24 G (lv_sub hl [1, 2, 0, 3] rfl)
noncomputable def P4_dodge (d : cc_PD) (v1 : Int32) : Option Int32 := some (d.2 3)
abbrev rmX4_dodge : Room := { frames := 0, cells := 0, slots := 0, locals := 0 }
set_option maxHeartbeats 4000000 in
set_option maxRecDepth 100000 in
theorem ctX4_dodge (l : Launch) (D : va_G) (a : Nat) (d : cc_PD) (hci : cc_isP d.1) (v1 : Int32) {res : Int32} (h : P4_dodge d v1 = some res) : cp_Mi l yX4_dodge wsX4_dodge rmX4_dodge D [.ref a, .int v1] a d res := by
  intro sz
  unfold P4_dodge at h
  refine cp_ofW hci ⟨(fun _ z => List.mem_cons_of_mem _ (List.mem_append_left _ (List.mem_append_left _ (List.mem_append_left _ (List.mem_append_left _ (List.mem_append_left _ (List.mem_append_right _ z))))))), (fun _ z => List.mem_cons_of_mem _ (List.mem_append_left _ (List.mem_append_left _ (List.mem_append_left _ (List.mem_append_left _ (List.mem_append_right _ z)))))), (fun _ z => List.mem_cons_of_mem _ (List.mem_append_left _ (List.mem_append_left _ (List.mem_append_left _ (List.mem_append_right _ z))))), (fun _ z => List.mem_cons_of_mem _ (List.mem_append_left _ (List.mem_append_left _ (List.mem_append_right _ z)))), (fun _ z => List.mem_cons_of_mem _ (List.mem_append_left _ (List.mem_append_right _ z))), (fun _ z => List.mem_cons_of_mem _ (List.mem_append_right _ z))⟩ (own := RX4) (by decide) rfl rfl (Nat.le_of_ble_eq_true rfl) ?_
  intro p e s m args below meth c ls X hr hlk G hl Q hQ
  have hx := X.1.1
  have hb := X.1.2.1
  have hown := X.1.2.2.2.1
  have hts := X.1.2.2.2.2
  refine (fun (key : ∀ (H : Heap) (locs : List Loc), cp_H D a d s H locs → W p l e (headSpec wsX4_dodge rmX4_dodge).room s m args below meth c H locs 0 0 Q (F0 m 0 ls [])) => key _ _ G) ?_
  clear G
  intro H locs G
  have hl : lv_has ls 2 [(0, .ref a), (1, .int v1)] := hl
  have hf19 : Cond.fieldLink RX4 19 (TX4 3).1 (TX4 3).2.1 (TX4 3).2.2.1 ∈ wsX4_dodge := by decide +kernel
  refine lv_aload_n hx hb dX4_dodge_0 rfl (lv_at hl 0 rfl) ?_
  refine cp_getf X G 3 (by decide) hf19 (v := .int (d.2 3)) rfl dX4_dodge_1 ?_
  exact cp_iret X hr hlk rfl G h hQ dX4_dodge_4
noncomputable def P5_dodge (d : cc_PD) (v1 : Int32) : Option Int32 := pp_ob (P4_dodge d v1) (fun r1 => some (r1 + (3 : Int32)))
abbrev rmX5_dodge : Room := { frames := 1, cells := 0, slots := 0, locals := 21 }
set_option maxHeartbeats 4000000 in
set_option maxRecDepth 100000 in
theorem ctX5_dodge (l : Launch) (D : va_G) (a : Nat) (d : cc_PD) (hci : cc_isP d.1) (v1 : Int32) {res : Int32} (h : P5_dodge d v1 = some res) : cp_Mi l yX5_dodge wsX5_dodge rmX5_dodge D [.ref a, .int v1] a d res := by
  intro sz
  unfold P5_dodge at h
  refine cp_ofW hci ⟨(fun _ z => List.mem_cons_of_mem _ (List.mem_append_left _ (List.mem_append_left _ (List.mem_append_left _ (List.mem_append_left _ (List.mem_append_left _ (List.mem_append_right _ z))))))), (fun _ z => List.mem_cons_of_mem _ (List.mem_append_left _ (List.mem_append_left _ (List.mem_append_left _ (List.mem_append_left _ (List.mem_append_right _ z)))))), (fun _ z => List.mem_cons_of_mem _ (List.mem_append_left _ (List.mem_append_left _ (List.mem_append_left _ (List.mem_append_right _ z))))), (fun _ z => List.mem_cons_of_mem _ (List.mem_append_left _ (List.mem_append_left _ (List.mem_append_right _ z)))), (fun _ z => List.mem_cons_of_mem _ (List.mem_append_left _ (List.mem_append_right _ z))), (fun _ z => List.mem_cons_of_mem _ (List.mem_append_right _ z))⟩ (own := RX5) (by decide) rfl rfl (Nat.le_of_ble_eq_true rfl) ?_
  intro p e s m args below meth c ls X hr hlk G hl Q hQ
  have hx := X.1.1
  have hb := X.1.2.1
  have hown := X.1.2.2.2.1
  have hts := X.1.2.2.2.2
  refine (fun (key : ∀ (H : Heap) (locs : List Loc), cp_H D a d s H locs → W p l e (headSpec wsX5_dodge rmX5_dodge).room s m args below meth c H locs 0 0 Q (F0 m 0 ls [])) => key _ _ G) ?_
  clear G
  intro H locs G
  have hl : lv_has ls 2 [(0, .ref a), (1, .int v1)] := hl
  refine lv_aload_n hx hb dX5_dodge_0 rfl (lv_at hl 0 rfl) ?_
  refine lv_iload_n hx hb dX5_dodge_1 rfl (lv_at hl 1 rfl) ?_
  obtain ⟨r1, hc1, h2⟩ := pp_ob_ex h
  clear h
  refine cp_super X G (ctX4_dodge l D a d X.2.2.1 _ hc1) (va_cwSU 1 hts gX5_dodge_X4_dodge_s7 rfl rfl rfl (by decide +kernel) ⟨Nat.le_of_ble_eq_true rfl, Nat.le_of_ble_eq_true rfl⟩) (rest := []) rfl hl.1 rfl (Nat.le_of_ble_eq_true rfl) dX5_dodge_2 (fun H locs G => ?_)
  refine lv_iconst (v := 3) hx hb dX5_dodge_5 (by decide) ?_
  refine lv_iadd hx hb dX5_dodge_6 ?_
  exact cp_iret X hr hlk rfl G h2 hQ dX5_dodge_7
noncomputable def P9_dodge (d : cc_PD) (v1 : Int32) : Option Int32 := pp_ob (P5_dodge d v1) (fun r1 => pp_lj (fun (a3 : Int32) => (some (r1 + a3) : Option Int32)) (fun j3 => (if v1 = (0 : Int32) then j3 (0 : Int32) else j3 (2 : Int32))))
abbrev rmX9_dodge : Room := { frames := 2, cells := 0, slots := 0, locals := 42 }
set_option maxHeartbeats 4000000 in
set_option maxRecDepth 100000 in
theorem ctX9_dodge (l : Launch) (D : va_G) (a : Nat) (d : cc_PD) (hci : cc_isP d.1) (v1 : Int32) {res : Int32} (h : P9_dodge d v1 = some res) : cp_Mi l yX9_dodge wsX9_dodge rmX9_dodge D [.ref a, .int v1] a d res := by
  intro sz
  unfold P9_dodge at h
  refine cp_ofW hci ⟨(fun _ z => List.mem_cons_of_mem _ (List.mem_append_left _ (List.mem_append_left _ (List.mem_append_left _ (List.mem_append_left _ (List.mem_append_left _ (List.mem_append_right _ z))))))), (fun _ z => List.mem_cons_of_mem _ (List.mem_append_left _ (List.mem_append_left _ (List.mem_append_left _ (List.mem_append_left _ (List.mem_append_right _ z)))))), (fun _ z => List.mem_cons_of_mem _ (List.mem_append_left _ (List.mem_append_left _ (List.mem_append_left _ (List.mem_append_right _ z))))), (fun _ z => List.mem_cons_of_mem _ (List.mem_append_left _ (List.mem_append_left _ (List.mem_append_right _ z)))), (fun _ z => List.mem_cons_of_mem _ (List.mem_append_left _ (List.mem_append_right _ z))), (fun _ z => List.mem_cons_of_mem _ (List.mem_append_right _ z))⟩ (own := RX9) (by decide) rfl rfl (Nat.le_of_ble_eq_true rfl) ?_
  intro p e s m args below meth c ls X hr hlk G hl Q hQ
  have hx := X.1.1
  have hb := X.1.2.1
  have hown := X.1.2.2.2.1
  have hts := X.1.2.2.2.2
  refine (fun (key : ∀ (H : Heap) (locs : List Loc), cp_H D a d s H locs → W p l e (headSpec wsX9_dodge rmX9_dodge).room s m args below meth c H locs 0 0 Q (F0 m 0 ls [])) => key _ _ G) ?_
  clear G
  intro H locs G
  have hl : lv_has ls 2 [(0, .ref a), (1, .int v1)] := hl
  refine lv_aload_n hx hb dX9_dodge_0 rfl (lv_at hl 0 rfl) ?_
  refine lv_iload_n hx hb dX9_dodge_1 rfl (lv_at hl 1 rfl) ?_
  obtain ⟨r1, hc1, h2⟩ := pp_ob_ex h
  clear h
  refine cp_super X G (ctX5_dodge l D a d X.2.2.1 _ hc1) (va_cwSU 1 hts gX9_dodge_X5_dodge_s7 rfl rfl rfl (by decide +kernel) ⟨Nat.le_of_ble_eq_true rfl, Nat.le_of_ble_eq_true rfl⟩) (rest := []) rfl hl.1 rfl (Nat.le_of_ble_eq_true rfl) dX9_dodge_2 (fun H locs G => ?_)
  refine lv_iload_n hx hb dX9_dodge_5 rfl (lv_at hl 1 rfl) ?_
  obtain ⟨j3, ej3, h4⟩ := pp_lj_ex h2
  clear h2
  have hj3 : ∀ (a3 : Int32) (H : Heap) (locs : List Loc) (ls : Array Slot), j3 a3 = some res → cp_H D a d s H locs → lv_has ls 2 [] → W p l e (headSpec wsX9_dodge rmX9_dodge).room s m args below meth c H locs 0 0 Q (F0 m 14 ls [.int a3, .int r1]) := by
    intro a3 H locs ls h G hl
    have h5 := pp_jmp ej3 h
    clear h h4
    refine lv_iadd hx hb dX9_dodge_14 ?_
    exact cp_iret X hr hlk rfl G h5 hQ dX9_dodge_15
  refine lv_if_eq (tgt := 13) hx hb dX9_dodge_6 (by decide) (fun c6 => ?_) (fun c6 => ?_)
  · have h7 := pp_t c6 h4
    clear h4
    refine lv_iconst (v := 0) hx hb dX9_dodge_13 (by decide) ?_
    exact hj3 _ H locs ls h7 G (lv_sub hl [] rfl)
  · have h8 := pp_f c6 h4
    clear h4
    refine lv_iconst (v := 2) hx hb dX9_dodge_9 (by decide) ?_
    refine lv_goto (tgt := 14) hx hb dX9_dodge_10 (by decide) ?_
    exact hj3 _ H locs ls h8 G (lv_sub hl [] rfl)
noncomputable def Cl_dodge (d : cc_PD) (v : Int32) : Option Int32 := if d.1 = 5 then P5_dodge d v else if d.1 = 9 then P9_dodge d v else P4_dodge d v
noncomputable def K_dodgeOf (x : cc_CT) (v1 : Int32) : Option Int32 := pp_ob (K_isPlayer x v1) (fun r1 => (if r1 = (0 : Int32) then some (0 : Int32) else pp_ix v1 8 (pp_ob (K_ballsOf x v1) (fun r9 => pp_lj (fun (a11 : Int32) => (pp_ob (Cl_dodge (x.2.2 (Int32.toNatClampNeg v1)) a11) (fun r14 => some r14) : Option Int32)) (fun j11 => (if r9 = (0 : Int32) then j11 (0 : Int32) else j11 (1 : Int32)))))))
abbrev rmX1_dodgeOf : Room := { frames := 3, cells := 0, slots := 0, locals := 63 }
set_option maxHeartbeats 4000000 in
set_option maxRecDepth 100000 in
theorem ctX1_dodgeOf (l : Launch) (g : cc_G) (pls : va_W) (q : cc_S) {k : Nat} (hk : k < 3) (x : cc_CT) (v1 : Int32) {res : Int32} (h : K_dodgeOf x v1 = some res) : cc_Mi l yX1_dodgeOf wsX1_dodgeOf rmX1_dodgeOf g pls [.ref (cc_ad g (10 + 20 * k)), .int v1] (cc_pC q k x) res (cc_pC q k x) := by
  intro sz A hA
  unfold K_dodgeOf at h
  refine cc_ofW hA (own := RX1) (by decide) rfl rfl (Nat.le_of_ble_eq_true rfl) ?_
  intro p e s m args below meth c ls X hr hlk G hl Q hQ
  have hx := X.1.1
  have hb := X.1.2.1
  have hown := X.1.2.2.2.1
  have hts := X.1.2.2.2.2
  refine (fun (key : ∀ (H : Heap) (locs : List Loc), cc_H g A pls (cc_pC q k x) s H locs → W p l e (headSpec wsX1_dodgeOf rmX1_dodgeOf).room s m args below meth c H locs 0 0 Q (F0 m 0 ls [])) => key _ _ G) ?_
  clear G
  intro H locs G
  have hl : lv_has ls 2 [(0, .ref (cc_ad g (10 + 20 * k))), (1, .int v1)] := hl
  have hf11 : Cond.fieldLink RX1 11 (TX1 0).1 (TX1 0).2.1 (TX1 0).2.2.1 ∈ wsX1_dodgeOf := by decide +kernel
  have hin1 : ∀ y ∈ wsX10, y ∈ wsX1_dodgeOf := (fun _ z => List.mem_cons_of_mem _ (List.mem_append_left _ (List.mem_append_left _ (List.mem_append_left _ (List.mem_append_left _ (List.mem_append_left _ (List.mem_append_left _ (List.mem_append_right _ z))))))))
  refine lv_aload_n hx hb dX1_dodgeOf_0 rfl (lv_at hl 0 rfl) ?_
  refine lv_iload_n hx hb dX1_dodgeOf_1 rfl (lv_at hl 1 rfl) ?_
  obtain ⟨r1, hc1, h2⟩ := pp_ob_ex h
  clear h
  refine cc_cali (q2 := (cc_pC q k x)) rfl rfl (co_crt g q hk) X G (x := x) rfl (ctX1_isPlayer l g pls q hk x _ hc1) (cwV 1 hts gX1_dodgeOf_X1_isPlayer rfl rfl rfl (by decide +kernel) ⟨Nat.le_of_ble_eq_true rfl, Nat.le_of_ble_eq_true rfl⟩) (rest := []) rfl hl.1 rfl (Nat.le_of_ble_eq_true rfl) dX1_dodgeOf_2 (fun H locs G => ?_)
  refine lv_if_eq (tgt := 33) hx hb dX1_dodgeOf_5 (by decide) (fun c3 => ?_) (fun c3 => ?_)
  · have h4 := pp_t c3 h2
    clear h2
    refine lv_iconst (v := 0) hx hb dX1_dodgeOf_33 (by decide) ?_
    exact cc_iret X hr hlk rfl G (Option.some.inj h4) rfl hQ dX1_dodgeOf_34
  · have h5 := pp_f c3 h2
    clear h2
    refine lv_aload_n hx hb dX1_dodgeOf_8 rfl (lv_at hl 0 rfl) ?_
    refine cc_get (co_crt g q hk) X G (x := x) rfl hin1 0 (by decide) hf11 (v := .ref (cc_ad g (10 + 20 * k + 1))) rfl dX1_dodgeOf_9 ?_
    refine lv_iload_n hx hb dX1_dodgeOf_12 rfl (lv_at hl 1 rfl) ?_
    obtain ⟨hi6, h7⟩ := pp_ix_ex h5
    clear h5
    refine cc_aald hk X G hi6 dX1_dodgeOf_13 (fun a8 hm8 => ?_)
    refine lv_aload_n hx hb dX1_dodgeOf_14 rfl (lv_at hl 0 rfl) ?_
    refine lv_iload_n hx hb dX1_dodgeOf_15 rfl (lv_at hl 1 rfl) ?_
    obtain ⟨r9, hc9, h10⟩ := pp_ob_ex h7
    clear h7
    refine cc_cali (q2 := (cc_pC q k x)) rfl rfl (co_crt g q hk) X G (x := x) rfl (ctX1_ballsOf l g pls q hk x _ hc9) (cwV 1 hts gX1_dodgeOf_X1_ballsOf rfl rfl rfl (by decide +kernel) ⟨Nat.le_of_ble_eq_true rfl, Nat.le_of_ble_eq_true rfl⟩) (rest := [.ref a8]) rfl hl.1 rfl (Nat.le_of_ble_eq_true rfl) dX1_dodgeOf_16 (fun H locs G => ?_)
    obtain ⟨j11, ej11, h12⟩ := pp_lj_ex h10
    clear h10
    have hj11 : ∀ (a11 : Int32) (H : Heap) (locs : List Loc) (ls : Array Slot), j11 a11 = some res → cc_H g A pls (cc_pC q k x) s H locs → lv_has ls 2 [] → W p l e (headSpec wsX1_dodgeOf rmX1_dodgeOf).room s m args below meth c H locs 0 0 Q (F0 m 27 ls [.int a11, .ref a8]) := by
      intro a11 H locs ls h G hl
      have h13 := pp_jmp ej11 h
      clear h h12
      obtain ⟨r14, hc14, h15⟩ := pp_ob_ex h13
      clear h13
      have kk14 : ∀ (H : Heap) (locs : List Loc), cc_H g A pls (cc_pC q k x) s H locs → W p l e (headSpec wsX1_dodgeOf rmX1_dodgeOf).room s m args below meth c H locs 0 0 Q (F0 m 30 ls [.int r14]) := by
        intro H locs G
        refine lv_goto (tgt := 34) hx hb dX1_dodgeOf_30 (by decide) ?_
        exact cc_iret X hr hlk rfl G (Option.some.inj h15) rfl hQ dX1_dodgeOf_34
      rcases cc_cls (by obtain ⟨⟨_, hok, _, _⟩, _⟩ := G; exact hok.2) hm8 with e0 | e0 | e0 | e0 | e0 | e0
      · exact cc_calPU hm8 X G e0 (C := RX0) rfl (ctX4_dodge l g.1 _ _ (cc_cls (by obtain ⟨⟨_, hok, _, _⟩, _⟩ := G; exact hok.2) hm8) _ (by have z := hc14; unfold Cl_dodge at z; rw [if_neg (by rw [e0]; decide)] at z; rw [if_neg (by rw [e0]; decide)] at z; exact z)) (va_cwU 1 hts gX1_dodgeOf_X4_dodge_u85X0 rfl rfl rfl rfl (by decide +kernel) ⟨Nat.le_of_ble_eq_true rfl, Nat.le_of_ble_eq_true rfl⟩) (rest := []) rfl hl.1 rfl (Nat.le_of_ble_eq_true rfl) dX1_dodgeOf_27 kk14
      · exact cc_calPU hm8 X G e0 (C := RX3) rfl (ctX4_dodge l g.1 _ _ (cc_cls (by obtain ⟨⟨_, hok, _, _⟩, _⟩ := G; exact hok.2) hm8) _ (by have z := hc14; unfold Cl_dodge at z; rw [if_neg (by rw [e0]; decide)] at z; rw [if_neg (by rw [e0]; decide)] at z; exact z)) (va_cwU 1 hts gX1_dodgeOf_X4_dodge_u85X3 rfl rfl rfl rfl (by decide +kernel) ⟨Nat.le_of_ble_eq_true rfl, Nat.le_of_ble_eq_true rfl⟩) (rest := []) rfl hl.1 rfl (Nat.le_of_ble_eq_true rfl) dX1_dodgeOf_27 kk14
      · exact cc_calPV hm8 X G e0 (C := RX4) rfl (ctX4_dodge l g.1 _ _ (cc_cls (by obtain ⟨⟨_, hok, _, _⟩, _⟩ := G; exact hok.2) hm8) _ (by have z := hc14; unfold Cl_dodge at z; rw [if_neg (by rw [e0]; decide)] at z; rw [if_neg (by rw [e0]; decide)] at z; exact z)) (cwV 1 hts gX1_dodgeOf_X4_dodge rfl rfl rfl (by decide +kernel) ⟨Nat.le_of_ble_eq_true rfl, Nat.le_of_ble_eq_true rfl⟩) (rest := []) rfl hl.1 rfl (Nat.le_of_ble_eq_true rfl) dX1_dodgeOf_27 kk14
      · exact cc_calPU hm8 X G e0 (C := RX5) rfl (ctX5_dodge l g.1 _ _ (cc_cls (by obtain ⟨⟨_, hok, _, _⟩, _⟩ := G; exact hok.2) hm8) _ (by have z := hc14; unfold Cl_dodge at z; rw [if_pos e0] at z; exact z)) (va_cwO 1 hts gX1_dodgeOf_X5_dodge_u85X5 rfl rfl rfl (b0 := cX4_dodge) (m0 := 2) (r0 := some .int) (by decide +kernel) (by decide +kernel) ⟨Nat.le_of_ble_eq_true rfl, Nat.le_of_ble_eq_true rfl⟩) (rest := []) rfl hl.1 rfl (Nat.le_of_ble_eq_true rfl) dX1_dodgeOf_27 kk14
      · exact cc_calPU hm8 X G e0 (C := RX8) rfl (ctX4_dodge l g.1 _ _ (cc_cls (by obtain ⟨⟨_, hok, _, _⟩, _⟩ := G; exact hok.2) hm8) _ (by have z := hc14; unfold Cl_dodge at z; rw [if_neg (by rw [e0]; decide)] at z; rw [if_neg (by rw [e0]; decide)] at z; exact z)) (va_cwU 1 hts gX1_dodgeOf_X4_dodge_u85X8 rfl rfl rfl rfl (by decide +kernel) ⟨Nat.le_of_ble_eq_true rfl, Nat.le_of_ble_eq_true rfl⟩) (rest := []) rfl hl.1 rfl (Nat.le_of_ble_eq_true rfl) dX1_dodgeOf_27 kk14
      · exact cc_calPU hm8 X G e0 (C := RX9) rfl (ctX9_dodge l g.1 _ _ (cc_cls (by obtain ⟨⟨_, hok, _, _⟩, _⟩ := G; exact hok.2) hm8) _ (by have z := hc14; unfold Cl_dodge at z; rw [if_neg (by rw [e0]; decide)] at z; rw [if_pos e0] at z; exact z)) (va_cwO 1 hts gX1_dodgeOf_X9_dodge_u85X9 rfl rfl rfl (b0 := cX4_dodge) (m0 := 2) (r0 := some .int) (by decide +kernel) (by decide +kernel) ⟨Nat.le_of_ble_eq_true rfl, Nat.le_of_ble_eq_true rfl⟩) (rest := []) rfl hl.1 rfl (Nat.le_of_ble_eq_true rfl) dX1_dodgeOf_27 kk14
    refine lv_if_eq (tgt := 26) hx hb dX1_dodgeOf_19 (by decide) (fun c16 => ?_) (fun c16 => ?_)
    · have h17 := pp_t c16 h12
      clear h12
      refine lv_iconst (v := 0) hx hb dX1_dodgeOf_26 (by decide) ?_
      exact hj11 _ H locs ls h17 G (lv_sub hl [] rfl)
    · have h18 := pp_f c16 h12
      clear h12
      refine lv_iconst (v := 1) hx hb dX1_dodgeOf_22 (by decide) ?_
      refine lv_goto (tgt := 27) hx hb dX1_dodgeOf_23 (by decide) ?_
      exact hj11 _ H locs ls h18 G (lv_sub hl [] rfl)
noncomputable def K_isAlone (x : cc_CT) (v1 : Int32) : Option Int32 := pp_lj (fun (a1 : Unit) => (some (1 : Int32) : Option Int32)) (fun j1 => (if ((cc_gS x 0).1 0) = ((1 : Int32) <<< (v1 &&& 31)) then j1 () else (if ((cc_gS x 1).1 0) = ((1 : Int32) <<< (v1 &&& 31)) then j1 () else some (0 : Int32))))
abbrev rmX1_isAlone : Room := { frames := 0, cells := 0, slots := 0, locals := 0 }
set_option maxHeartbeats 4000000 in
set_option maxRecDepth 100000 in
theorem ctX1_isAlone (l : Launch) (g : cc_G) (pls : va_W) (q : cc_S) {k : Nat} (hk : k < 3) (x : cc_CT) (v1 : Int32) {res : Int32} (h : K_isAlone x v1 = some res) : cc_Mi l yX1_isAlone wsX1_isAlone rmX1_isAlone g pls [.ref (cc_ad g (10 + 20 * k)), .int v1] (cc_pC q k x) res (cc_pC q k x) := by
  intro sz A hA
  unfold K_isAlone at h
  refine cc_ofW hA (own := RX1) (by decide) rfl rfl (Nat.le_of_ble_eq_true rfl) ?_
  intro p e s m args below meth c ls X hr hlk G hl Q hQ
  have hx := X.1.1
  have hb := X.1.2.1
  have hown := X.1.2.2.2.1
  have hts := X.1.2.2.2.2
  refine (fun (key : ∀ (H : Heap) (locs : List Loc), cc_H g A pls (cc_pC q k x) s H locs → W p l e (headSpec wsX1_isAlone rmX1_isAlone).room s m args below meth c H locs 0 0 Q (F0 m 0 ls [])) => key _ _ G) ?_
  clear G
  intro H locs G
  have hl : lv_has ls 2 [(0, .ref (cc_ad g (10 + 20 * k))), (1, .int v1)] := hl
  have hf20 : Cond.fieldLink RX1 20 (TX1 2).1 (TX1 2).2.1 (TX1 2).2.2.1 ∈ wsX1_isAlone := by decide +kernel
  have hf24 : Cond.fieldLink RX1 24 (TX1 3).1 (TX1 3).2.1 (TX1 3).2.2.1 ∈ wsX1_isAlone := by decide +kernel
  have hin1 : ∀ y ∈ wsX10, y ∈ wsX1_isAlone := (fun _ z => List.mem_cons_of_mem _ (List.mem_append_left _ (List.mem_append_right _ z)))
  have hin6 : ∀ y ∈ wsX60, y ∈ wsX1_isAlone := (fun _ z => List.mem_cons_of_mem _ (List.mem_append_right _ z))
  refine lv_aload_n hx hb dX1_isAlone_0 rfl (lv_at hl 0 rfl) ?_
  refine cc_get (co_crt g q hk) X G (x := x) rfl hin1 2 (by decide) hf20 (v := .ref (cc_ad g (cs_id k 0))) rfl dX1_isAlone_1 ?_
  refine cc_getN (co_side g q hk (sd := 0) (by decide)) X G (x := x) rfl hin6 0 (by decide) (by decide +kernel) (v := .int ((cc_gS x 0).1 0)) rfl dX1_isAlone_4 ?_
  refine lv_iconst (v := 1) hx hb dX1_isAlone_7 (by decide) ?_
  refine lv_iload_n hx hb dX1_isAlone_8 rfl (lv_at hl 1 rfl) ?_
  refine lv_ishl hx hb dX1_isAlone_9 ?_
  obtain ⟨j1, ej1, h2⟩ := pp_lj_ex h
  clear h
  have hj1 : ∀ (a1 : Unit) (H : Heap) (locs : List Loc) (ls : Array Slot), j1 a1 = some res → cc_H g A pls (cc_pC q k x) s H locs → lv_has ls 2 [] → W p l e (headSpec wsX1_isAlone rmX1_isAlone).room s m args below meth c H locs 0 0 Q (F0 m 26 ls []) := by
    intro a1 H locs ls h G hl
    have h3 := pp_jmp ej1 h
    clear h h2
    refine lv_iconst (v := 1) hx hb dX1_isAlone_26 (by decide) ?_
    refine lv_goto (tgt := 31) hx hb dX1_isAlone_27 (by decide) ?_
    exact cc_iret X hr hlk rfl G (Option.some.inj h3) rfl hQ dX1_isAlone_31
  refine lv_icmp_eq (tgt := 26) hx hb dX1_isAlone_10 (by decide) (fun c4 => ?_) (fun c4 => ?_)
  · have h5 := pp_t c4 h2
    clear h2
    exact hj1 _ H locs ls h5 G (lv_sub hl [] rfl)
  · have h6 := pp_f c4 h2
    clear h2
    refine lv_aload_n hx hb dX1_isAlone_13 rfl (lv_at hl 0 rfl) ?_
    refine cc_get (co_crt g q hk) X G (x := x) rfl hin1 3 (by decide) hf24 (v := .ref (cc_ad g (cs_id k 1))) rfl dX1_isAlone_14 ?_
    refine cc_getN (co_side g q hk (sd := 1) (by decide)) X G (x := x) rfl hin6 0 (by decide) (by decide +kernel) (v := .int ((cc_gS x 1).1 0)) rfl dX1_isAlone_17 ?_
    refine lv_iconst (v := 1) hx hb dX1_isAlone_20 (by decide) ?_
    refine lv_iload_n hx hb dX1_isAlone_21 rfl (lv_at hl 1 rfl) ?_
    refine lv_ishl hx hb dX1_isAlone_22 ?_
    refine lv_icmp_ne (tgt := 30) hx hb dX1_isAlone_23 (by decide) (fun c7 => ?_) (fun c7 => ?_)
    · have h8 := pp_f c7 h6
      clear h6
      refine lv_iconst (v := 0) hx hb dX1_isAlone_30 (by decide) ?_
      exact cc_iret X hr hlk rfl G (Option.some.inj h8) rfl hQ dX1_isAlone_31
    · have h9 := pp_t c7 h6
      clear h6
      exact hj1 _ H locs ls h9 G (lv_sub hl [] rfl)
noncomputable def P3_grasp (d : cc_PD) (v1 : Int32) : Option Int32 := pp_ob (P0_grasp d v1) (fun r1 => pp_lj (fun (a3 : Int32) => (some (r1 * a3) : Option Int32)) (fun j3 => (if v1 = (0 : Int32) then j3 (1 : Int32) else j3 (2 : Int32))))
abbrev rmX3_grasp : Room := { frames := 2, cells := 0, slots := 0, locals := 42 }
set_option maxHeartbeats 4000000 in
set_option maxRecDepth 100000 in
theorem ctX3_grasp (l : Launch) (D : va_G) (a : Nat) (d : cc_PD) (hci : cc_isP d.1) (v1 : Int32) {res : Int32} (h : P3_grasp d v1 = some res) : cp_Mi l yX3_grasp wsX3_grasp rmX3_grasp D [.ref a, .int v1] a d res := by
  intro sz
  unfold P3_grasp at h
  refine cp_ofW hci ⟨(fun _ z => List.mem_cons_of_mem _ (List.mem_append_left _ (List.mem_append_left _ (List.mem_append_left _ (List.mem_append_left _ (List.mem_append_left _ (List.mem_append_right _ z))))))), (fun _ z => List.mem_cons_of_mem _ (List.mem_append_left _ (List.mem_append_left _ (List.mem_append_left _ (List.mem_append_left _ (List.mem_append_right _ z)))))), (fun _ z => List.mem_cons_of_mem _ (List.mem_append_left _ (List.mem_append_left _ (List.mem_append_left _ (List.mem_append_right _ z))))), (fun _ z => List.mem_cons_of_mem _ (List.mem_append_left _ (List.mem_append_left _ (List.mem_append_right _ z)))), (fun _ z => List.mem_cons_of_mem _ (List.mem_append_left _ (List.mem_append_right _ z))), (fun _ z => List.mem_cons_of_mem _ (List.mem_append_right _ z))⟩ (own := RX3) (by decide) rfl rfl (Nat.le_of_ble_eq_true rfl) ?_
  intro p e s m args below meth c ls X hr hlk G hl Q hQ
  have hx := X.1.1
  have hb := X.1.2.1
  have hown := X.1.2.2.2.1
  have hts := X.1.2.2.2.2
  refine (fun (key : ∀ (H : Heap) (locs : List Loc), cp_H D a d s H locs → W p l e (headSpec wsX3_grasp rmX3_grasp).room s m args below meth c H locs 0 0 Q (F0 m 0 ls [])) => key _ _ G) ?_
  clear G
  intro H locs G
  have hl : lv_has ls 2 [(0, .ref a), (1, .int v1)] := hl
  refine lv_aload_n hx hb dX3_grasp_0 rfl (lv_at hl 0 rfl) ?_
  refine lv_iload_n hx hb dX3_grasp_1 rfl (lv_at hl 1 rfl) ?_
  obtain ⟨r1, hc1, h2⟩ := pp_ob_ex h
  clear h
  refine cp_super X G (ctX0_grasp l D a d X.2.2.1 _ hc1) (va_cwSU 1 hts gX3_grasp_X0_grasp_s7 rfl rfl rfl (by decide +kernel) ⟨Nat.le_of_ble_eq_true rfl, Nat.le_of_ble_eq_true rfl⟩) (rest := []) rfl hl.1 rfl (Nat.le_of_ble_eq_true rfl) dX3_grasp_2 (fun H locs G => ?_)
  refine lv_iload_n hx hb dX3_grasp_5 rfl (lv_at hl 1 rfl) ?_
  obtain ⟨j3, ej3, h4⟩ := pp_lj_ex h2
  clear h2
  have hj3 : ∀ (a3 : Int32) (H : Heap) (locs : List Loc) (ls : Array Slot), j3 a3 = some res → cp_H D a d s H locs → lv_has ls 2 [] → W p l e (headSpec wsX3_grasp rmX3_grasp).room s m args below meth c H locs 0 0 Q (F0 m 14 ls [.int a3, .int r1]) := by
    intro a3 H locs ls h G hl
    have h5 := pp_jmp ej3 h
    clear h h4
    refine lv_imul hx hb dX3_grasp_14 ?_
    exact cp_iret X hr hlk rfl G h5 hQ dX3_grasp_15
  refine lv_if_eq (tgt := 13) hx hb dX3_grasp_6 (by decide) (fun c6 => ?_) (fun c6 => ?_)
  · have h7 := pp_t c6 h4
    clear h4
    refine lv_iconst (v := 1) hx hb dX3_grasp_13 (by decide) ?_
    exact hj3 _ H locs ls h7 G (lv_sub hl [] rfl)
  · have h8 := pp_f c6 h4
    clear h4
    refine lv_iconst (v := 2) hx hb dX3_grasp_9 (by decide) ?_
    refine lv_goto (tgt := 14) hx hb dX3_grasp_10 (by decide) ?_
    exact hj3 _ H locs ls h8 G (lv_sub hl [] rfl)
noncomputable def Cl_grasp (d : cc_PD) (v : Int32) : Option Int32 := if d.1 = 0 then P0_grasp d v else if d.1 = 3 then P3_grasp d v else P4_grasp d v
noncomputable def K_graspOf (x : cc_CT) (v1 : Int32) : Option Int32 := pp_ob (K_isPlayer x v1) (fun r1 => (if r1 = (0 : Int32) then some (0 : Int32) else pp_ix v1 8 (pp_ob (K_isAlone x v1) (fun r9 => pp_ob (Cl_grasp (x.2.2 (Int32.toNatClampNeg v1)) r9) (fun r11 => some r11)))))
abbrev rmX1_graspOf : Room := { frames := 3, cells := 0, slots := 0, locals := 63 }
set_option maxHeartbeats 4000000 in
set_option maxRecDepth 100000 in
theorem ctX1_graspOf (l : Launch) (g : cc_G) (pls : va_W) (q : cc_S) {k : Nat} (hk : k < 3) (x : cc_CT) (v1 : Int32) {res : Int32} (h : K_graspOf x v1 = some res) : cc_Mi l yX1_graspOf wsX1_graspOf rmX1_graspOf g pls [.ref (cc_ad g (10 + 20 * k)), .int v1] (cc_pC q k x) res (cc_pC q k x) := by
  intro sz A hA
  unfold K_graspOf at h
  refine cc_ofW hA (own := RX1) (by decide) rfl rfl (Nat.le_of_ble_eq_true rfl) ?_
  intro p e s m args below meth c ls X hr hlk G hl Q hQ
  have hx := X.1.1
  have hb := X.1.2.1
  have hown := X.1.2.2.2.1
  have hts := X.1.2.2.2.2
  refine (fun (key : ∀ (H : Heap) (locs : List Loc), cc_H g A pls (cc_pC q k x) s H locs → W p l e (headSpec wsX1_graspOf rmX1_graspOf).room s m args below meth c H locs 0 0 Q (F0 m 0 ls [])) => key _ _ G) ?_
  clear G
  intro H locs G
  have hl : lv_has ls 2 [(0, .ref (cc_ad g (10 + 20 * k))), (1, .int v1)] := hl
  have hf11 : Cond.fieldLink RX1 11 (TX1 0).1 (TX1 0).2.1 (TX1 0).2.2.1 ∈ wsX1_graspOf := by decide +kernel
  have hin1 : ∀ y ∈ wsX10, y ∈ wsX1_graspOf := (fun _ z => List.mem_cons_of_mem _ (List.mem_append_left _ (List.mem_append_left _ (List.mem_append_left _ (List.mem_append_left _ (List.mem_append_left _ (List.mem_append_left _ (List.mem_append_left _ (List.mem_append_right _ z)))))))))
  refine lv_aload_n hx hb dX1_graspOf_0 rfl (lv_at hl 0 rfl) ?_
  refine lv_iload_n hx hb dX1_graspOf_1 rfl (lv_at hl 1 rfl) ?_
  obtain ⟨r1, hc1, h2⟩ := pp_ob_ex h
  clear h
  refine cc_cali (q2 := (cc_pC q k x)) rfl rfl (co_crt g q hk) X G (x := x) rfl (ctX1_isPlayer l g pls q hk x _ hc1) (cwV 1 hts gX1_graspOf_X1_isPlayer rfl rfl rfl (by decide +kernel) ⟨Nat.le_of_ble_eq_true rfl, Nat.le_of_ble_eq_true rfl⟩) (rest := []) rfl hl.1 rfl (Nat.le_of_ble_eq_true rfl) dX1_graspOf_2 (fun H locs G => ?_)
  refine lv_if_eq (tgt := 25) hx hb dX1_graspOf_5 (by decide) (fun c3 => ?_) (fun c3 => ?_)
  · have h4 := pp_t c3 h2
    clear h2
    refine lv_iconst (v := 0) hx hb dX1_graspOf_25 (by decide) ?_
    exact cc_iret X hr hlk rfl G (Option.some.inj h4) rfl hQ dX1_graspOf_26
  · have h5 := pp_f c3 h2
    clear h2
    refine lv_aload_n hx hb dX1_graspOf_8 rfl (lv_at hl 0 rfl) ?_
    refine cc_get (co_crt g q hk) X G (x := x) rfl hin1 0 (by decide) hf11 (v := .ref (cc_ad g (10 + 20 * k + 1))) rfl dX1_graspOf_9 ?_
    refine lv_iload_n hx hb dX1_graspOf_12 rfl (lv_at hl 1 rfl) ?_
    obtain ⟨hi6, h7⟩ := pp_ix_ex h5
    clear h5
    refine cc_aald hk X G hi6 dX1_graspOf_13 (fun a8 hm8 => ?_)
    refine lv_aload_n hx hb dX1_graspOf_14 rfl (lv_at hl 0 rfl) ?_
    refine lv_iload_n hx hb dX1_graspOf_15 rfl (lv_at hl 1 rfl) ?_
    obtain ⟨r9, hc9, h10⟩ := pp_ob_ex h7
    clear h7
    refine cc_cali (q2 := (cc_pC q k x)) rfl rfl (co_crt g q hk) X G (x := x) rfl (ctX1_isAlone l g pls q hk x _ hc9) (cwV 1 hts gX1_graspOf_X1_isAlone rfl rfl rfl (by decide +kernel) ⟨Nat.le_of_ble_eq_true rfl, Nat.le_of_ble_eq_true rfl⟩) (rest := [.ref a8]) rfl hl.1 rfl (Nat.le_of_ble_eq_true rfl) dX1_graspOf_16 (fun H locs G => ?_)
    obtain ⟨r11, hc11, h12⟩ := pp_ob_ex h10
    clear h10
    have kk11 : ∀ (H : Heap) (locs : List Loc), cc_H g A pls (cc_pC q k x) s H locs → W p l e (headSpec wsX1_graspOf rmX1_graspOf).room s m args below meth c H locs 0 0 Q (F0 m 22 ls [.int r11]) := by
      intro H locs G
      refine lv_goto (tgt := 26) hx hb dX1_graspOf_22 (by decide) ?_
      exact cc_iret X hr hlk rfl G (Option.some.inj h12) rfl hQ dX1_graspOf_26
    rcases cc_cls (by obtain ⟨⟨_, hok, _, _⟩, _⟩ := G; exact hok.2) hm8 with e0 | e0 | e0 | e0 | e0 | e0
    · exact cc_calPU hm8 X G e0 (C := RX0) rfl (ctX0_grasp l g.1 _ _ (cc_cls (by obtain ⟨⟨_, hok, _, _⟩, _⟩ := G; exact hok.2) hm8) _ (by have z := hc11; unfold Cl_grasp at z; rw [if_pos e0] at z; exact z)) (va_cwO 1 hts gX1_graspOf_X0_grasp_u92X0 rfl rfl rfl (b0 := cX4_grasp) (m0 := 2) (r0 := some .int) (by decide +kernel) (by decide +kernel) ⟨Nat.le_of_ble_eq_true rfl, Nat.le_of_ble_eq_true rfl⟩) (rest := []) rfl hl.1 rfl (Nat.le_of_ble_eq_true rfl) dX1_graspOf_19 kk11
    · exact cc_calPU hm8 X G e0 (C := RX3) rfl (ctX3_grasp l g.1 _ _ (cc_cls (by obtain ⟨⟨_, hok, _, _⟩, _⟩ := G; exact hok.2) hm8) _ (by have z := hc11; unfold Cl_grasp at z; rw [if_neg (by rw [e0]; decide)] at z; rw [if_pos e0] at z; exact z)) (va_cwO 1 hts gX1_graspOf_X3_grasp_u92X3 rfl rfl rfl (b0 := cX4_grasp) (m0 := 2) (r0 := some .int) (by decide +kernel) (by decide +kernel) ⟨Nat.le_of_ble_eq_true rfl, Nat.le_of_ble_eq_true rfl⟩) (rest := []) rfl hl.1 rfl (Nat.le_of_ble_eq_true rfl) dX1_graspOf_19 kk11
    · exact cc_calPV hm8 X G e0 (C := RX4) rfl (ctX4_grasp l g.1 _ _ (cc_cls (by obtain ⟨⟨_, hok, _, _⟩, _⟩ := G; exact hok.2) hm8) _ (by have z := hc11; unfold Cl_grasp at z; rw [if_neg (by rw [e0]; decide)] at z; rw [if_neg (by rw [e0]; decide)] at z; exact z)) (cwV 1 hts gX1_graspOf_X4_grasp rfl rfl rfl (by decide +kernel) ⟨Nat.le_of_ble_eq_true rfl, Nat.le_of_ble_eq_true rfl⟩) (rest := []) rfl hl.1 rfl (Nat.le_of_ble_eq_true rfl) dX1_graspOf_19 kk11
    · exact cc_calPU hm8 X G e0 (C := RX5) rfl (ctX4_grasp l g.1 _ _ (cc_cls (by obtain ⟨⟨_, hok, _, _⟩, _⟩ := G; exact hok.2) hm8) _ (by have z := hc11; unfold Cl_grasp at z; rw [if_neg (by rw [e0]; decide)] at z; rw [if_neg (by rw [e0]; decide)] at z; exact z)) (va_cwU 1 hts gX1_graspOf_X4_grasp_u92X5 rfl rfl rfl rfl (by decide +kernel) ⟨Nat.le_of_ble_eq_true rfl, Nat.le_of_ble_eq_true rfl⟩) (rest := []) rfl hl.1 rfl (Nat.le_of_ble_eq_true rfl) dX1_graspOf_19 kk11
    · exact cc_calPU hm8 X G e0 (C := RX8) rfl (ctX4_grasp l g.1 _ _ (cc_cls (by obtain ⟨⟨_, hok, _, _⟩, _⟩ := G; exact hok.2) hm8) _ (by have z := hc11; unfold Cl_grasp at z; rw [if_neg (by rw [e0]; decide)] at z; rw [if_neg (by rw [e0]; decide)] at z; exact z)) (va_cwU 1 hts gX1_graspOf_X4_grasp_u92X8 rfl rfl rfl rfl (by decide +kernel) ⟨Nat.le_of_ble_eq_true rfl, Nat.le_of_ble_eq_true rfl⟩) (rest := []) rfl hl.1 rfl (Nat.le_of_ble_eq_true rfl) dX1_graspOf_19 kk11
    · exact cc_calPU hm8 X G e0 (C := RX9) rfl (ctX4_grasp l g.1 _ _ (cc_cls (by obtain ⟨⟨_, hok, _, _⟩, _⟩ := G; exact hok.2) hm8) _ (by have z := hc11; unfold Cl_grasp at z; rw [if_neg (by rw [e0]; decide)] at z; rw [if_neg (by rw [e0]; decide)] at z; exact z)) (va_cwU 1 hts gX1_graspOf_X4_grasp_u92X9 rfl rfl rfl rfl (by decide +kernel) ⟨Nat.le_of_ble_eq_true rfl, Nat.le_of_ble_eq_true rfl⟩) (rest := []) rfl hl.1 rfl (Nat.le_of_ble_eq_true rfl) dX1_graspOf_19 kk11
noncomputable def C_isBall (v0 : Int32) : Option Int32 := pp_lj (fun (a1 : Unit) => (some (0 : Int32) : Option Int32)) (fun j1 => (if v0 < (0 : Int32) then j1 () else (if (6 : Int32) ≤ v0 then j1 () else some (1 : Int32))))
abbrev rmX10_isBall : Room := { frames := 0, cells := 0, slots := 0, locals := 0 }
set_option maxHeartbeats 4000000 in
set_option maxRecDepth 100000 in
theorem ctX10_isBall (l : Launch) (v0 : Int32) {res : Int32} (h : C_isBall v0 = some res) : xs_Mi l yX10_isBall wsX10_isBall rmX10_isBall [.int v0] res := by
  intro sz
  unfold C_isBall at h
  refine xs_ofW (own := RX10) (by decide) rfl rfl (Nat.le_of_ble_eq_true rfl) ?_
  intro p e s m args below meth c ls X hr hlk hl Q hQ
  have hx := X.1
  have hb := X.2.1
  have hown := X.2.2.2.1
  have hts := X.2.2.2.2
  have hl : lv_has ls 1 [(0, .int v0)] := hl
  refine lv_iload_n hx hb dX10_isBall_0 rfl (lv_at hl 0 rfl) ?_
  obtain ⟨j1, ej1, h2⟩ := pp_lj_ex h
  clear h
  have hj1 : ∀ (a1 : Unit) (ls : Array Slot), j1 a1 = some res → lv_has ls 1 [] → W p l e (headSpec wsX10_isBall rmX10_isBall).room s m args below meth c s.heap [] 0 0 Q (F0 m 14 ls []) := by
    intro a1 ls h hl
    have h3 := pp_jmp ej1 h
    clear h h2
    refine lv_iconst (v := 0) hx hb dX10_isBall_14 (by decide) ?_
    exact xs_iret hx hb hr hlk rfl h3 hQ dX10_isBall_15
  refine lv_if_lt (tgt := 14) hx hb dX10_isBall_1 (by decide) (fun c4 => ?_) (fun c4 => ?_)
  · have h5 := pp_t c4 h2
    clear h2
    exact hj1 _ ls h5 (lv_sub hl [] rfl)
  · have h6 := pp_f c4 h2
    clear h2
    refine lv_iload_n hx hb dX10_isBall_4 rfl (lv_at hl 0 rfl) ?_
    refine lv_bipush (v := 6) hx hb dX10_isBall_5 (by decide) ?_
    refine lv_icmp_ge (tgt := 14) hx hb dX10_isBall_7 (by decide) (fun c7 => ?_) (fun c7 => ?_)
    · have h8 := pp_t c7 h6
      clear h6
      exact hj1 _ ls h8 (lv_sub hl [] rfl)
    · have h9 := pp_f c7 h6
      clear h6
      refine lv_iconst (v := 1) hx hb dX10_isBall_10 (by decide) ?_
      refine lv_goto (tgt := 15) hx hb dX10_isBall_11 (by decide) ?_
      exact xs_iret hx hb hr hlk rfl h9 hQ dX10_isBall_15
noncomputable def K_holderOf (x : cc_CT) (v1 : Int32) : Option Int32 := pp_ob (C_isBall v1) (fun r1 => (if r1 = (0 : Int32) then some (-9 : Int32) else pp_ix v1 6 (some (x.1.2.1 4 (Int32.toNatClampNeg v1)))))
abbrev rmX1_holderOf : Room := { frames := 1, cells := 0, slots := 0, locals := 20 }
set_option maxHeartbeats 4000000 in
set_option maxRecDepth 100000 in
theorem ctX1_holderOf (l : Launch) (g : cc_G) (pls : va_W) (q : cc_S) {k : Nat} (hk : k < 3) (x : cc_CT) (v1 : Int32) {res : Int32} (h : K_holderOf x v1 = some res) : cc_Mi l yX1_holderOf wsX1_holderOf rmX1_holderOf g pls [.ref (cc_ad g (10 + 20 * k)), .int v1] (cc_pC q k x) res (cc_pC q k x) := by
  intro sz A hA
  unfold K_holderOf at h
  refine cc_ofW hA (own := RX1) (by decide) rfl rfl (Nat.le_of_ble_eq_true rfl) ?_
  intro p e s m args below meth c ls X hr hlk G hl Q hQ
  have hx := X.1.1
  have hb := X.1.2.1
  have hown := X.1.2.2.2.1
  have hts := X.1.2.2.2.2
  refine (fun (key : ∀ (H : Heap) (locs : List Loc), cc_H g A pls (cc_pC q k x) s H locs → W p l e (headSpec wsX1_holderOf rmX1_holderOf).room s m args below meth c H locs 0 0 Q (F0 m 0 ls [])) => key _ _ G) ?_
  clear G
  intro H locs G
  have hl : lv_has ls 2 [(0, .ref (cc_ad g (10 + 20 * k))), (1, .int v1)] := hl
  have hf27 : Cond.fieldLink RX1 27 (TX1 4).1 (TX1 4).2.1 (TX1 4).2.2.1 ∈ wsX1_holderOf := by decide +kernel
  have hin1 : ∀ y ∈ wsX10, y ∈ wsX1_holderOf := (fun _ z => List.mem_cons_of_mem _ (List.mem_append_right _ z))
  refine lv_iload_n hx hb dX1_holderOf_0 rfl (lv_at hl 1 rfl) ?_
  obtain ⟨r1, hc1, h2⟩ := pp_ob_ex h
  clear h
  refine cc_csn X G (ctX10_isBall l _ hc1) ⟨va_cnB 1 hts gX1_holderOf_X10_isBall_n95 rfl rfl rfl (X.2.1.2.1 (.methodLinkNest RX1 95 yX10_isBall RX10) (by decide +kernel)) (hts (.initialized RX10) (by decide +kernel)) (by decide +kernel) ⟨Nat.le_of_ble_eq_true rfl, Nat.le_of_ble_eq_true rfl⟩, hts (.static yX10_isBall) (by decide +kernel), trivial⟩ (rest := []) rfl hl.1 rfl (Nat.le_of_ble_eq_true rfl) dX1_holderOf_1 (fun H locs G => ?_)
  refine lv_if_eq (tgt := 16) hx hb dX1_holderOf_4 (by decide) (fun c3 => ?_) (fun c3 => ?_)
  · have h4 := pp_t c3 h2
    clear h2
    refine lv_bipush (v := -9) hx hb dX1_holderOf_16 (by decide) ?_
    exact cc_iret X hr hlk rfl G (Option.some.inj h4) rfl hQ dX1_holderOf_18
  · have h5 := pp_f c3 h2
    clear h2
    refine lv_aload_n hx hb dX1_holderOf_7 rfl (lv_at hl 0 rfl) ?_
    refine cc_get (co_crt g q hk) X G (x := x) rfl hin1 4 (by decide) hf27 (v := .ref (cc_ad g (10 + 20 * k + 6))) rfl dX1_holderOf_8 ?_
    refine lv_iload_n hx hb dX1_holderOf_11 rfl (lv_at hl 1 rfl) ?_
    obtain ⟨hi6, h7⟩ := pp_ix_ex h5
    clear h5
    refine cc_iald (ca_4 g q hk) X G (x := x) hi6 dX1_holderOf_12 ?_
    refine lv_goto (tgt := 18) hx hb dX1_holderOf_13 (by decide) ?_
    exact cc_iret X hr hlk rfl G (Option.some.inj h7) rfl hQ dX1_holderOf_18
noncomputable def K_floorOf (x : cc_CT) (v1 : Int32) : Option Int32 := pp_ob (C_isBall v1) (fun r1 => (if r1 = (0 : Int32) then some (-9 : Int32) else pp_ix v1 6 (some (x.1.2.1 5 (Int32.toNatClampNeg v1)))))
abbrev rmX1_floorOf : Room := { frames := 1, cells := 0, slots := 0, locals := 20 }
set_option maxHeartbeats 4000000 in
set_option maxRecDepth 100000 in
theorem ctX1_floorOf (l : Launch) (g : cc_G) (pls : va_W) (q : cc_S) {k : Nat} (hk : k < 3) (x : cc_CT) (v1 : Int32) {res : Int32} (h : K_floorOf x v1 = some res) : cc_Mi l yX1_floorOf wsX1_floorOf rmX1_floorOf g pls [.ref (cc_ad g (10 + 20 * k)), .int v1] (cc_pC q k x) res (cc_pC q k x) := by
  intro sz A hA
  unfold K_floorOf at h
  refine cc_ofW hA (own := RX1) (by decide) rfl rfl (Nat.le_of_ble_eq_true rfl) ?_
  intro p e s m args below meth c ls X hr hlk G hl Q hQ
  have hx := X.1.1
  have hb := X.1.2.1
  have hown := X.1.2.2.2.1
  have hts := X.1.2.2.2.2
  refine (fun (key : ∀ (H : Heap) (locs : List Loc), cc_H g A pls (cc_pC q k x) s H locs → W p l e (headSpec wsX1_floorOf rmX1_floorOf).room s m args below meth c H locs 0 0 Q (F0 m 0 ls [])) => key _ _ G) ?_
  clear G
  intro H locs G
  have hl : lv_has ls 2 [(0, .ref (cc_ad g (10 + 20 * k))), (1, .int v1)] := hl
  have hf31 : Cond.fieldLink RX1 31 (TX1 5).1 (TX1 5).2.1 (TX1 5).2.2.1 ∈ wsX1_floorOf := by decide +kernel
  have hin1 : ∀ y ∈ wsX10, y ∈ wsX1_floorOf := (fun _ z => List.mem_cons_of_mem _ (List.mem_append_right _ z))
  refine lv_iload_n hx hb dX1_floorOf_0 rfl (lv_at hl 1 rfl) ?_
  obtain ⟨r1, hc1, h2⟩ := pp_ob_ex h
  clear h
  refine cc_csn X G (ctX10_isBall l _ hc1) ⟨va_cnB 1 hts gX1_floorOf_X10_isBall_n95 rfl rfl rfl (X.2.1.2.1 (.methodLinkNest RX1 95 yX10_isBall RX10) (by decide +kernel)) (hts (.initialized RX10) (by decide +kernel)) (by decide +kernel) ⟨Nat.le_of_ble_eq_true rfl, Nat.le_of_ble_eq_true rfl⟩, hts (.static yX10_isBall) (by decide +kernel), trivial⟩ (rest := []) rfl hl.1 rfl (Nat.le_of_ble_eq_true rfl) dX1_floorOf_1 (fun H locs G => ?_)
  refine lv_if_eq (tgt := 16) hx hb dX1_floorOf_4 (by decide) (fun c3 => ?_) (fun c3 => ?_)
  · have h4 := pp_t c3 h2
    clear h2
    refine lv_bipush (v := -9) hx hb dX1_floorOf_16 (by decide) ?_
    exact cc_iret X hr hlk rfl G (Option.some.inj h4) rfl hQ dX1_floorOf_18
  · have h5 := pp_f c3 h2
    clear h2
    refine lv_aload_n hx hb dX1_floorOf_7 rfl (lv_at hl 0 rfl) ?_
    refine cc_get (co_crt g q hk) X G (x := x) rfl hin1 5 (by decide) hf31 (v := .ref (cc_ad g (10 + 20 * k + 7))) rfl dX1_floorOf_8 ?_
    refine lv_iload_n hx hb dX1_floorOf_11 rfl (lv_at hl 1 rfl) ?_
    obtain ⟨hi6, h7⟩ := pp_ix_ex h5
    clear h5
    refine cc_iald (ca_5 g q hk) X G (x := x) hi6 dX1_floorOf_12 ?_
    refine lv_goto (tgt := 18) hx hb dX1_floorOf_13 (by decide) ?_
    exact cc_iret X hr hlk rfl G (Option.some.inj h7) rfl hQ dX1_floorOf_18
noncomputable def K_heldOf (x : cc_CT) (v1 : Int32) : Option Int32 := pp_ob (C_isBall v1) (fun r1 => (if r1 = (0 : Int32) then some (0 : Int32) else pp_ix v1 6 (some (x.1.2.1 6 (Int32.toNatClampNeg v1)))))
abbrev rmX1_heldOf : Room := { frames := 1, cells := 0, slots := 0, locals := 20 }
set_option maxHeartbeats 4000000 in
set_option maxRecDepth 100000 in
theorem ctX1_heldOf (l : Launch) (g : cc_G) (pls : va_W) (q : cc_S) {k : Nat} (hk : k < 3) (x : cc_CT) (v1 : Int32) {res : Int32} (h : K_heldOf x v1 = some res) : cc_Mi l yX1_heldOf wsX1_heldOf rmX1_heldOf g pls [.ref (cc_ad g (10 + 20 * k)), .int v1] (cc_pC q k x) res (cc_pC q k x) := by
  intro sz A hA
  unfold K_heldOf at h
  refine cc_ofW hA (own := RX1) (by decide) rfl rfl (Nat.le_of_ble_eq_true rfl) ?_
  intro p e s m args below meth c ls X hr hlk G hl Q hQ
  have hx := X.1.1
  have hb := X.1.2.1
  have hown := X.1.2.2.2.1
  have hts := X.1.2.2.2.2
  refine (fun (key : ∀ (H : Heap) (locs : List Loc), cc_H g A pls (cc_pC q k x) s H locs → W p l e (headSpec wsX1_heldOf rmX1_heldOf).room s m args below meth c H locs 0 0 Q (F0 m 0 ls [])) => key _ _ G) ?_
  clear G
  intro H locs G
  have hl : lv_has ls 2 [(0, .ref (cc_ad g (10 + 20 * k))), (1, .int v1)] := hl
  have hf34 : Cond.fieldLink RX1 34 (TX1 6).1 (TX1 6).2.1 (TX1 6).2.2.1 ∈ wsX1_heldOf := by decide +kernel
  have hin1 : ∀ y ∈ wsX10, y ∈ wsX1_heldOf := (fun _ z => List.mem_cons_of_mem _ (List.mem_append_right _ z))
  refine lv_iload_n hx hb dX1_heldOf_0 rfl (lv_at hl 1 rfl) ?_
  obtain ⟨r1, hc1, h2⟩ := pp_ob_ex h
  clear h
  refine cc_csn X G (ctX10_isBall l _ hc1) ⟨va_cnB 1 hts gX1_heldOf_X10_isBall_n95 rfl rfl rfl (X.2.1.2.1 (.methodLinkNest RX1 95 yX10_isBall RX10) (by decide +kernel)) (hts (.initialized RX10) (by decide +kernel)) (by decide +kernel) ⟨Nat.le_of_ble_eq_true rfl, Nat.le_of_ble_eq_true rfl⟩, hts (.static yX10_isBall) (by decide +kernel), trivial⟩ (rest := []) rfl hl.1 rfl (Nat.le_of_ble_eq_true rfl) dX1_heldOf_1 (fun H locs G => ?_)
  refine lv_if_eq (tgt := 16) hx hb dX1_heldOf_4 (by decide) (fun c3 => ?_) (fun c3 => ?_)
  · have h4 := pp_t c3 h2
    clear h2
    refine lv_iconst (v := 0) hx hb dX1_heldOf_16 (by decide) ?_
    exact cc_iret X hr hlk rfl G (Option.some.inj h4) rfl hQ dX1_heldOf_17
  · have h5 := pp_f c3 h2
    clear h2
    refine lv_aload_n hx hb dX1_heldOf_7 rfl (lv_at hl 0 rfl) ?_
    refine cc_get (co_crt g q hk) X G (x := x) rfl hin1 6 (by decide) hf34 (v := .ref (cc_ad g (10 + 20 * k + 8))) rfl dX1_heldOf_8 ?_
    refine lv_iload_n hx hb dX1_heldOf_11 rfl (lv_at hl 1 rfl) ?_
    obtain ⟨hi6, h7⟩ := pp_ix_ex h5
    clear h5
    refine cc_iald (ca_6 g q hk) X G (x := x) hi6 dX1_heldOf_12 ?_
    refine lv_goto (tgt := 17) hx hb dX1_heldOf_13 (by decide) ?_
    exact cc_iret X hr hlk rfl G (Option.some.inj h7) rfl hQ dX1_heldOf_17
noncomputable def K_leastBallOf (x : cc_CT) (v1 : Int32) : Option Int32 := pp_it (fun (self1 : Int32 → Option Int32) (a1 : Int32) => (if (6 : Int32) ≤ a1 then some (-9 : Int32) else pp_ob (K_isPlayer x v1) (fun r5 => (if r5 = (0 : Int32) then some (-9 : Int32) else pp_ix a1 6 ((if (x.1.2.1 4 (Int32.toNatClampNeg a1)) = v1 then some a1 else pp_lj (a1 + 1 : Int32) (fun x14 => self1 x14))))))) 200 (0 : Int32)
abbrev rmX1_leastBallOf : Room := { frames := 1, cells := 0, slots := 0, locals := 21 }
set_option maxHeartbeats 4000000 in
set_option maxRecDepth 100000 in
theorem ctX1_leastBallOf (l : Launch) (g : cc_G) (pls : va_W) (q : cc_S) {k : Nat} (hk : k < 3) (x : cc_CT) (v1 : Int32) {res : Int32} (h : K_leastBallOf x v1 = some res) : cc_Mi l yX1_leastBallOf wsX1_leastBallOf rmX1_leastBallOf g pls [.ref (cc_ad g (10 + 20 * k)), .int v1] (cc_pC q k x) res (cc_pC q k x) := by
  intro sz A hA
  unfold K_leastBallOf at h
  refine cc_ofW hA (own := RX1) (by decide) rfl rfl (Nat.le_of_ble_eq_true rfl) ?_
  intro p e s m args below meth c ls X hr hlk G hl Q hQ
  have hx := X.1.1
  have hb := X.1.2.1
  have hown := X.1.2.2.2.1
  have hts := X.1.2.2.2.2
  refine (fun (key : ∀ (H : Heap) (locs : List Loc), cc_H g A pls (cc_pC q k x) s H locs → W p l e (headSpec wsX1_leastBallOf rmX1_leastBallOf).room s m args below meth c H locs 0 0 Q (F0 m 0 ls [])) => key _ _ G) ?_
  clear G
  intro H locs G
  have hl : lv_has ls 3 [(0, .ref (cc_ad g (10 + 20 * k))), (1, .int v1)] := hl
  have hf27 : Cond.fieldLink RX1 27 (TX1 4).1 (TX1 4).2.1 (TX1 4).2.2.1 ∈ wsX1_leastBallOf := by decide +kernel
  have hin1 : ∀ y ∈ wsX10, y ∈ wsX1_leastBallOf := (fun _ z => List.mem_cons_of_mem _ (List.mem_append_right _ z))
  refine lv_iconst (v := 0) hx hb dX1_leastBallOf_0 (by decide) ?_
  refine lv_istore_n (lv' := [(2, .int (0 : Int32)), (0, .ref (cc_ad g (10 + 20 * k))), (1, .int v1)]) hx hb dX1_leastBallOf_1 rfl hl (by decide) rfl (fun ls hl => ?_)
  refine pp_loop (I := fun (a1 : Int32) => ∀ (H : Heap) (locs : List Loc) (ls : Array Slot), cc_H g A pls (cc_pC q k x) s H locs → lv_has ls 3 [(0, .ref (cc_ad g (10 + 20 * k))), (1, .int v1), (2, .int a1)] → W p l e (headSpec wsX1_leastBallOf rmX1_leastBallOf).room s m args below meth c H locs 0 0 Q (F0 m 2 ls [])) ?_ 200 _ h H locs ls G (lv_sub hl [1, 2, 0] rfl)
  clear h
  intro self1 ih1 a1 h1 H locs ls G hl
  refine lv_iload_n hx hb dX1_leastBallOf_2 rfl (lv_at hl 2 rfl) ?_
  refine lv_bipush (v := 6) hx hb dX1_leastBallOf_3 (by decide) ?_
  refine lv_icmp_ge (tgt := 34) hx hb dX1_leastBallOf_5 (by decide) (fun c2 => ?_) (fun c2 => ?_)
  · have h3 := pp_t c2 h1
    clear h1
    refine lv_bipush (v := -9) hx hb dX1_leastBallOf_34 (by decide) ?_
    exact cc_iret X hr hlk rfl G (Option.some.inj h3) rfl hQ dX1_leastBallOf_36
  · have h4 := pp_f c2 h1
    clear h1
    refine lv_aload_n hx hb dX1_leastBallOf_8 rfl (lv_at hl 0 rfl) ?_
    refine lv_iload_n hx hb dX1_leastBallOf_9 rfl (lv_at hl 1 rfl) ?_
    obtain ⟨r5, hc5, h6⟩ := pp_ob_ex h4
    clear h4
    refine cc_cali (q2 := (cc_pC q k x)) rfl rfl (co_crt g q hk) X G (x := x) rfl (ctX1_isPlayer l g pls q hk x _ hc5) (cwV 1 hts gX1_leastBallOf_X1_isPlayer rfl rfl rfl (by decide +kernel) ⟨Nat.le_of_ble_eq_true rfl, Nat.le_of_ble_eq_true rfl⟩) (rest := []) rfl hl.1 rfl (Nat.le_of_ble_eq_true rfl) dX1_leastBallOf_10 (fun H locs G => ?_)
    refine lv_if_eq (tgt := 34) hx hb dX1_leastBallOf_13 (by decide) (fun c7 => ?_) (fun c7 => ?_)
    · have h8 := pp_t c7 h6
      clear h6
      refine lv_bipush (v := -9) hx hb dX1_leastBallOf_34 (by decide) ?_
      exact cc_iret X hr hlk rfl G (Option.some.inj h8) rfl hQ dX1_leastBallOf_36
    · have h9 := pp_f c7 h6
      clear h6
      refine lv_aload_n hx hb dX1_leastBallOf_16 rfl (lv_at hl 0 rfl) ?_
      refine cc_get (co_crt g q hk) X G (x := x) rfl hin1 4 (by decide) hf27 (v := .ref (cc_ad g (10 + 20 * k + 6))) rfl dX1_leastBallOf_17 ?_
      refine lv_iload_n hx hb dX1_leastBallOf_20 rfl (lv_at hl 2 rfl) ?_
      obtain ⟨hi10, h11⟩ := pp_ix_ex h9
      clear h9
      refine cc_iald (ca_4 g q hk) X G (x := x) hi10 dX1_leastBallOf_21 ?_
      refine lv_iload_n hx hb dX1_leastBallOf_22 rfl (lv_at hl 1 rfl) ?_
      refine lv_icmp_ne (tgt := 28) hx hb dX1_leastBallOf_23 (by decide) (fun c12 => ?_) (fun c12 => ?_)
      · have h13 := pp_f c12 h11
        clear h11
        obtain ⟨x14, ex14, h15⟩ := pp_lj_ex h13
        clear h13
        refine lv_iinc (v := x14) (lv' := [(2, .int x14), (0, .ref (cc_ad g (10 + 20 * k))), (1, .int v1)]) hx hb dX1_leastBallOf_28 hl (k := 2) rfl (by rw [ex14]; rfl) (by decide) rfl (fun ls hl => ?_)
        refine lv_goto (tgt := 2) hx hb dX1_leastBallOf_31 (by decide) ?_
        exact ih1 _ h15 H locs ls G (lv_sub hl [1, 2, 0] rfl)
      · have h16 := pp_t c12 h11
        clear h11
        refine lv_iload_n hx hb dX1_leastBallOf_26 rfl (lv_at hl 2 rfl) ?_
        exact cc_iret X hr hlk rfl G (Option.some.inj h16) rfl hQ dX1_leastBallOf_27
noncomputable def J_bitCount (v0 : Int32) : Option Int32 := pp_lj ((v0 - ((Int32.toUInt32 v0 >>> (Int32.toUInt32 (1 : Int32) &&& Int32.toUInt32 31)).toInt32 &&& (1431655765 : Int32))) : Int32) (fun x1 => pp_lj (((x1 &&& (858993459 : Int32)) + ((Int32.toUInt32 x1 >>> (Int32.toUInt32 (2 : Int32) &&& Int32.toUInt32 31)).toInt32 &&& (858993459 : Int32))) : Int32) (fun x3 => pp_lj (((x3 + (Int32.toUInt32 x3 >>> (Int32.toUInt32 (4 : Int32) &&& Int32.toUInt32 31)).toInt32) &&& (252645135 : Int32)) : Int32) (fun x5 => pp_lj ((x5 + (Int32.toUInt32 x5 >>> (Int32.toUInt32 (8 : Int32) &&& Int32.toUInt32 31)).toInt32) : Int32) (fun x7 => pp_lj ((x7 + (Int32.toUInt32 x7 >>> (Int32.toUInt32 (16 : Int32) &&& Int32.toUInt32 31)).toInt32) : Int32) (fun x9 => some (x9 &&& (63 : Int32)))))))
abbrev rmJ6_bitCount_0f7a4 : Room := { frames := 0, cells := 0, slots := 0, locals := 0 }
set_option maxHeartbeats 4000000 in
set_option maxRecDepth 100000 in
theorem ctJ6_bitCount_0f7a4 (l : Launch) (v0 : Int32) {res : Int32} (h : J_bitCount v0 = some res) : xs_Mi l yJ6_bitCount_0f7a4 wsJ6_bitCount_0f7a4 rmJ6_bitCount_0f7a4 [.int v0] res := by
  intro sz
  unfold J_bitCount at h
  refine xs_ofW (own := RJ6) (by decide) rfl rfl (Nat.le_of_ble_eq_true rfl) ?_
  intro p e s m args below meth c ls X hr hlk hl Q hQ
  have hx := X.1
  have hb := X.2.1
  have hown := X.2.2.2.1
  have hts := X.2.2.2.2
  have hl : lv_has ls 1 [(0, .int v0)] := hl
  refine lv_iload_n hx hb dJ6_bitCount_0f7a4_0 rfl (lv_at hl 0 rfl) ?_
  refine lv_iload_n hx hb dJ6_bitCount_0f7a4_1 rfl (lv_at hl 0 rfl) ?_
  refine lv_iconst (v := 1) hx hb dJ6_bitCount_0f7a4_2 (by decide) ?_
  refine lv_iushr hx hb dJ6_bitCount_0f7a4_3 rfl ?_
  refine lv_ldcw (v := 1431655765) hx hb hown (hts (.constant RJ6 265 (1431655765)) (by decide +kernel)) dJ6_bitCount_0f7a4_4 ?_
  refine lv_iand hx hb dJ6_bitCount_0f7a4_7 ?_
  refine lv_isub hx hb dJ6_bitCount_0f7a4_8 ?_
  obtain ⟨x1, ex1, h2⟩ := pp_lj_ex h
  clear h
  refine lv_nmi ex1 ?_
  refine lv_istore_n (lv' := [(0, .int x1)]) hx hb dJ6_bitCount_0f7a4_9 rfl hl (by decide) rfl (fun ls hl => ?_)
  refine lv_iload_n hx hb dJ6_bitCount_0f7a4_10 rfl (lv_at hl 0 rfl) ?_
  refine lv_ldcw (v := 858993459) hx hb hown (hts (.constant RJ6 266 (858993459)) (by decide +kernel)) dJ6_bitCount_0f7a4_11 ?_
  refine lv_iand hx hb dJ6_bitCount_0f7a4_14 ?_
  refine lv_iload_n hx hb dJ6_bitCount_0f7a4_15 rfl (lv_at hl 0 rfl) ?_
  refine lv_iconst (v := 2) hx hb dJ6_bitCount_0f7a4_16 (by decide) ?_
  refine lv_iushr hx hb dJ6_bitCount_0f7a4_17 rfl ?_
  refine lv_ldcw (v := 858993459) hx hb hown (hts (.constant RJ6 266 (858993459)) (by decide +kernel)) dJ6_bitCount_0f7a4_18 ?_
  refine lv_iand hx hb dJ6_bitCount_0f7a4_21 ?_
  refine lv_iadd hx hb dJ6_bitCount_0f7a4_22 ?_
  obtain ⟨x3, ex3, h4⟩ := pp_lj_ex h2
  clear h2
  refine lv_nmi ex3 ?_
  refine lv_istore_n (lv' := [(0, .int x3)]) hx hb dJ6_bitCount_0f7a4_23 rfl hl (by decide) rfl (fun ls hl => ?_)
  refine lv_iload_n hx hb dJ6_bitCount_0f7a4_24 rfl (lv_at hl 0 rfl) ?_
  refine lv_iload_n hx hb dJ6_bitCount_0f7a4_25 rfl (lv_at hl 0 rfl) ?_
  refine lv_iconst (v := 4) hx hb dJ6_bitCount_0f7a4_26 (by decide) ?_
  refine lv_iushr hx hb dJ6_bitCount_0f7a4_27 rfl ?_
  refine lv_iadd hx hb dJ6_bitCount_0f7a4_28 ?_
  refine lv_ldcw (v := 252645135) hx hb hown (hts (.constant RJ6 267 (252645135)) (by decide +kernel)) dJ6_bitCount_0f7a4_29 ?_
  refine lv_iand hx hb dJ6_bitCount_0f7a4_32 ?_
  obtain ⟨x5, ex5, h6⟩ := pp_lj_ex h4
  clear h4
  refine lv_nmi ex5 ?_
  refine lv_istore_n (lv' := [(0, .int x5)]) hx hb dJ6_bitCount_0f7a4_33 rfl hl (by decide) rfl (fun ls hl => ?_)
  refine lv_iload_n hx hb dJ6_bitCount_0f7a4_34 rfl (lv_at hl 0 rfl) ?_
  refine lv_iload_n hx hb dJ6_bitCount_0f7a4_35 rfl (lv_at hl 0 rfl) ?_
  refine lv_bipush (v := 8) hx hb dJ6_bitCount_0f7a4_36 (by decide) ?_
  refine lv_iushr hx hb dJ6_bitCount_0f7a4_38 rfl ?_
  refine lv_iadd hx hb dJ6_bitCount_0f7a4_39 ?_
  obtain ⟨x7, ex7, h8⟩ := pp_lj_ex h6
  clear h6
  refine lv_nmi ex7 ?_
  refine lv_istore_n (lv' := [(0, .int x7)]) hx hb dJ6_bitCount_0f7a4_40 rfl hl (by decide) rfl (fun ls hl => ?_)
  refine lv_iload_n hx hb dJ6_bitCount_0f7a4_41 rfl (lv_at hl 0 rfl) ?_
  refine lv_iload_n hx hb dJ6_bitCount_0f7a4_42 rfl (lv_at hl 0 rfl) ?_
  refine lv_bipush (v := 16) hx hb dJ6_bitCount_0f7a4_43 (by decide) ?_
  refine lv_iushr hx hb dJ6_bitCount_0f7a4_45 rfl ?_
  refine lv_iadd hx hb dJ6_bitCount_0f7a4_46 ?_
  obtain ⟨x9, ex9, h10⟩ := pp_lj_ex h8
  clear h8
  refine lv_nmi ex9 ?_
  refine lv_istore_n (lv' := [(0, .int x9)]) hx hb dJ6_bitCount_0f7a4_47 rfl hl (by decide) rfl (fun ls hl => ?_)
  refine lv_iload_n hx hb dJ6_bitCount_0f7a4_48 rfl (lv_at hl 0 rfl) ?_
  refine lv_bipush (v := 63) hx hb dJ6_bitCount_0f7a4_49 (by decide) ?_
  refine lv_iand hx hb dJ6_bitCount_0f7a4_51 ?_
  exact xs_iret hx hb hr hlk rfl h10 hQ dJ6_bitCount_0f7a4_52
noncomputable def K_hasHandFree (x : cc_CT) (v1 : Int32) : Option Int32 := pp_ob (K_isIn x v1) (fun r1 => pp_lj (fun (a3 : Unit) => (some (0 : Int32) : Option Int32)) (fun j3 => (if r1 = (0 : Int32) then j3 () else pp_ob (K_ballsOf x v1) (fun r9 => pp_ob (J_bitCount r9) (fun r11 => (if (2 : Int32) ≤ r11 then j3 () else some (1 : Int32)))))))
abbrev rmX1_hasHandFree : Room := { frames := 2, cells := 0, slots := 0, locals := 44 }
set_option maxHeartbeats 4000000 in
set_option maxRecDepth 100000 in
theorem ctX1_hasHandFree (l : Launch) (g : cc_G) (pls : va_W) (q : cc_S) {k : Nat} (hk : k < 3) (x : cc_CT) (v1 : Int32) {res : Int32} (h : K_hasHandFree x v1 = some res) : cc_Mi l yX1_hasHandFree wsX1_hasHandFree rmX1_hasHandFree g pls [.ref (cc_ad g (10 + 20 * k)), .int v1] (cc_pC q k x) res (cc_pC q k x) := by
  intro sz A hA
  unfold K_hasHandFree at h
  refine cc_ofW hA (own := RX1) (by decide) rfl rfl (Nat.le_of_ble_eq_true rfl) ?_
  intro p e s m args below meth c ls X hr hlk G hl Q hQ
  have hx := X.1.1
  have hb := X.1.2.1
  have hown := X.1.2.2.2.1
  have hts := X.1.2.2.2.2
  refine (fun (key : ∀ (H : Heap) (locs : List Loc), cc_H g A pls (cc_pC q k x) s H locs → W p l e (headSpec wsX1_hasHandFree rmX1_hasHandFree).room s m args below meth c H locs 0 0 Q (F0 m 0 ls [])) => key _ _ G) ?_
  clear G
  intro H locs G
  have hl : lv_has ls 2 [(0, .ref (cc_ad g (10 + 20 * k))), (1, .int v1)] := hl
  refine lv_aload_n hx hb dX1_hasHandFree_0 rfl (lv_at hl 0 rfl) ?_
  refine lv_iload_n hx hb dX1_hasHandFree_1 rfl (lv_at hl 1 rfl) ?_
  obtain ⟨r1, hc1, h2⟩ := pp_ob_ex h
  clear h
  refine cc_cali (q2 := (cc_pC q k x)) rfl rfl (co_crt g q hk) X G (x := x) rfl (ctX1_isIn l g pls q hk x _ hc1) (cwV 1 hts gX1_hasHandFree_X1_isIn rfl rfl rfl (by decide +kernel) ⟨Nat.le_of_ble_eq_true rfl, Nat.le_of_ble_eq_true rfl⟩) (rest := []) rfl hl.1 rfl (Nat.le_of_ble_eq_true rfl) dX1_hasHandFree_2 (fun H locs G => ?_)
  obtain ⟨j3, ej3, h4⟩ := pp_lj_ex h2
  clear h2
  have hj3 : ∀ (a3 : Unit) (H : Heap) (locs : List Loc) (ls : Array Slot), j3 a3 = some res → cc_H g A pls (cc_pC q k x) s H locs → lv_has ls 2 [] → W p l e (headSpec wsX1_hasHandFree rmX1_hasHandFree).room s m args below meth c H locs 0 0 Q (F0 m 24 ls []) := by
    intro a3 H locs ls h G hl
    have h5 := pp_jmp ej3 h
    clear h h4
    refine lv_iconst (v := 0) hx hb dX1_hasHandFree_24 (by decide) ?_
    exact cc_iret X hr hlk rfl G (Option.some.inj h5) rfl hQ dX1_hasHandFree_25
  refine lv_if_eq (tgt := 24) hx hb dX1_hasHandFree_5 (by decide) (fun c6 => ?_) (fun c6 => ?_)
  · have h7 := pp_t c6 h4
    clear h4
    exact hj3 _ H locs ls h7 G (lv_sub hl [] rfl)
  · have h8 := pp_f c6 h4
    clear h4
    refine lv_aload_n hx hb dX1_hasHandFree_8 rfl (lv_at hl 0 rfl) ?_
    refine lv_iload_n hx hb dX1_hasHandFree_9 rfl (lv_at hl 1 rfl) ?_
    obtain ⟨r9, hc9, h10⟩ := pp_ob_ex h8
    clear h8
    refine cc_cali (q2 := (cc_pC q k x)) rfl rfl (co_crt g q hk) X G (x := x) rfl (ctX1_ballsOf l g pls q hk x _ hc9) (cwV 1 hts gX1_hasHandFree_X1_ballsOf rfl rfl rfl (by decide +kernel) ⟨Nat.le_of_ble_eq_true rfl, Nat.le_of_ble_eq_true rfl⟩) (rest := []) rfl hl.1 rfl (Nat.le_of_ble_eq_true rfl) dX1_hasHandFree_10 (fun H locs G => ?_)
    obtain ⟨r11, hc11, h12⟩ := pp_ob_ex h10
    clear h10
    refine cc_csi X G (ctJ6_bitCount_0f7a4 l _ hc11) (va_cwS 1 hts gX1_hasHandFree_J6_bitCount_0f7a4 rfl rfl rfl (by decide +kernel) ⟨Nat.le_of_ble_eq_true rfl, Nat.le_of_ble_eq_true rfl⟩) (rest := []) rfl hl.1 rfl (Nat.le_of_ble_eq_true rfl) dX1_hasHandFree_13 (fun H locs G => ?_)
    refine lv_iconst (v := 2) hx hb dX1_hasHandFree_16 (by decide) ?_
    refine lv_icmp_ge (tgt := 24) hx hb dX1_hasHandFree_17 (by decide) (fun c13 => ?_) (fun c13 => ?_)
    · have h14 := pp_t c13 h12
      clear h12
      exact hj3 _ H locs ls h14 G (lv_sub hl [] rfl)
    · have h15 := pp_f c13 h12
      clear h12
      refine lv_iconst (v := 1) hx hb dX1_hasHandFree_20 (by decide) ?_
      refine lv_goto (tgt := 25) hx hb dX1_hasHandFree_21 (by decide) ?_
      exact cc_iret X hr hlk rfl G (Option.some.inj h15) rfl hQ dX1_hasHandFree_25
noncomputable def K_lyingCount (x : cc_CT) (v1 : Int32) : Option Int32 := pp_it (fun (self1 : Int32 × Int32 → Option Int32) (a1 : Int32 × Int32) => (if (6 : Int32) ≤ a1.2 then some a1.1 else pp_ix a1.2 6 (pp_lj (fun (a7 : Int32) => (pp_lj (a1.2 + 1 : Int32) (fun x10 => self1 (a7, x10)) : Option Int32)) (fun j7 => (if (x.1.2.1 5 (Int32.toNatClampNeg a1.2)) = v1 then pp_lj (a1.1 + 1 : Int32) (fun x15 => j7 x15) else j7 a1.1))))) 200 ((0 : Int32), (0 : Int32))
abbrev rmX1_lyingCount : Room := { frames := 0, cells := 0, slots := 0, locals := 0 }
set_option maxHeartbeats 4000000 in
set_option maxRecDepth 100000 in
theorem ctX1_lyingCount (l : Launch) (g : cc_G) (pls : va_W) (q : cc_S) {k : Nat} (hk : k < 3) (x : cc_CT) (v1 : Int32) {res : Int32} (h : K_lyingCount x v1 = some res) : cc_Mi l yX1_lyingCount wsX1_lyingCount rmX1_lyingCount g pls [.ref (cc_ad g (10 + 20 * k)), .int v1] (cc_pC q k x) res (cc_pC q k x) := by
  intro sz A hA
  unfold K_lyingCount at h
  refine cc_ofW hA (own := RX1) (by decide) rfl rfl (Nat.le_of_ble_eq_true rfl) ?_
  intro p e s m args below meth c ls X hr hlk G hl Q hQ
  have hx := X.1.1
  have hb := X.1.2.1
  have hown := X.1.2.2.2.1
  have hts := X.1.2.2.2.2
  refine (fun (key : ∀ (H : Heap) (locs : List Loc), cc_H g A pls (cc_pC q k x) s H locs → W p l e (headSpec wsX1_lyingCount rmX1_lyingCount).room s m args below meth c H locs 0 0 Q (F0 m 0 ls [])) => key _ _ G) ?_
  clear G
  intro H locs G
  have hl : lv_has ls 4 [(0, .ref (cc_ad g (10 + 20 * k))), (1, .int v1)] := hl
  have hf31 : Cond.fieldLink RX1 31 (TX1 5).1 (TX1 5).2.1 (TX1 5).2.2.1 ∈ wsX1_lyingCount := by decide +kernel
  have hin1 : ∀ y ∈ wsX10, y ∈ wsX1_lyingCount := (fun _ z => List.mem_cons_of_mem _ (List.mem_append_right _ z))
  refine lv_iconst (v := 0) hx hb dX1_lyingCount_0 (by decide) ?_
  refine lv_istore_n (lv' := [(2, .int (0 : Int32)), (0, .ref (cc_ad g (10 + 20 * k))), (1, .int v1)]) hx hb dX1_lyingCount_1 rfl hl (by decide) rfl (fun ls hl => ?_)
  refine lv_iconst (v := 0) hx hb dX1_lyingCount_2 (by decide) ?_
  refine lv_istore_n (lv' := [(3, .int (0 : Int32)), (2, .int (0 : Int32)), (0, .ref (cc_ad g (10 + 20 * k))), (1, .int v1)]) hx hb dX1_lyingCount_3 rfl hl (by decide) rfl (fun ls hl => ?_)
  refine pp_loop (I := fun (a1 : Int32 × Int32) => ∀ (H : Heap) (locs : List Loc) (ls : Array Slot), cc_H g A pls (cc_pC q k x) s H locs → lv_has ls 4 [(0, .ref (cc_ad g (10 + 20 * k))), (1, .int v1), (2, .int a1.1), (3, .int a1.2)] → W p l e (headSpec wsX1_lyingCount rmX1_lyingCount).room s m args below meth c H locs 0 0 Q (F0 m 4 ls [])) ?_ 200 _ h H locs ls G (lv_sub hl [2, 3, 1, 0] rfl)
  clear h
  intro self1 ih1 a1 h1 H locs ls G hl
  refine lv_iload_n hx hb dX1_lyingCount_4 rfl (lv_at hl 3 rfl) ?_
  refine lv_bipush (v := 6) hx hb dX1_lyingCount_5 (by decide) ?_
  refine lv_icmp_ge (tgt := 29) hx hb dX1_lyingCount_7 (by decide) (fun c2 => ?_) (fun c2 => ?_)
  · have h3 := pp_t c2 h1
    clear h1
    refine lv_iload_n hx hb dX1_lyingCount_29 rfl (lv_at hl 2 rfl) ?_
    exact cc_iret X hr hlk rfl G (Option.some.inj h3) rfl hQ dX1_lyingCount_30
  · have h4 := pp_f c2 h1
    clear h1
    refine lv_aload_n hx hb dX1_lyingCount_10 rfl (lv_at hl 0 rfl) ?_
    refine cc_get (co_crt g q hk) X G (x := x) rfl hin1 5 (by decide) hf31 (v := .ref (cc_ad g (10 + 20 * k + 7))) rfl dX1_lyingCount_11 ?_
    refine lv_iload_n hx hb dX1_lyingCount_14 rfl (lv_at hl 3 rfl) ?_
    obtain ⟨hi5, h6⟩ := pp_ix_ex h4
    clear h4
    refine cc_iald (ca_5 g q hk) X G (x := x) hi5 dX1_lyingCount_15 ?_
    refine lv_iload_n hx hb dX1_lyingCount_16 rfl (lv_at hl 1 rfl) ?_
    obtain ⟨j7, ej7, h8⟩ := pp_lj_ex h6
    clear h6
    have hj7 : ∀ (a7 : Int32) (H : Heap) (locs : List Loc) (ls : Array Slot), j7 a7 = some res → cc_H g A pls (cc_pC q k x) s H locs → lv_has ls 4 [(0, .ref (cc_ad g (10 + 20 * k))), (1, .int v1), (2, .int a7), (3, .int a1.2)] → W p l e (headSpec wsX1_lyingCount rmX1_lyingCount).room s m args below meth c H locs 0 0 Q (F0 m 23 ls []) := by
      intro a7 H locs ls h G hl
      have h9 := pp_jmp ej7 h
      clear h h8
      obtain ⟨x10, ex10, h11⟩ := pp_lj_ex h9
      clear h9
      refine lv_iinc (v := x10) (lv' := [(3, .int x10), (0, .ref (cc_ad g (10 + 20 * k))), (1, .int v1), (2, .int a7)]) hx hb dX1_lyingCount_23 hl (k := 3) rfl (by rw [ex10]; rfl) (by decide) rfl (fun ls hl => ?_)
      refine lv_goto (tgt := 4) hx hb dX1_lyingCount_26 (by decide) ?_
      exact ih1 _ h11 H locs ls G (lv_sub hl [1, 2, 3, 0] rfl)
    refine lv_icmp_ne (tgt := 23) hx hb dX1_lyingCount_17 (by decide) (fun c12 => ?_) (fun c12 => ?_)
    · have h13 := pp_f c12 h8
      clear h8
      exact hj7 _ H locs ls h13 G hl
    · have h14 := pp_t c12 h8
      clear h8
      obtain ⟨x15, ex15, h16⟩ := pp_lj_ex h14
      clear h14
      refine lv_iinc (v := x15) (lv' := [(2, .int x15), (0, .ref (cc_ad g (10 + 20 * k))), (1, .int v1), (3, .int a1.2)]) hx hb dX1_lyingCount_20 hl (k := 2) rfl (by rw [ex15]; rfl) (by decide) rfl (fun ls hl => ?_)
      exact hj7 _ H locs ls h16 G (lv_sub hl [1, 2, 0, 3] rfl)
noncomputable def K_areOpposed (x : cc_CT) (v1 : Int32) (v2 : Int32) : Option Int32 := pp_ob (K_isIn x v1) (fun r1 => pp_lj (fun (a3 : Unit) => (some (0 : Int32) : Option Int32)) (fun j3 => (if r1 = (0 : Int32) then j3 () else pp_ob (K_isIn x v2) (fun r9 => (if r9 = (0 : Int32) then j3 () else pp_ob (K_sideOf x v1) (fun r14 => pp_ob (K_sideOf x v2) (fun r16 => (if r14 = r16 then j3 () else some (1 : Int32)))))))))
abbrev rmX1_areOpposed : Room := { frames := 2, cells := 0, slots := 0, locals := 42 }
set_option maxHeartbeats 4000000 in
set_option maxRecDepth 100000 in
theorem ctX1_areOpposed (l : Launch) (g : cc_G) (pls : va_W) (q : cc_S) {k : Nat} (hk : k < 3) (x : cc_CT) (v1 : Int32) (v2 : Int32) {res : Int32} (h : K_areOpposed x v1 v2 = some res) : cc_Mi l yX1_areOpposed wsX1_areOpposed rmX1_areOpposed g pls [.ref (cc_ad g (10 + 20 * k)), .int v1, .int v2] (cc_pC q k x) res (cc_pC q k x) := by
  intro sz A hA
  unfold K_areOpposed at h
  refine cc_ofW hA (own := RX1) (by decide) rfl rfl (Nat.le_of_ble_eq_true rfl) ?_
  intro p e s m args below meth c ls X hr hlk G hl Q hQ
  have hx := X.1.1
  have hb := X.1.2.1
  have hown := X.1.2.2.2.1
  have hts := X.1.2.2.2.2
  refine (fun (key : ∀ (H : Heap) (locs : List Loc), cc_H g A pls (cc_pC q k x) s H locs → W p l e (headSpec wsX1_areOpposed rmX1_areOpposed).room s m args below meth c H locs 0 0 Q (F0 m 0 ls [])) => key _ _ G) ?_
  clear G
  intro H locs G
  have hl : lv_has ls 3 [(0, .ref (cc_ad g (10 + 20 * k))), (1, .int v1), (2, .int v2)] := hl
  refine lv_aload_n hx hb dX1_areOpposed_0 rfl (lv_at hl 0 rfl) ?_
  refine lv_iload_n hx hb dX1_areOpposed_1 rfl (lv_at hl 1 rfl) ?_
  obtain ⟨r1, hc1, h2⟩ := pp_ob_ex h
  clear h
  refine cc_cali (q2 := (cc_pC q k x)) rfl rfl (co_crt g q hk) X G (x := x) rfl (ctX1_isIn l g pls q hk x _ hc1) (cwV 1 hts gX1_areOpposed_X1_isIn rfl rfl rfl (by decide +kernel) ⟨Nat.le_of_ble_eq_true rfl, Nat.le_of_ble_eq_true rfl⟩) (rest := []) rfl hl.1 rfl (Nat.le_of_ble_eq_true rfl) dX1_areOpposed_2 (fun H locs G => ?_)
  obtain ⟨j3, ej3, h4⟩ := pp_lj_ex h2
  clear h2
  have hj3 : ∀ (a3 : Unit) (H : Heap) (locs : List Loc) (ls : Array Slot), j3 a3 = some res → cc_H g A pls (cc_pC q k x) s H locs → lv_has ls 3 [] → W p l e (headSpec wsX1_areOpposed rmX1_areOpposed).room s m args below meth c H locs 0 0 Q (F0 m 33 ls []) := by
    intro a3 H locs ls h G hl
    have h5 := pp_jmp ej3 h
    clear h h4
    refine lv_iconst (v := 0) hx hb dX1_areOpposed_33 (by decide) ?_
    exact cc_iret X hr hlk rfl G (Option.some.inj h5) rfl hQ dX1_areOpposed_34
  refine lv_if_eq (tgt := 33) hx hb dX1_areOpposed_5 (by decide) (fun c6 => ?_) (fun c6 => ?_)
  · have h7 := pp_t c6 h4
    clear h4
    exact hj3 _ H locs ls h7 G (lv_sub hl [] rfl)
  · have h8 := pp_f c6 h4
    clear h4
    refine lv_aload_n hx hb dX1_areOpposed_8 rfl (lv_at hl 0 rfl) ?_
    refine lv_iload_n hx hb dX1_areOpposed_9 rfl (lv_at hl 2 rfl) ?_
    obtain ⟨r9, hc9, h10⟩ := pp_ob_ex h8
    clear h8
    refine cc_cali (q2 := (cc_pC q k x)) rfl rfl (co_crt g q hk) X G (x := x) rfl (ctX1_isIn l g pls q hk x _ hc9) (cwV 1 hts gX1_areOpposed_X1_isIn rfl rfl rfl (by decide +kernel) ⟨Nat.le_of_ble_eq_true rfl, Nat.le_of_ble_eq_true rfl⟩) (rest := []) rfl hl.1 rfl (Nat.le_of_ble_eq_true rfl) dX1_areOpposed_10 (fun H locs G => ?_)
    refine lv_if_eq (tgt := 33) hx hb dX1_areOpposed_13 (by decide) (fun c11 => ?_) (fun c11 => ?_)
    · have h12 := pp_t c11 h10
      clear h10
      exact hj3 _ H locs ls h12 G (lv_sub hl [] rfl)
    · have h13 := pp_f c11 h10
      clear h10
      refine lv_aload_n hx hb dX1_areOpposed_16 rfl (lv_at hl 0 rfl) ?_
      refine lv_iload_n hx hb dX1_areOpposed_17 rfl (lv_at hl 1 rfl) ?_
      obtain ⟨r14, hc14, h15⟩ := pp_ob_ex h13
      clear h13
      refine cc_cali (q2 := (cc_pC q k x)) rfl rfl (co_crt g q hk) X G (x := x) rfl (ctX1_sideOf l g pls q hk x _ hc14) (cwV 1 hts gX1_areOpposed_X1_sideOf rfl rfl rfl (by decide +kernel) ⟨Nat.le_of_ble_eq_true rfl, Nat.le_of_ble_eq_true rfl⟩) (rest := []) rfl hl.1 rfl (Nat.le_of_ble_eq_true rfl) dX1_areOpposed_18 (fun H locs G => ?_)
      refine lv_aload_n hx hb dX1_areOpposed_21 rfl (lv_at hl 0 rfl) ?_
      refine lv_iload_n hx hb dX1_areOpposed_22 rfl (lv_at hl 2 rfl) ?_
      obtain ⟨r16, hc16, h17⟩ := pp_ob_ex h15
      clear h15
      refine cc_cali (q2 := (cc_pC q k x)) rfl rfl (co_crt g q hk) X G (x := x) rfl (ctX1_sideOf l g pls q hk x _ hc16) (cwV 1 hts gX1_areOpposed_X1_sideOf rfl rfl rfl (by decide +kernel) ⟨Nat.le_of_ble_eq_true rfl, Nat.le_of_ble_eq_true rfl⟩) (rest := [.int r14]) rfl hl.1 rfl (Nat.le_of_ble_eq_true rfl) dX1_areOpposed_23 (fun H locs G => ?_)
      refine lv_icmp_eq (tgt := 33) hx hb dX1_areOpposed_26 (by decide) (fun c18 => ?_) (fun c18 => ?_)
      · have h19 := pp_t c18 h17
        clear h17
        exact hj3 _ H locs ls h19 G (lv_sub hl [] rfl)
      · have h20 := pp_f c18 h17
        clear h17
        refine lv_iconst (v := 1) hx hb dX1_areOpposed_29 (by decide) ?_
        refine lv_goto (tgt := 34) hx hb dX1_areOpposed_30 (by decide) ?_
        exact cc_iret X hr hlk rfl G (Option.some.inj h20) rfl hQ dX1_areOpposed_34
noncomputable def K_couldThrowAt (x : cc_CT) (v1 : Int32) (v2 : Int32) : Option Int32 := pp_ob (K_areOpposed x v1 v2) (fun r1 => pp_lj (fun (a3 : Unit) => (some (0 : Int32) : Option Int32)) (fun j3 => (if r1 = (0 : Int32) then j3 () else pp_ob (K_ballsOf x v1) (fun r9 => (if r9 = (0 : Int32) then j3 () else some (1 : Int32))))))
abbrev rmX1_couldThrowAt : Room := { frames := 3, cells := 0, slots := 0, locals := 64 }
set_option maxHeartbeats 4000000 in
set_option maxRecDepth 100000 in
theorem ctX1_couldThrowAt (l : Launch) (g : cc_G) (pls : va_W) (q : cc_S) {k : Nat} (hk : k < 3) (x : cc_CT) (v1 : Int32) (v2 : Int32) {res : Int32} (h : K_couldThrowAt x v1 v2 = some res) : cc_Mi l yX1_couldThrowAt wsX1_couldThrowAt rmX1_couldThrowAt g pls [.ref (cc_ad g (10 + 20 * k)), .int v1, .int v2] (cc_pC q k x) res (cc_pC q k x) := by
  intro sz A hA
  unfold K_couldThrowAt at h
  refine cc_ofW hA (own := RX1) (by decide) rfl rfl (Nat.le_of_ble_eq_true rfl) ?_
  intro p e s m args below meth c ls X hr hlk G hl Q hQ
  have hx := X.1.1
  have hb := X.1.2.1
  have hown := X.1.2.2.2.1
  have hts := X.1.2.2.2.2
  refine (fun (key : ∀ (H : Heap) (locs : List Loc), cc_H g A pls (cc_pC q k x) s H locs → W p l e (headSpec wsX1_couldThrowAt rmX1_couldThrowAt).room s m args below meth c H locs 0 0 Q (F0 m 0 ls [])) => key _ _ G) ?_
  clear G
  intro H locs G
  have hl : lv_has ls 3 [(0, .ref (cc_ad g (10 + 20 * k))), (1, .int v1), (2, .int v2)] := hl
  refine lv_aload_n hx hb dX1_couldThrowAt_0 rfl (lv_at hl 0 rfl) ?_
  refine lv_iload_n hx hb dX1_couldThrowAt_1 rfl (lv_at hl 1 rfl) ?_
  refine lv_iload_n hx hb dX1_couldThrowAt_2 rfl (lv_at hl 2 rfl) ?_
  obtain ⟨r1, hc1, h2⟩ := pp_ob_ex h
  clear h
  refine cc_cali (q2 := (cc_pC q k x)) rfl rfl (co_crt g q hk) X G (x := x) rfl (ctX1_areOpposed l g pls q hk x _ _ hc1) (cwV 2 hts gX1_couldThrowAt_X1_areOpposed rfl rfl rfl (by decide +kernel) ⟨Nat.le_of_ble_eq_true rfl, Nat.le_of_ble_eq_true rfl⟩) (rest := []) rfl hl.1 rfl (Nat.le_of_ble_eq_true rfl) dX1_couldThrowAt_3 (fun H locs G => ?_)
  obtain ⟨j3, ej3, h4⟩ := pp_lj_ex h2
  clear h2
  have hj3 : ∀ (a3 : Unit) (H : Heap) (locs : List Loc) (ls : Array Slot), j3 a3 = some res → cc_H g A pls (cc_pC q k x) s H locs → lv_has ls 3 [] → W p l e (headSpec wsX1_couldThrowAt rmX1_couldThrowAt).room s m args below meth c H locs 0 0 Q (F0 m 21 ls []) := by
    intro a3 H locs ls h G hl
    have h5 := pp_jmp ej3 h
    clear h h4
    refine lv_iconst (v := 0) hx hb dX1_couldThrowAt_21 (by decide) ?_
    exact cc_iret X hr hlk rfl G (Option.some.inj h5) rfl hQ dX1_couldThrowAt_22
  refine lv_if_eq (tgt := 21) hx hb dX1_couldThrowAt_6 (by decide) (fun c6 => ?_) (fun c6 => ?_)
  · have h7 := pp_t c6 h4
    clear h4
    exact hj3 _ H locs ls h7 G (lv_sub hl [] rfl)
  · have h8 := pp_f c6 h4
    clear h4
    refine lv_aload_n hx hb dX1_couldThrowAt_9 rfl (lv_at hl 0 rfl) ?_
    refine lv_iload_n hx hb dX1_couldThrowAt_10 rfl (lv_at hl 1 rfl) ?_
    obtain ⟨r9, hc9, h10⟩ := pp_ob_ex h8
    clear h8
    refine cc_cali (q2 := (cc_pC q k x)) rfl rfl (co_crt g q hk) X G (x := x) rfl (ctX1_ballsOf l g pls q hk x _ hc9) (cwV 1 hts gX1_couldThrowAt_X1_ballsOf rfl rfl rfl (by decide +kernel) ⟨Nat.le_of_ble_eq_true rfl, Nat.le_of_ble_eq_true rfl⟩) (rest := []) rfl hl.1 rfl (Nat.le_of_ble_eq_true rfl) dX1_couldThrowAt_11 (fun H locs G => ?_)
    refine lv_if_eq (tgt := 21) hx hb dX1_couldThrowAt_14 (by decide) (fun c11 => ?_) (fun c11 => ?_)
    · have h12 := pp_t c11 h10
      clear h10
      exact hj3 _ H locs ls h12 G (lv_sub hl [] rfl)
    · have h13 := pp_f c11 h10
      clear h10
      refine lv_iconst (v := 1) hx hb dX1_couldThrowAt_17 (by decide) ?_
      refine lv_goto (tgt := 22) hx hb dX1_couldThrowAt_18 (by decide) ?_
      exact cc_iret X hr hlk rfl G (Option.some.inj h13) rfl hQ dX1_couldThrowAt_22
noncomputable def K_canThrow (x : cc_CT) (v1 : Int32) (v2 : Int32) : Option Int32 := pp_ob (K_holderOf x v1) (fun r1 => pp_ob (K_areOpposed x r1 v2) (fun r3 => pp_bz r3 (some r3)))
abbrev rmX1_canThrow : Room := { frames := 3, cells := 0, slots := 0, locals := 64 }
set_option maxHeartbeats 4000000 in
set_option maxRecDepth 100000 in
theorem ctX1_canThrow (l : Launch) (g : cc_G) (pls : va_W) (q : cc_S) {k : Nat} (hk : k < 3) (x : cc_CT) (v1 : Int32) (v2 : Int32) {res : Int32} (h : K_canThrow x v1 v2 = some res) : cc_Mi l yX1_canThrow wsX1_canThrow rmX1_canThrow g pls [.ref (cc_ad g (10 + 20 * k)), .int v1, .int v2] (cc_pC q k x) res (cc_pC q k x) := by
  intro sz A hA
  unfold K_canThrow at h
  refine cc_ofW hA (own := RX1) (by decide) rfl rfl (Nat.le_of_ble_eq_true rfl) ?_
  intro p e s m args below meth c ls X hr hlk G hl Q hQ
  have hx := X.1.1
  have hb := X.1.2.1
  have hown := X.1.2.2.2.1
  have hts := X.1.2.2.2.2
  refine (fun (key : ∀ (H : Heap) (locs : List Loc), cc_H g A pls (cc_pC q k x) s H locs → W p l e (headSpec wsX1_canThrow rmX1_canThrow).room s m args below meth c H locs 0 0 Q (F0 m 0 ls [])) => key _ _ G) ?_
  clear G
  intro H locs G
  have hl : lv_has ls 3 [(0, .ref (cc_ad g (10 + 20 * k))), (1, .int v1), (2, .int v2)] := hl
  refine lv_aload_n hx hb dX1_canThrow_0 rfl (lv_at hl 0 rfl) ?_
  refine lv_aload_n hx hb dX1_canThrow_1 rfl (lv_at hl 0 rfl) ?_
  refine lv_iload_n hx hb dX1_canThrow_2 rfl (lv_at hl 1 rfl) ?_
  obtain ⟨r1, hc1, h2⟩ := pp_ob_ex h
  clear h
  refine cc_cali (q2 := (cc_pC q k x)) rfl rfl (co_crt g q hk) X G (x := x) rfl (ctX1_holderOf l g pls q hk x _ hc1) (cwV 1 hts gX1_canThrow_X1_holderOf rfl rfl rfl (by decide +kernel) ⟨Nat.le_of_ble_eq_true rfl, Nat.le_of_ble_eq_true rfl⟩) (rest := [.ref (cc_ad g (10 + 20 * k))]) rfl hl.1 rfl (Nat.le_of_ble_eq_true rfl) dX1_canThrow_3 (fun H locs G => ?_)
  refine lv_iload_n hx hb dX1_canThrow_6 rfl (lv_at hl 2 rfl) ?_
  obtain ⟨r3, hc3, h4⟩ := pp_ob_ex h2
  clear h2
  refine cc_cali (q2 := (cc_pC q k x)) rfl rfl (co_crt g q hk) X G (x := x) rfl (ctX1_areOpposed l g pls q hk x _ _ hc3) (cwV 2 hts gX1_canThrow_X1_areOpposed rfl rfl rfl (by decide +kernel) ⟨Nat.le_of_ble_eq_true rfl, Nat.le_of_ble_eq_true rfl⟩) (rest := []) rfl hl.1 rfl (Nat.le_of_ble_eq_true rfl) dX1_canThrow_7 (fun H locs G => ?_)
  obtain ⟨hz5, h6⟩ := pp_bz_ex h4
  clear h4
  exact cc_iret X hr hlk hz5.1 G (Option.some.inj h6) rfl hQ dX1_canThrow_10
noncomputable def K_canTake (x : cc_CT) (v1 : Int32) (v2 : Int32) : Option Int32 := pp_ob (K_hasHandFree x v1) (fun r1 => pp_lj (fun (a3 : Unit) => (some (0 : Int32) : Option Int32)) (fun j3 => (if r1 = (0 : Int32) then j3 () else pp_ob (K_floorOf x v2) (fun r9 => pp_ob (K_sideOf x v1) (fun r11 => (if r9 = r11 then some (1 : Int32) else j3 ()))))))
abbrev rmX1_canTake : Room := { frames := 3, cells := 0, slots := 0, locals := 65 }
set_option maxHeartbeats 4000000 in
set_option maxRecDepth 100000 in
theorem ctX1_canTake (l : Launch) (g : cc_G) (pls : va_W) (q : cc_S) {k : Nat} (hk : k < 3) (x : cc_CT) (v1 : Int32) (v2 : Int32) {res : Int32} (h : K_canTake x v1 v2 = some res) : cc_Mi l yX1_canTake wsX1_canTake rmX1_canTake g pls [.ref (cc_ad g (10 + 20 * k)), .int v1, .int v2] (cc_pC q k x) res (cc_pC q k x) := by
  intro sz A hA
  unfold K_canTake at h
  refine cc_ofW hA (own := RX1) (by decide) rfl rfl (Nat.le_of_ble_eq_true rfl) ?_
  intro p e s m args below meth c ls X hr hlk G hl Q hQ
  have hx := X.1.1
  have hb := X.1.2.1
  have hown := X.1.2.2.2.1
  have hts := X.1.2.2.2.2
  refine (fun (key : ∀ (H : Heap) (locs : List Loc), cc_H g A pls (cc_pC q k x) s H locs → W p l e (headSpec wsX1_canTake rmX1_canTake).room s m args below meth c H locs 0 0 Q (F0 m 0 ls [])) => key _ _ G) ?_
  clear G
  intro H locs G
  have hl : lv_has ls 3 [(0, .ref (cc_ad g (10 + 20 * k))), (1, .int v1), (2, .int v2)] := hl
  refine lv_aload_n hx hb dX1_canTake_0 rfl (lv_at hl 0 rfl) ?_
  refine lv_iload_n hx hb dX1_canTake_1 rfl (lv_at hl 1 rfl) ?_
  obtain ⟨r1, hc1, h2⟩ := pp_ob_ex h
  clear h
  refine cc_cali (q2 := (cc_pC q k x)) rfl rfl (co_crt g q hk) X G (x := x) rfl (ctX1_hasHandFree l g pls q hk x _ hc1) (cwV 1 hts gX1_canTake_X1_hasHandFree rfl rfl rfl (by decide +kernel) ⟨Nat.le_of_ble_eq_true rfl, Nat.le_of_ble_eq_true rfl⟩) (rest := []) rfl hl.1 rfl (Nat.le_of_ble_eq_true rfl) dX1_canTake_2 (fun H locs G => ?_)
  obtain ⟨j3, ej3, h4⟩ := pp_lj_ex h2
  clear h2
  have hj3 : ∀ (a3 : Unit) (H : Heap) (locs : List Loc) (ls : Array Slot), j3 a3 = some res → cc_H g A pls (cc_pC q k x) s H locs → lv_has ls 3 [] → W p l e (headSpec wsX1_canTake rmX1_canTake).room s m args below meth c H locs 0 0 Q (F0 m 25 ls []) := by
    intro a3 H locs ls h G hl
    have h5 := pp_jmp ej3 h
    clear h h4
    refine lv_iconst (v := 0) hx hb dX1_canTake_25 (by decide) ?_
    exact cc_iret X hr hlk rfl G (Option.some.inj h5) rfl hQ dX1_canTake_26
  refine lv_if_eq (tgt := 25) hx hb dX1_canTake_5 (by decide) (fun c6 => ?_) (fun c6 => ?_)
  · have h7 := pp_t c6 h4
    clear h4
    exact hj3 _ H locs ls h7 G (lv_sub hl [] rfl)
  · have h8 := pp_f c6 h4
    clear h4
    refine lv_aload_n hx hb dX1_canTake_8 rfl (lv_at hl 0 rfl) ?_
    refine lv_iload_n hx hb dX1_canTake_9 rfl (lv_at hl 2 rfl) ?_
    obtain ⟨r9, hc9, h10⟩ := pp_ob_ex h8
    clear h8
    refine cc_cali (q2 := (cc_pC q k x)) rfl rfl (co_crt g q hk) X G (x := x) rfl (ctX1_floorOf l g pls q hk x _ hc9) (cwV 1 hts gX1_canTake_X1_floorOf rfl rfl rfl (by decide +kernel) ⟨Nat.le_of_ble_eq_true rfl, Nat.le_of_ble_eq_true rfl⟩) (rest := []) rfl hl.1 rfl (Nat.le_of_ble_eq_true rfl) dX1_canTake_10 (fun H locs G => ?_)
    refine lv_aload_n hx hb dX1_canTake_13 rfl (lv_at hl 0 rfl) ?_
    refine lv_iload_n hx hb dX1_canTake_14 rfl (lv_at hl 1 rfl) ?_
    obtain ⟨r11, hc11, h12⟩ := pp_ob_ex h10
    clear h10
    refine cc_cali (q2 := (cc_pC q k x)) rfl rfl (co_crt g q hk) X G (x := x) rfl (ctX1_sideOf l g pls q hk x _ hc11) (cwV 1 hts gX1_canTake_X1_sideOf rfl rfl rfl (by decide +kernel) ⟨Nat.le_of_ble_eq_true rfl, Nat.le_of_ble_eq_true rfl⟩) (rest := [.int r9]) rfl hl.1 rfl (Nat.le_of_ble_eq_true rfl) dX1_canTake_15 (fun H locs G => ?_)
    refine lv_icmp_ne (tgt := 25) hx hb dX1_canTake_18 (by decide) (fun c13 => ?_) (fun c13 => ?_)
    · have h14 := pp_f c13 h12
      clear h12
      exact hj3 _ H locs ls h14 G (lv_sub hl [] rfl)
    · have h15 := pp_t c13 h12
      clear h12
      refine lv_iconst (v := 1) hx hb dX1_canTake_21 (by decide) ?_
      refine lv_goto (tgt := 26) hx hb dX1_canTake_22 (by decide) ?_
      exact cc_iret X hr hlk rfl G (Option.some.inj h15) rfl hQ dX1_canTake_26
noncomputable def C_isHow (v0 : Int32) : Option Int32 := pp_lj (fun (a1 : Unit) => (some (0 : Int32) : Option Int32)) (fun j1 => (if v0 < (0 : Int32) then j1 () else (if (3 : Int32) ≤ v0 then j1 () else some (1 : Int32))))
abbrev rmX10_isHow : Room := { frames := 0, cells := 0, slots := 0, locals := 0 }
set_option maxHeartbeats 4000000 in
set_option maxRecDepth 100000 in
theorem ctX10_isHow (l : Launch) (v0 : Int32) {res : Int32} (h : C_isHow v0 = some res) : xs_Mi l yX10_isHow wsX10_isHow rmX10_isHow [.int v0] res := by
  intro sz
  unfold C_isHow at h
  refine xs_ofW (own := RX10) (by decide) rfl rfl (Nat.le_of_ble_eq_true rfl) ?_
  intro p e s m args below meth c ls X hr hlk hl Q hQ
  have hx := X.1
  have hb := X.2.1
  have hown := X.2.2.2.1
  have hts := X.2.2.2.2
  have hl : lv_has ls 1 [(0, .int v0)] := hl
  refine lv_iload_n hx hb dX10_isHow_0 rfl (lv_at hl 0 rfl) ?_
  obtain ⟨j1, ej1, h2⟩ := pp_lj_ex h
  clear h
  have hj1 : ∀ (a1 : Unit) (ls : Array Slot), j1 a1 = some res → lv_has ls 1 [] → W p l e (headSpec wsX10_isHow rmX10_isHow).room s m args below meth c s.heap [] 0 0 Q (F0 m 13 ls []) := by
    intro a1 ls h hl
    have h3 := pp_jmp ej1 h
    clear h h2
    refine lv_iconst (v := 0) hx hb dX10_isHow_13 (by decide) ?_
    exact xs_iret hx hb hr hlk rfl h3 hQ dX10_isHow_14
  refine lv_if_lt (tgt := 13) hx hb dX10_isHow_1 (by decide) (fun c4 => ?_) (fun c4 => ?_)
  · have h5 := pp_t c4 h2
    clear h2
    exact hj1 _ ls h5 (lv_sub hl [] rfl)
  · have h6 := pp_f c4 h2
    clear h2
    refine lv_iload_n hx hb dX10_isHow_4 rfl (lv_at hl 0 rfl) ?_
    refine lv_iconst (v := 3) hx hb dX10_isHow_5 (by decide) ?_
    refine lv_icmp_ge (tgt := 13) hx hb dX10_isHow_6 (by decide) (fun c7 => ?_) (fun c7 => ?_)
    · have h8 := pp_t c7 h6
      clear h6
      exact hj1 _ ls h8 (lv_sub hl [] rfl)
    · have h9 := pp_f c7 h6
      clear h6
      refine lv_iconst (v := 1) hx hb dX10_isHow_9 (by decide) ?_
      refine lv_goto (tgt := 14) hx hb dX10_isHow_10 (by decide) ?_
      exact xs_iret hx hb hr hlk rfl h9 hQ dX10_isHow_14
noncomputable def C_withinOdds (v0 : Int32) : Option Int32 := some (if (1 : Int32) < (if v0 < (19 : Int32) then v0 else (19 : Int32)) then (if v0 < (19 : Int32) then v0 else (19 : Int32)) else (1 : Int32))
abbrev rmX10_withinOdds : Room := { frames := 1, cells := 0, slots := 0, locals := 21 }
set_option maxHeartbeats 4000000 in
set_option maxRecDepth 100000 in
theorem ctX10_withinOdds (l : Launch) (v0 : Int32) {res : Int32} (h : C_withinOdds v0 = some res) : xs_Mi l yX10_withinOdds wsX10_withinOdds rmX10_withinOdds [.int v0] res := by
  intro sz
  unfold C_withinOdds at h
  refine xs_ofW (own := RX10) (by decide) rfl rfl (Nat.le_of_ble_eq_true rfl) ?_
  intro p e s m args below meth c ls X hr hlk hl Q hQ
  have hx := X.1
  have hb := X.2.1
  have hown := X.2.2.2.1
  have hts := X.2.2.2.2
  have hl : lv_has ls 1 [(0, .int v0)] := hl
  refine lv_iconst (v := 1) hx hb dX10_withinOdds_0 (by decide) ?_
  refine lv_bipush (v := 19) hx hb dX10_withinOdds_1 (by decide) ?_
  refine lv_iload_n hx hb dX10_withinOdds_3 rfl (lv_at hl 0 rfl) ?_
  refine va_mmin hx hb (X.2.2.1.trans hl.1.symm) hown (hts (.methodLink RX10 236 Lib.Math.min.name) (by decide +kernel)) (hts (.static Lib.Math.min.name) (by decide +kernel)) (hts (.initialized "java/lang/Math") (by decide +kernel)) (hts (.code Lib.Math.min.name Lib.Math.min.code 2 (some .int)) (by decide +kernel)) (Nat.le_of_ble_eq_true rfl) (Nat.le_of_ble_eq_true rfl) (Nat.zero_le _) (Nat.zero_le _) dX10_withinOdds_4 ?_
  refine va_mmax hx hb (X.2.2.1.trans hl.1.symm) hown (hts (.methodLink RX10 253 Lib.Math.max.name) (by decide +kernel)) (hts (.static Lib.Math.max.name) (by decide +kernel)) (hts (.initialized "java/lang/Math") (by decide +kernel)) (hts (.code Lib.Math.max.name Lib.Math.max.code 2 (some .int)) (by decide +kernel)) (Nat.le_of_ble_eq_true rfl) (Nat.le_of_ble_eq_true rfl) (Nat.zero_le _) (Nat.zero_le _) dX10_withinOdds_7 ?_
  exact xs_iret hx hb hr hlk rfl h hQ dX10_withinOdds_10
noncomputable def K_hitOf (x : cc_CT) (v1 : Int32) (v2 : Int32) (v3 : Int32) : Option Int32 := pp_ob (K_aimOf x v1) (fun r1 => pp_ob (K_dodgeOf x v2) (fun r3 => pp_ob (C_isHow v3) (fun r5 => pp_lj (fun (a7 : Int32) => (pp_ob (C_withinOdds ((((10 : Int32) + r1) - r3) + a7)) (fun r10 => some r10) : Option Int32)) (fun j7 => (if r5 = (0 : Int32) then j7 (0 : Int32) else pp_ix v3 3 (j7 (cc_hb (Int32.toNatClampNeg v3))))))))
abbrev rmX1_hitOf : Room := { frames := 4, cells := 0, slots := 0, locals := 84 }
set_option maxHeartbeats 4000000 in
set_option maxRecDepth 100000 in
theorem ctX1_hitOf (l : Launch) (g : cc_G) (pls : va_W) (q : cc_S) {k : Nat} (hk : k < 3) (x : cc_CT) (v1 : Int32) (v2 : Int32) (v3 : Int32) {res : Int32} (h : K_hitOf x v1 v2 v3 = some res) : cc_Mi l yX1_hitOf wsX1_hitOf rmX1_hitOf g pls [.ref (cc_ad g (10 + 20 * k)), .int v1, .int v2, .int v3] (cc_pC q k x) res (cc_pC q k x) := by
  intro sz A hA
  unfold K_hitOf at h
  refine cc_ofW hA (own := RX1) (by decide) rfl rfl (Nat.le_of_ble_eq_true rfl) ?_
  intro p e s m args below meth c ls X hr hlk G hl Q hQ
  have hx := X.1.1
  have hb := X.1.2.1
  have hown := X.1.2.2.2.1
  have hts := X.1.2.2.2.2
  refine (fun (key : ∀ (H : Heap) (locs : List Loc), cc_H g A pls (cc_pC q k x) s H locs → W p l e (headSpec wsX1_hitOf rmX1_hitOf).room s m args below meth c H locs 0 0 Q (F0 m 0 ls [])) => key _ _ G) ?_
  clear G
  intro H locs G
  have hl : lv_has ls 4 [(0, .ref (cc_ad g (10 + 20 * k))), (1, .int v1), (2, .int v2), (3, .int v3)] := hl
  refine lv_bipush (v := 10) hx hb dX1_hitOf_0 (by decide) ?_
  refine lv_aload_n hx hb dX1_hitOf_2 rfl (lv_at hl 0 rfl) ?_
  refine lv_iload_n hx hb dX1_hitOf_3 rfl (lv_at hl 1 rfl) ?_
  obtain ⟨r1, hc1, h2⟩ := pp_ob_ex h
  clear h
  refine cc_cali (q2 := (cc_pC q k x)) rfl rfl (co_crt g q hk) X G (x := x) rfl (ctX1_aimOf l g pls q hk x _ hc1) (cwV 1 hts gX1_hitOf_X1_aimOf rfl rfl rfl (by decide +kernel) ⟨Nat.le_of_ble_eq_true rfl, Nat.le_of_ble_eq_true rfl⟩) (rest := [.int (10 : Int32)]) rfl hl.1 rfl (Nat.le_of_ble_eq_true rfl) dX1_hitOf_4 (fun H locs G => ?_)
  refine lv_iadd hx hb dX1_hitOf_7 ?_
  refine lv_aload_n hx hb dX1_hitOf_8 rfl (lv_at hl 0 rfl) ?_
  refine lv_iload_n hx hb dX1_hitOf_9 rfl (lv_at hl 2 rfl) ?_
  obtain ⟨r3, hc3, h4⟩ := pp_ob_ex h2
  clear h2
  refine cc_cali (q2 := (cc_pC q k x)) rfl rfl (co_crt g q hk) X G (x := x) rfl (ctX1_dodgeOf l g pls q hk x _ hc3) (cwV 1 hts gX1_hitOf_X1_dodgeOf rfl rfl rfl (by decide +kernel) ⟨Nat.le_of_ble_eq_true rfl, Nat.le_of_ble_eq_true rfl⟩) (rest := [.int ((10 : Int32) + r1)]) rfl hl.1 rfl (Nat.le_of_ble_eq_true rfl) dX1_hitOf_10 (fun H locs G => ?_)
  refine lv_isub hx hb dX1_hitOf_13 ?_
  refine lv_iload_n hx hb dX1_hitOf_14 rfl (lv_at hl 3 rfl) ?_
  obtain ⟨r5, hc5, h6⟩ := pp_ob_ex h4
  clear h4
  refine cc_csn X G (ctX10_isHow l _ hc5) ⟨va_cnB 1 hts gX1_hitOf_X10_isHow_n128 rfl rfl rfl (X.2.1.2.1 (.methodLinkNest RX1 128 yX10_isHow RX10) (by decide +kernel)) (hts (.initialized RX10) (by decide +kernel)) (by decide +kernel) ⟨Nat.le_of_ble_eq_true rfl, Nat.le_of_ble_eq_true rfl⟩, hts (.static yX10_isHow) (by decide +kernel), trivial⟩ (rest := [.int (((10 : Int32) + r1) - r3)]) rfl hl.1 rfl (Nat.le_of_ble_eq_true rfl) dX1_hitOf_15 (fun H locs G => ?_)
  obtain ⟨j7, ej7, h8⟩ := pp_lj_ex h6
  clear h6
  have hj7 : ∀ (a7 : Int32) (H : Heap) (locs : List Loc) (ls : Array Slot), j7 a7 = some res → cc_H g A pls (cc_pC q k x) s H locs → lv_has ls 4 [] → W p l e (headSpec wsX1_hitOf rmX1_hitOf).room s m args below meth c H locs 0 0 Q (F0 m 30 ls [.int a7, .int (((10 : Int32) + r1) - r3)]) := by
    intro a7 H locs ls h G hl
    have h9 := pp_jmp ej7 h
    clear h h8
    refine lv_iadd hx hb dX1_hitOf_30 ?_
    obtain ⟨r10, hc10, h11⟩ := pp_ob_ex h9
    clear h9
    refine cc_csn X G (ctX10_withinOdds l _ hc10) ⟨va_cnB 1 hts gX1_hitOf_X10_withinOdds_n134 rfl rfl rfl (X.2.1.2.1 (.methodLinkNest RX1 134 yX10_withinOdds RX10) (by decide +kernel)) (hts (.initialized RX10) (by decide +kernel)) (by decide +kernel) ⟨Nat.le_of_ble_eq_true rfl, Nat.le_of_ble_eq_true rfl⟩, hts (.static yX10_withinOdds) (by decide +kernel), trivial⟩ (rest := []) rfl hl.1 rfl (Nat.le_of_ble_eq_true rfl) dX1_hitOf_31 (fun H locs G => ?_)
    exact cc_iret X hr hlk rfl G (Option.some.inj h11) rfl hQ dX1_hitOf_34
  refine lv_if_eq (tgt := 29) hx hb dX1_hitOf_18 (by decide) (fun c12 => ?_) (fun c12 => ?_)
  · have h13 := pp_t c12 h8
    clear h8
    refine lv_iconst (v := 0) hx hb dX1_hitOf_29 (by decide) ?_
    exact hj7 _ H locs ls h13 G (lv_sub hl [] rfl)
  · have h14 := pp_f c12 h8
    clear h8
    refine va_getsN hx hb X.2.1.2.2.1.1 G.2 hown (va_Nw.use rfl (X.2.1.2.1 (.fieldLinkNest RX1 131 RX10 "HIT_BY_HOW" "[I" RX10) (by decide +kernel))) (fun _ z => z) dX1_hitOf_21 ?_
    refine lv_iload_n hx hb dX1_hitOf_24 rfl (lv_at hl 3 rfl) ?_
    obtain ⟨hi15, h16⟩ := pp_ix_ex h14
    clear h14
    refine va_ti hx hb X.2.1.2.2.1.2.1 G.2 hi15 (v := .int (cc_hb (Int32.toNatClampNeg v3))) rfl dX1_hitOf_25 ?_
    refine lv_goto (tgt := 30) hx hb dX1_hitOf_26 (by decide) ?_
    exact hj7 _ H locs ls h16 G (lv_sub hl [] rfl)
noncomputable def K_caughtOf (x : cc_CT) (v1 : Int32) (v2 : Int32) : Option Int32 := pp_ob (K_graspOf x v1) (fun r1 => pp_ob (C_isHow v2) (fun r3 => pp_lj (fun (a5 : Int32) => (pp_ob (C_withinOdds (r1 + a5)) (fun r8 => some r8) : Option Int32)) (fun j5 => (if r3 = (0 : Int32) then j5 (0 : Int32) else pp_ix v2 3 (j5 (cc_kb (Int32.toNatClampNeg v2)))))))
abbrev rmX1_caughtOf : Room := { frames := 4, cells := 0, slots := 0, locals := 84 }
set_option maxHeartbeats 4000000 in
set_option maxRecDepth 100000 in
theorem ctX1_caughtOf (l : Launch) (g : cc_G) (pls : va_W) (q : cc_S) {k : Nat} (hk : k < 3) (x : cc_CT) (v1 : Int32) (v2 : Int32) {res : Int32} (h : K_caughtOf x v1 v2 = some res) : cc_Mi l yX1_caughtOf wsX1_caughtOf rmX1_caughtOf g pls [.ref (cc_ad g (10 + 20 * k)), .int v1, .int v2] (cc_pC q k x) res (cc_pC q k x) := by
  intro sz A hA
  unfold K_caughtOf at h
  refine cc_ofW hA (own := RX1) (by decide) rfl rfl (Nat.le_of_ble_eq_true rfl) ?_
  intro p e s m args below meth c ls X hr hlk G hl Q hQ
  have hx := X.1.1
  have hb := X.1.2.1
  have hown := X.1.2.2.2.1
  have hts := X.1.2.2.2.2
  refine (fun (key : ∀ (H : Heap) (locs : List Loc), cc_H g A pls (cc_pC q k x) s H locs → W p l e (headSpec wsX1_caughtOf rmX1_caughtOf).room s m args below meth c H locs 0 0 Q (F0 m 0 ls [])) => key _ _ G) ?_
  clear G
  intro H locs G
  have hl : lv_has ls 3 [(0, .ref (cc_ad g (10 + 20 * k))), (1, .int v1), (2, .int v2)] := hl
  refine lv_aload_n hx hb dX1_caughtOf_0 rfl (lv_at hl 0 rfl) ?_
  refine lv_iload_n hx hb dX1_caughtOf_1 rfl (lv_at hl 1 rfl) ?_
  obtain ⟨r1, hc1, h2⟩ := pp_ob_ex h
  clear h
  refine cc_cali (q2 := (cc_pC q k x)) rfl rfl (co_crt g q hk) X G (x := x) rfl (ctX1_graspOf l g pls q hk x _ hc1) (cwV 1 hts gX1_caughtOf_X1_graspOf rfl rfl rfl (by decide +kernel) ⟨Nat.le_of_ble_eq_true rfl, Nat.le_of_ble_eq_true rfl⟩) (rest := []) rfl hl.1 rfl (Nat.le_of_ble_eq_true rfl) dX1_caughtOf_2 (fun H locs G => ?_)
  refine lv_iload_n hx hb dX1_caughtOf_5 rfl (lv_at hl 2 rfl) ?_
  obtain ⟨r3, hc3, h4⟩ := pp_ob_ex h2
  clear h2
  refine cc_csn X G (ctX10_isHow l _ hc3) ⟨va_cnB 1 hts gX1_caughtOf_X10_isHow_n128 rfl rfl rfl (X.2.1.2.1 (.methodLinkNest RX1 128 yX10_isHow RX10) (by decide +kernel)) (hts (.initialized RX10) (by decide +kernel)) (by decide +kernel) ⟨Nat.le_of_ble_eq_true rfl, Nat.le_of_ble_eq_true rfl⟩, hts (.static yX10_isHow) (by decide +kernel), trivial⟩ (rest := [.int r1]) rfl hl.1 rfl (Nat.le_of_ble_eq_true rfl) dX1_caughtOf_6 (fun H locs G => ?_)
  obtain ⟨j5, ej5, h6⟩ := pp_lj_ex h4
  clear h4
  have hj5 : ∀ (a5 : Int32) (H : Heap) (locs : List Loc) (ls : Array Slot), j5 a5 = some res → cc_H g A pls (cc_pC q k x) s H locs → lv_has ls 3 [] → W p l e (headSpec wsX1_caughtOf rmX1_caughtOf).room s m args below meth c H locs 0 0 Q (F0 m 21 ls [.int a5, .int r1]) := by
    intro a5 H locs ls h G hl
    have h7 := pp_jmp ej5 h
    clear h h6
    refine lv_iadd hx hb dX1_caughtOf_21 ?_
    obtain ⟨r8, hc8, h9⟩ := pp_ob_ex h7
    clear h7
    refine cc_csn X G (ctX10_withinOdds l _ hc8) ⟨va_cnB 1 hts gX1_caughtOf_X10_withinOdds_n134 rfl rfl rfl (X.2.1.2.1 (.methodLinkNest RX1 134 yX10_withinOdds RX10) (by decide +kernel)) (hts (.initialized RX10) (by decide +kernel)) (by decide +kernel) ⟨Nat.le_of_ble_eq_true rfl, Nat.le_of_ble_eq_true rfl⟩, hts (.static yX10_withinOdds) (by decide +kernel), trivial⟩ (rest := []) rfl hl.1 rfl (Nat.le_of_ble_eq_true rfl) dX1_caughtOf_22 (fun H locs G => ?_)
    exact cc_iret X hr hlk rfl G (Option.some.inj h9) rfl hQ dX1_caughtOf_25
  refine lv_if_eq (tgt := 20) hx hb dX1_caughtOf_9 (by decide) (fun c10 => ?_) (fun c10 => ?_)
  · have h11 := pp_t c10 h6
    clear h6
    refine lv_iconst (v := 0) hx hb dX1_caughtOf_20 (by decide) ?_
    exact hj5 _ H locs ls h11 G (lv_sub hl [] rfl)
  · have h12 := pp_f c10 h6
    clear h6
    refine va_getsN hx hb X.2.1.2.2.1.2.2.1 G.2 hown (va_Nw.use rfl (X.2.1.2.1 (.fieldLinkNest RX1 140 RX10 "CAUGHT_BY_HOW" "[I" RX10) (by decide +kernel))) (fun _ z => z) dX1_caughtOf_12 ?_
    refine lv_iload_n hx hb dX1_caughtOf_15 rfl (lv_at hl 2 rfl) ?_
    obtain ⟨hi13, h14⟩ := pp_ix_ex h12
    clear h12
    refine va_ti hx hb X.2.1.2.2.1.2.2.2.1 G.2 hi13 (v := .int (cc_kb (Int32.toNatClampNeg v2))) rfl dX1_caughtOf_16 ?_
    refine lv_goto (tgt := 21) hx hb dX1_caughtOf_17 (by decide) ?_
    exact hj5 _ H locs ls h14 G (lv_sub hl [] rfl)
noncomputable def K_gainOf (x : cc_CT) (v1 : Int32) (v2 : Int32) (v3 : Int32) : Option Int32 := pp_ob (K_hitOf x v1 v2 v3) (fun r1 => pp_ob (K_caughtOf x v2 v3) (fun r3 => some (r1 - ((2 : Int32) * r3))))
abbrev rmX1_gainOf : Room := { frames := 5, cells := 0, slots := 0, locals := 107 }
set_option maxHeartbeats 4000000 in
set_option maxRecDepth 100000 in
theorem ctX1_gainOf (l : Launch) (g : cc_G) (pls : va_W) (q : cc_S) {k : Nat} (hk : k < 3) (x : cc_CT) (v1 : Int32) (v2 : Int32) (v3 : Int32) {res : Int32} (h : K_gainOf x v1 v2 v3 = some res) : cc_Mi l yX1_gainOf wsX1_gainOf rmX1_gainOf g pls [.ref (cc_ad g (10 + 20 * k)), .int v1, .int v2, .int v3] (cc_pC q k x) res (cc_pC q k x) := by
  intro sz A hA
  unfold K_gainOf at h
  refine cc_ofW hA (own := RX1) (by decide) rfl rfl (Nat.le_of_ble_eq_true rfl) ?_
  intro p e s m args below meth c ls X hr hlk G hl Q hQ
  have hx := X.1.1
  have hb := X.1.2.1
  have hown := X.1.2.2.2.1
  have hts := X.1.2.2.2.2
  refine (fun (key : ∀ (H : Heap) (locs : List Loc), cc_H g A pls (cc_pC q k x) s H locs → W p l e (headSpec wsX1_gainOf rmX1_gainOf).room s m args below meth c H locs 0 0 Q (F0 m 0 ls [])) => key _ _ G) ?_
  clear G
  intro H locs G
  have hl : lv_has ls 4 [(0, .ref (cc_ad g (10 + 20 * k))), (1, .int v1), (2, .int v2), (3, .int v3)] := hl
  refine lv_aload_n hx hb dX1_gainOf_0 rfl (lv_at hl 0 rfl) ?_
  refine lv_iload_n hx hb dX1_gainOf_1 rfl (lv_at hl 1 rfl) ?_
  refine lv_iload_n hx hb dX1_gainOf_2 rfl (lv_at hl 2 rfl) ?_
  refine lv_iload_n hx hb dX1_gainOf_3 rfl (lv_at hl 3 rfl) ?_
  obtain ⟨r1, hc1, h2⟩ := pp_ob_ex h
  clear h
  refine cc_cali (q2 := (cc_pC q k x)) rfl rfl (co_crt g q hk) X G (x := x) rfl (ctX1_hitOf l g pls q hk x _ _ _ hc1) (cwV 3 hts gX1_gainOf_X1_hitOf rfl rfl rfl (by decide +kernel) ⟨Nat.le_of_ble_eq_true rfl, Nat.le_of_ble_eq_true rfl⟩) (rest := []) rfl hl.1 rfl (Nat.le_of_ble_eq_true rfl) dX1_gainOf_4 (fun H locs G => ?_)
  refine lv_iconst (v := 2) hx hb dX1_gainOf_7 (by decide) ?_
  refine lv_aload_n hx hb dX1_gainOf_8 rfl (lv_at hl 0 rfl) ?_
  refine lv_iload_n hx hb dX1_gainOf_9 rfl (lv_at hl 2 rfl) ?_
  refine lv_iload_n hx hb dX1_gainOf_10 rfl (lv_at hl 3 rfl) ?_
  obtain ⟨r3, hc3, h4⟩ := pp_ob_ex h2
  clear h2
  refine cc_cali (q2 := (cc_pC q k x)) rfl rfl (co_crt g q hk) X G (x := x) rfl (ctX1_caughtOf l g pls q hk x _ _ hc3) (cwV 2 hts gX1_gainOf_X1_caughtOf rfl rfl rfl (by decide +kernel) ⟨Nat.le_of_ble_eq_true rfl, Nat.le_of_ble_eq_true rfl⟩) (rest := [.int (2 : Int32), .int r1]) rfl hl.1 rfl (Nat.le_of_ble_eq_true rfl) dX1_gainOf_11 (fun H locs G => ?_)
  refine lv_imul hx hb dX1_gainOf_14 ?_
  refine lv_isub hx hb dX1_gainOf_15 ?_
  exact cc_iret X hr hlk rfl G (Option.some.inj h4) rfl hQ dX1_gainOf_16
noncomputable def K_gainAt (x : cc_CT) (v1 : Int32) : Option Int32 := pp_it (fun (self1 : Int32 × Int32 → Option Int32) (a1 : Int32 × Int32) => (if (x.1.1 1) ≤ a1.2 then some a1.1 else pp_it (fun (self5 : Int32 × Int32 → Option Int32) (a5 : Int32 × Int32) => (if (x.1.1 1) ≤ a5.2 then pp_lj (a1.2 + 1 : Int32) (fun x8 => self1 (a5.1, x8)) else pp_ob (K_sideOf x a5.2) (fun r11 => pp_lj (fun (a13 : Int32) => (pp_lj (a5.2 + 1 : Int32) (fun x16 => self5 (a13, x16)) : Option Int32)) (fun j13 => (if r11 = v1 then pp_ob (K_areOpposed x a1.2 a5.2) (fun r21 => (if r21 = (0 : Int32) then j13 a5.1 else pp_ob (K_gainOf x a1.2 a5.2 (0 : Int32)) (fun r26 => pp_lj ((a5.1 + r26) : Int32) (fun x28 => j13 x28)))) else j13 a5.1))))) 200 (a1.1, (0 : Int32)))) 200 ((0 : Int32), (0 : Int32))
abbrev rmX1_gainAt : Room := { frames := 6, cells := 0, slots := 0, locals := 130 }
set_option maxHeartbeats 4000000 in
set_option maxRecDepth 100000 in
theorem ctX1_gainAt (l : Launch) (g : cc_G) (pls : va_W) (q : cc_S) {k : Nat} (hk : k < 3) (x : cc_CT) (v1 : Int32) {res : Int32} (h : K_gainAt x v1 = some res) : cc_Mi l yX1_gainAt wsX1_gainAt rmX1_gainAt g pls [.ref (cc_ad g (10 + 20 * k)), .int v1] (cc_pC q k x) res (cc_pC q k x) := by
  intro sz A hA
  unfold K_gainAt at h
  refine cc_ofW hA (own := RX1) (by decide) rfl rfl (Nat.le_of_ble_eq_true rfl) ?_
  intro p e s m args below meth c ls X hr hlk G hl Q hQ
  have hx := X.1.1
  have hb := X.1.2.1
  have hown := X.1.2.2.2.1
  have hts := X.1.2.2.2.2
  refine (fun (key : ∀ (H : Heap) (locs : List Loc), cc_H g A pls (cc_pC q k x) s H locs → W p l e (headSpec wsX1_gainAt rmX1_gainAt).room s m args below meth c H locs 0 0 Q (F0 m 0 ls [])) => key _ _ G) ?_
  clear G
  intro H locs G
  have hl : lv_has ls 5 [(0, .ref (cc_ad g (10 + 20 * k))), (1, .int v1)] := hl
  have hf44 : Cond.fieldLink RX1 44 (TX1 1).1 (TX1 1).2.1 (TX1 1).2.2.1 ∈ wsX1_gainAt := by decide +kernel
  have hin1 : ∀ y ∈ wsX10, y ∈ wsX1_gainAt := (fun _ z => List.mem_cons_of_mem _ (List.mem_append_left _ (List.mem_append_left _ (List.mem_append_left _ (List.mem_append_left _ (List.mem_append_left _ (List.mem_append_left _ (List.mem_append_left _ (List.mem_append_right _ z)))))))))
  refine lv_iconst (v := 0) hx hb dX1_gainAt_0 (by decide) ?_
  refine lv_istore_n (lv' := [(2, .int (0 : Int32)), (0, .ref (cc_ad g (10 + 20 * k))), (1, .int v1)]) hx hb dX1_gainAt_1 rfl hl (by decide) rfl (fun ls hl => ?_)
  refine lv_iconst (v := 0) hx hb dX1_gainAt_2 (by decide) ?_
  refine lv_istore_n (lv' := [(3, .int (0 : Int32)), (2, .int (0 : Int32)), (0, .ref (cc_ad g (10 + 20 * k))), (1, .int v1)]) hx hb dX1_gainAt_3 rfl hl (by decide) rfl (fun ls hl => ?_)
  refine pp_loop (I := fun (a1 : Int32 × Int32) => ∀ (H : Heap) (locs : List Loc) (ls : Array Slot), cc_H g A pls (cc_pC q k x) s H locs → lv_has ls 5 [(0, .ref (cc_ad g (10 + 20 * k))), (1, .int v1), (2, .int a1.1), (3, .int a1.2)] → W p l e (headSpec wsX1_gainAt rmX1_gainAt).room s m args below meth c H locs 0 0 Q (F0 m 4 ls [])) ?_ 200 _ h H locs ls G (lv_sub hl [2, 3, 1, 0] rfl)
  clear h
  intro self1 ih1 a1 h1 H locs ls G hl
  refine lv_iload_n hx hb dX1_gainAt_4 rfl (lv_at hl 3 rfl) ?_
  refine lv_aload_n hx hb dX1_gainAt_5 rfl (lv_at hl 0 rfl) ?_
  refine cc_get (co_crt g q hk) X G (x := x) rfl hin1 1 (by decide) hf44 (v := .int (x.1.1 1)) rfl dX1_gainAt_6 ?_
  refine lv_icmp_ge (tgt := 67) hx hb dX1_gainAt_9 (by decide) (fun c2 => ?_) (fun c2 => ?_)
  · have h3 := pp_t c2 h1
    clear h1
    refine lv_iload_n hx hb dX1_gainAt_67 rfl (lv_at hl 2 rfl) ?_
    exact cc_iret X hr hlk rfl G (Option.some.inj h3) rfl hQ dX1_gainAt_68
  · have h4 := pp_f c2 h1
    clear h1
    refine lv_iconst (v := 0) hx hb dX1_gainAt_12 (by decide) ?_
    refine lv_istore (lv' := [(4, .int (0 : Int32)), (0, .ref (cc_ad g (10 + 20 * k))), (1, .int v1), (2, .int a1.1), (3, .int a1.2)]) hx hb dX1_gainAt_13 hl (by decide) rfl (fun ls hl => ?_)
    refine pp_loop (I := fun (a5 : Int32 × Int32) => ∀ (H : Heap) (locs : List Loc) (ls : Array Slot), cc_H g A pls (cc_pC q k x) s H locs → lv_has ls 5 [(0, .ref (cc_ad g (10 + 20 * k))), (1, .int v1), (2, .int a5.1), (3, .int a1.2), (4, .int a5.2)] → W p l e (headSpec wsX1_gainAt rmX1_gainAt).room s m args below meth c H locs 0 0 Q (F0 m 15 ls [])) ?_ 200 _ h4 H locs ls G (lv_sub hl [1, 2, 3, 4, 0] rfl)
    clear h4
    intro self5 ih5 a5 h5 H locs ls G hl
    refine lv_iload hx hb dX1_gainAt_15 (lv_at hl 4 rfl) ?_
    refine lv_aload_n hx hb dX1_gainAt_17 rfl (lv_at hl 0 rfl) ?_
    refine cc_get (co_crt g q hk) X G (x := x) rfl hin1 1 (by decide) hf44 (v := .int (x.1.1 1)) rfl dX1_gainAt_18 ?_
    refine lv_icmp_ge (tgt := 61) hx hb dX1_gainAt_21 (by decide) (fun c6 => ?_) (fun c6 => ?_)
    · have h7 := pp_t c6 h5
      clear h5
      obtain ⟨x8, ex8, h9⟩ := pp_lj_ex h7
      clear h7
      refine lv_iinc (v := x8) (lv' := [(3, .int x8), (0, .ref (cc_ad g (10 + 20 * k))), (1, .int v1), (2, .int a5.1), (4, .int a5.2)]) hx hb dX1_gainAt_61 hl (k := 3) rfl (by rw [ex8]; rfl) (by decide) rfl (fun ls hl => ?_)
      refine lv_goto (tgt := 4) hx hb dX1_gainAt_64 (by decide) ?_
      exact ih1 _ h9 H locs ls G (lv_sub hl [1, 2, 3, 0] rfl)
    · have h10 := pp_f c6 h5
      clear h5
      refine lv_aload_n hx hb dX1_gainAt_24 rfl (lv_at hl 0 rfl) ?_
      refine lv_iload hx hb dX1_gainAt_25 (lv_at hl 4 rfl) ?_
      obtain ⟨r11, hc11, h12⟩ := pp_ob_ex h10
      clear h10
      refine cc_cali (q2 := (cc_pC q k x)) rfl rfl (co_crt g q hk) X G (x := x) rfl (ctX1_sideOf l g pls q hk x _ hc11) (cwV 1 hts gX1_gainAt_X1_sideOf rfl rfl rfl (by decide +kernel) ⟨Nat.le_of_ble_eq_true rfl, Nat.le_of_ble_eq_true rfl⟩) (rest := []) rfl hl.1 rfl (Nat.le_of_ble_eq_true rfl) dX1_gainAt_27 (fun H locs G => ?_)
      refine lv_iload_n hx hb dX1_gainAt_30 rfl (lv_at hl 1 rfl) ?_
      obtain ⟨j13, ej13, h14⟩ := pp_lj_ex h12
      clear h12
      have hj13 : ∀ (a13 : Int32) (H : Heap) (locs : List Loc) (ls : Array Slot), j13 a13 = some res → cc_H g A pls (cc_pC q k x) s H locs → lv_has ls 5 [(0, .ref (cc_ad g (10 + 20 * k))), (1, .int v1), (2, .int a13), (3, .int a1.2), (4, .int a5.2)] → W p l e (headSpec wsX1_gainAt rmX1_gainAt).room s m args below meth c H locs 0 0 Q (F0 m 55 ls []) := by
        intro a13 H locs ls h G hl
        have h15 := pp_jmp ej13 h
        clear h h14
        obtain ⟨x16, ex16, h17⟩ := pp_lj_ex h15
        clear h15
        refine lv_iinc (v := x16) (lv' := [(4, .int x16), (0, .ref (cc_ad g (10 + 20 * k))), (1, .int v1), (2, .int a13), (3, .int a1.2)]) hx hb dX1_gainAt_55 hl (k := 4) rfl (by rw [ex16]; rfl) (by decide) rfl (fun ls hl => ?_)
        refine lv_goto (tgt := 15) hx hb dX1_gainAt_58 (by decide) ?_
        exact ih5 _ h17 H locs ls G (lv_sub hl [1, 2, 3, 4, 0] rfl)
      refine lv_icmp_ne (tgt := 55) hx hb dX1_gainAt_31 (by decide) (fun c18 => ?_) (fun c18 => ?_)
      · have h19 := pp_f c18 h14
        clear h14
        exact hj13 _ H locs ls h19 G hl
      · have h20 := pp_t c18 h14
        clear h14
        refine lv_aload_n hx hb dX1_gainAt_34 rfl (lv_at hl 0 rfl) ?_
        refine lv_iload_n hx hb dX1_gainAt_35 rfl (lv_at hl 3 rfl) ?_
        refine lv_iload hx hb dX1_gainAt_36 (lv_at hl 4 rfl) ?_
        obtain ⟨r21, hc21, h22⟩ := pp_ob_ex h20
        clear h20
        refine cc_cali (q2 := (cc_pC q k x)) rfl rfl (co_crt g q hk) X G (x := x) rfl (ctX1_areOpposed l g pls q hk x _ _ hc21) (cwV 2 hts gX1_gainAt_X1_areOpposed rfl rfl rfl (by decide +kernel) ⟨Nat.le_of_ble_eq_true rfl, Nat.le_of_ble_eq_true rfl⟩) (rest := []) rfl hl.1 rfl (Nat.le_of_ble_eq_true rfl) dX1_gainAt_38 (fun H locs G => ?_)
        refine lv_if_eq (tgt := 55) hx hb dX1_gainAt_41 (by decide) (fun c23 => ?_) (fun c23 => ?_)
        · have h24 := pp_t c23 h22
          clear h22
          exact hj13 _ H locs ls h24 G hl
        · have h25 := pp_f c23 h22
          clear h22
          refine lv_iload_n hx hb dX1_gainAt_44 rfl (lv_at hl 2 rfl) ?_
          refine lv_aload_n hx hb dX1_gainAt_45 rfl (lv_at hl 0 rfl) ?_
          refine lv_iload_n hx hb dX1_gainAt_46 rfl (lv_at hl 3 rfl) ?_
          refine lv_iload hx hb dX1_gainAt_47 (lv_at hl 4 rfl) ?_
          refine lv_iconst (v := 0) hx hb dX1_gainAt_49 (by decide) ?_
          obtain ⟨r26, hc26, h27⟩ := pp_ob_ex h25
          clear h25
          refine cc_cali (q2 := (cc_pC q k x)) rfl rfl (co_crt g q hk) X G (x := x) rfl (ctX1_gainOf l g pls q hk x _ _ _ hc26) (cwV 3 hts gX1_gainAt_X1_gainOf rfl rfl rfl (by decide +kernel) ⟨Nat.le_of_ble_eq_true rfl, Nat.le_of_ble_eq_true rfl⟩) (rest := [.int a5.1]) rfl hl.1 rfl (Nat.le_of_ble_eq_true rfl) dX1_gainAt_50 (fun H locs G => ?_)
          refine lv_iadd hx hb dX1_gainAt_53 ?_
          obtain ⟨x28, ex28, h29⟩ := pp_lj_ex h27
          clear h27
          refine lv_nmi ex28 ?_
          refine lv_istore_n (lv' := [(2, .int x28), (0, .ref (cc_ad g (10 + 20 * k))), (1, .int v1), (3, .int a1.2), (4, .int a5.2)]) hx hb dX1_gainAt_54 rfl hl (by decide) rfl (fun ls hl => ?_)
          exact hj13 _ H locs ls h29 G (lv_sub hl [1, 2, 0, 3, 4] rfl)
noncomputable def C_isSide (v0 : Int32) : Option Int32 := pp_lj (fun (a1 : Unit) => (some (0 : Int32) : Option Int32)) (fun j1 => (if v0 < (0 : Int32) then j1 () else (if (2 : Int32) ≤ v0 then j1 () else some (1 : Int32))))
abbrev rmX10_isSide : Room := { frames := 0, cells := 0, slots := 0, locals := 0 }
set_option maxHeartbeats 4000000 in
set_option maxRecDepth 100000 in
theorem ctX10_isSide (l : Launch) (v0 : Int32) {res : Int32} (h : C_isSide v0 = some res) : xs_Mi l yX10_isSide wsX10_isSide rmX10_isSide [.int v0] res := by
  intro sz
  unfold C_isSide at h
  refine xs_ofW (own := RX10) (by decide) rfl rfl (Nat.le_of_ble_eq_true rfl) ?_
  intro p e s m args below meth c ls X hr hlk hl Q hQ
  have hx := X.1
  have hb := X.2.1
  have hown := X.2.2.2.1
  have hts := X.2.2.2.2
  have hl : lv_has ls 1 [(0, .int v0)] := hl
  refine lv_iload_n hx hb dX10_isSide_0 rfl (lv_at hl 0 rfl) ?_
  obtain ⟨j1, ej1, h2⟩ := pp_lj_ex h
  clear h
  have hj1 : ∀ (a1 : Unit) (ls : Array Slot), j1 a1 = some res → lv_has ls 1 [] → W p l e (headSpec wsX10_isSide rmX10_isSide).room s m args below meth c s.heap [] 0 0 Q (F0 m 13 ls []) := by
    intro a1 ls h hl
    have h3 := pp_jmp ej1 h
    clear h h2
    refine lv_iconst (v := 0) hx hb dX10_isSide_13 (by decide) ?_
    exact xs_iret hx hb hr hlk rfl h3 hQ dX10_isSide_14
  refine lv_if_lt (tgt := 13) hx hb dX10_isSide_1 (by decide) (fun c4 => ?_) (fun c4 => ?_)
  · have h5 := pp_t c4 h2
    clear h2
    exact hj1 _ ls h5 (lv_sub hl [] rfl)
  · have h6 := pp_f c4 h2
    clear h2
    refine lv_iload_n hx hb dX10_isSide_4 rfl (lv_at hl 0 rfl) ?_
    refine lv_iconst (v := 2) hx hb dX10_isSide_5 (by decide) ?_
    refine lv_icmp_ge (tgt := 13) hx hb dX10_isSide_6 (by decide) (fun c7 => ?_) (fun c7 => ?_)
    · have h8 := pp_t c7 h6
      clear h6
      exact hj1 _ ls h8 (lv_sub hl [] rfl)
    · have h9 := pp_f c7 h6
      clear h6
      refine lv_iconst (v := 1) hx hb dX10_isSide_9 (by decide) ?_
      refine lv_goto (tgt := 14) hx hb dX10_isSide_10 (by decide) ?_
      exact xs_iret hx hb hr hlk rfl h9 hQ dX10_isSide_14
noncomputable def S_letIn (y : rr_S) (v1 : Int32) : Option rr_S := pp_lj (rr_I y 0 ((y.1 0) ||| ((1 : Int32) <<< (v1 &&& 31))) : rr_S) (fun x1 => some x1)
abbrev rmX6_letIn : Room := { frames := 0, cells := 0, slots := 0, locals := 0 }
set_option maxHeartbeats 4000000 in
set_option maxRecDepth 100000 in
theorem ctX6_letIn (l : Launch) (g : cc_G) (pls : va_W) (q : cc_S) {k sd : Nat} (hk : k < 3) (hs : sd < 2) (x : cc_CT) (y : rr_S) (v1 : Int32) {res : rr_S} (h : S_letIn y v1 = some res) : cc_Mv l yX6_letIn wsX6_letIn rmX6_letIn g pls [.ref (cc_ad g (cs_id k sd)), .int v1] (cc_pS q k x sd y) (cc_pS q k x sd res) := by
  intro sz A hA
  unfold S_letIn at h
  refine cc_ofW hA (own := RX6) (by decide) rfl rfl (Nat.le_of_ble_eq_true rfl) ?_
  intro p e s m args below meth c ls X hr hlk G hl Q hQ
  have hx := X.1.1
  have hb := X.1.2.1
  have hown := X.1.2.2.2.1
  have hts := X.1.2.2.2.2
  refine (fun (key : ∀ (H : Heap) (locs : List Loc), cc_H g A pls (cc_pS q k x sd y) s H locs → W p l e (headSpec wsX6_letIn rmX6_letIn).room s m args below meth c H locs 0 0 Q (F0 m 0 ls [])) => key _ _ G) ?_
  clear G
  intro H locs G
  have hl : lv_has ls 2 [(0, .ref (cc_ad g (cs_id k sd))), (1, .int v1)] := hl
  have hf15 : Cond.fieldLink RX6 15 (TX6 0).1 (TX6 0).2.1 (TX6 0).2.2.1 ∈ wsX6_letIn := by decide +kernel
  have hin6 : ∀ y ∈ wsX60, y ∈ wsX6_letIn := (fun _ z => List.mem_cons_of_mem _ (List.mem_append_right _ z))
  refine lv_aload_n hx hb dX6_letIn_0 rfl (lv_at hl 0 rfl) ?_
  refine lv_dup hx hb dX6_letIn_1 rfl ?_
  refine cc_get (so_side g q x hk hs) X G (x := y) rfl hin6 0 (by decide) hf15 (v := .int (y.1 0)) rfl dX6_letIn_2 ?_
  refine lv_iconst (v := 1) hx hb dX6_letIn_5 (by decide) ?_
  refine lv_iload_n hx hb dX6_letIn_6 rfl (lv_at hl 1 rfl) ?_
  refine lv_ishl hx hb dX6_letIn_7 ?_
  refine lv_ior hx hb dX6_letIn_8 ?_
  obtain ⟨x1, ex1, h2⟩ := pp_lj_ex h
  clear h
  refine cc_put (si_0 g q x hk hs) X G (x := y) rfl hin6 tyX6 tyX6_ok nmX6 (by decide) hf15 rfl (ty := .int) (by decide +kernel) rfl rfl ex1 dX6_letIn_9 (fun H locs G => ?_)
  exact cc_vret X hr hlk G (congrArg (fun (z : rr_S) => (cc_pS q k x sd z)) (Option.some.inj h2)) hQ dX6_letIn_12
noncomputable def K_hold (x : cc_CT) (v1 : Int32) (v2 : Int32) : Option cc_CT := pp_ob (C_isBall v1) (fun r1 => (if r1 = (0 : Int32) then some x else pp_ix v1 6 (pp_lj (cc_ca x 4 (Int32.toNatClampNeg v1) v2 : cc_CT) (fun x8 => pp_lj (cc_ca x8 5 (Int32.toNatClampNeg v1) (-9 : Int32) : cc_CT) (fun x10 => pp_lj (cc_ca x10 6 (Int32.toNatClampNeg v1) (0 : Int32) : cc_CT) (fun x12 => some x12))))))
abbrev rmX1_hold : Room := { frames := 1, cells := 0, slots := 0, locals := 20 }
set_option maxHeartbeats 4000000 in
set_option maxRecDepth 100000 in
theorem ctX1_hold (l : Launch) (g : cc_G) (pls : va_W) (q : cc_S) {k : Nat} (hk : k < 3) (x : cc_CT) (v1 : Int32) (v2 : Int32) {res : cc_CT} (h : K_hold x v1 v2 = some res) : cc_Mv l yX1_hold wsX1_hold rmX1_hold g pls [.ref (cc_ad g (10 + 20 * k)), .int v1, .int v2] (cc_pC q k x) (cc_pC q k res) := by
  intro sz A hA
  unfold K_hold at h
  refine cc_ofW hA (own := RX1) (by decide) rfl rfl (Nat.le_of_ble_eq_true rfl) ?_
  intro p e s m args below meth c ls X hr hlk G hl Q hQ
  have hx := X.1.1
  have hb := X.1.2.1
  have hown := X.1.2.2.2.1
  have hts := X.1.2.2.2.2
  refine (fun (key : ∀ (H : Heap) (locs : List Loc), cc_H g A pls (cc_pC q k x) s H locs → W p l e (headSpec wsX1_hold rmX1_hold).room s m args below meth c H locs 0 0 Q (F0 m 0 ls [])) => key _ _ G) ?_
  clear G
  intro H locs G
  have hl : lv_has ls 3 [(0, .ref (cc_ad g (10 + 20 * k))), (1, .int v1), (2, .int v2)] := hl
  have hf27 : Cond.fieldLink RX1 27 (TX1 4).1 (TX1 4).2.1 (TX1 4).2.2.1 ∈ wsX1_hold := by decide +kernel
  have hf31 : Cond.fieldLink RX1 31 (TX1 5).1 (TX1 5).2.1 (TX1 5).2.2.1 ∈ wsX1_hold := by decide +kernel
  have hf34 : Cond.fieldLink RX1 34 (TX1 6).1 (TX1 6).2.1 (TX1 6).2.2.1 ∈ wsX1_hold := by decide +kernel
  have hin1 : ∀ y ∈ wsX10, y ∈ wsX1_hold := (fun _ z => List.mem_cons_of_mem _ (List.mem_append_right _ z))
  refine lv_iload_n hx hb dX1_hold_0 rfl (lv_at hl 1 rfl) ?_
  obtain ⟨r1, hc1, h2⟩ := pp_ob_ex h
  clear h
  refine cc_csn X G (ctX10_isBall l _ hc1) ⟨va_cnB 1 hts gX1_hold_X10_isBall_n95 rfl rfl rfl (X.2.1.2.1 (.methodLinkNest RX1 95 yX10_isBall RX10) (by decide +kernel)) (hts (.initialized RX10) (by decide +kernel)) (by decide +kernel) ⟨Nat.le_of_ble_eq_true rfl, Nat.le_of_ble_eq_true rfl⟩, hts (.static yX10_isBall) (by decide +kernel), trivial⟩ (rest := []) rfl hl.1 rfl (Nat.le_of_ble_eq_true rfl) dX1_hold_1 (fun H locs G => ?_)
  refine lv_if_eq (tgt := 29) hx hb dX1_hold_4 (by decide) (fun c3 => ?_) (fun c3 => ?_)
  · have h4 := pp_t c3 h2
    clear h2
    exact cc_vret X hr hlk G (congrArg (fun (z : cc_CT) => (cc_pC q k z)) (Option.some.inj h4)) hQ dX1_hold_29
  · have h5 := pp_f c3 h2
    clear h2
    refine lv_aload_n hx hb dX1_hold_7 rfl (lv_at hl 0 rfl) ?_
    refine cc_get (co_crt g q hk) X G (x := x) rfl hin1 4 (by decide) hf27 (v := .ref (cc_ad g (10 + 20 * k + 6))) rfl dX1_hold_8 ?_
    refine lv_iload_n hx hb dX1_hold_11 rfl (lv_at hl 1 rfl) ?_
    refine lv_iload_n hx hb dX1_hold_12 rfl (lv_at hl 2 rfl) ?_
    obtain ⟨hi6, h7⟩ := pp_ix_ex h5
    clear h5
    obtain ⟨x8, ex8, h9⟩ := pp_lj_ex h7
    clear h7
    refine cc_iast (ca_4 g q hk) X G (x := x) hi6 ex8 dX1_hold_13 (fun H locs G => ?_)
    refine lv_aload_n hx hb dX1_hold_14 rfl (lv_at hl 0 rfl) ?_
    refine cc_get (co_crt g q hk) X G (x := x8) rfl hin1 5 (by decide) hf31 (v := .ref (cc_ad g (10 + 20 * k + 7))) rfl dX1_hold_15 ?_
    refine lv_iload_n hx hb dX1_hold_18 rfl (lv_at hl 1 rfl) ?_
    refine lv_bipush (v := -9) hx hb dX1_hold_19 (by decide) ?_
    obtain ⟨x10, ex10, h11⟩ := pp_lj_ex h9
    clear h9
    refine cc_iast (ca_5 g q hk) X G (x := x8) hi6 ex10 dX1_hold_21 (fun H locs G => ?_)
    refine lv_aload_n hx hb dX1_hold_22 rfl (lv_at hl 0 rfl) ?_
    refine cc_get (co_crt g q hk) X G (x := x10) rfl hin1 6 (by decide) hf34 (v := .ref (cc_ad g (10 + 20 * k + 8))) rfl dX1_hold_23 ?_
    refine lv_iload_n hx hb dX1_hold_26 rfl (lv_at hl 1 rfl) ?_
    refine lv_iconst (v := 0) hx hb dX1_hold_27 (by decide) ?_
    obtain ⟨x12, ex12, h13⟩ := pp_lj_ex h11
    clear h11
    refine cc_iast (ca_6 g q hk) X G (x := x10) hi6 ex12 dX1_hold_28 (fun H locs G => ?_)
    exact cc_vret X hr hlk G (congrArg (fun (z : cc_CT) => (cc_pC q k z)) (Option.some.inj h13)) hQ dX1_hold_29
noncomputable def K_give (x : cc_CT) (v1 : Int32) (v2 : Int32) : Option (Int32 × cc_CT) := pp_ob (C_isBall v1) (fun r1 => (if r1 = (0 : Int32) then some ((0 : Int32), x) else pp_ob (K_isIn x v2) (fun r6 => (if r6 = (0 : Int32) then some ((0 : Int32), x) else pp_ix v1 6 (pp_lj (fun (a13 : Unit) => (pp_ob (K_hold x v1 v2) (fun r16 => some ((1 : Int32), r16)) : Option (Int32 × cc_CT))) (fun j13 => (if (x.1.2.1 4 (Int32.toNatClampNeg v1)) = v2 then j13 () else pp_ob (K_hasHandFree x v2) (fun r21 => (if r21 = (0 : Int32) then some ((0 : Int32), x) else j13 ())))))))))
abbrev rmX1_give : Room := { frames := 3, cells := 0, slots := 0, locals := 65 }
set_option maxHeartbeats 4000000 in
set_option maxRecDepth 100000 in
theorem ctX1_give (l : Launch) (g : cc_G) (pls : va_W) (q : cc_S) {k : Nat} (hk : k < 3) (x : cc_CT) (v1 : Int32) (v2 : Int32) {res : (Int32 × cc_CT)} (h : K_give x v1 v2 = some res) : cc_Mi l yX1_give wsX1_give rmX1_give g pls [.ref (cc_ad g (10 + 20 * k)), .int v1, .int v2] (cc_pC q k x) res.1 (cc_pC q k res.2) := by
  intro sz A hA
  unfold K_give at h
  refine cc_ofW hA (own := RX1) (by decide) rfl rfl (Nat.le_of_ble_eq_true rfl) ?_
  intro p e s m args below meth c ls X hr hlk G hl Q hQ
  have hx := X.1.1
  have hb := X.1.2.1
  have hown := X.1.2.2.2.1
  have hts := X.1.2.2.2.2
  refine (fun (key : ∀ (H : Heap) (locs : List Loc), cc_H g A pls (cc_pC q k x) s H locs → W p l e (headSpec wsX1_give rmX1_give).room s m args below meth c H locs 0 0 Q (F0 m 0 ls [])) => key _ _ G) ?_
  clear G
  intro H locs G
  have hl : lv_has ls 3 [(0, .ref (cc_ad g (10 + 20 * k))), (1, .int v1), (2, .int v2)] := hl
  have hf27 : Cond.fieldLink RX1 27 (TX1 4).1 (TX1 4).2.1 (TX1 4).2.2.1 ∈ wsX1_give := by decide +kernel
  have hin1 : ∀ y ∈ wsX10, y ∈ wsX1_give := (fun _ z => List.mem_cons_of_mem _ (List.mem_append_left _ (List.mem_append_right _ z)))
  refine lv_iload_n hx hb dX1_give_0 rfl (lv_at hl 1 rfl) ?_
  obtain ⟨r1, hc1, h2⟩ := pp_ob_ex h
  clear h
  refine cc_csn X G (ctX10_isBall l _ hc1) ⟨va_cnB 1 hts gX1_give_X10_isBall_n95 rfl rfl rfl (X.2.1.2.1 (.methodLinkNest RX1 95 yX10_isBall RX10) (by decide +kernel)) (hts (.initialized RX10) (by decide +kernel)) (by decide +kernel) ⟨Nat.le_of_ble_eq_true rfl, Nat.le_of_ble_eq_true rfl⟩, hts (.static yX10_isBall) (by decide +kernel), trivial⟩ (rest := []) rfl hl.1 rfl (Nat.le_of_ble_eq_true rfl) dX1_give_1 (fun H locs G => ?_)
  refine lv_if_eq (tgt := 33) hx hb dX1_give_4 (by decide) (fun c3 => ?_) (fun c3 => ?_)
  · have h4 := pp_t c3 h2
    clear h2
    refine lv_iconst (v := 0) hx hb dX1_give_33 (by decide) ?_
    exact cc_iretW (cc_pC q k) X hr hlk rfl G h4 hQ dX1_give_34
  · have h5 := pp_f c3 h2
    clear h2
    refine lv_aload_n hx hb dX1_give_7 rfl (lv_at hl 0 rfl) ?_
    refine lv_iload_n hx hb dX1_give_8 rfl (lv_at hl 2 rfl) ?_
    obtain ⟨r6, hc6, h7⟩ := pp_ob_ex h5
    clear h5
    refine cc_cali (q2 := (cc_pC q k x)) rfl rfl (co_crt g q hk) X G (x := x) rfl (ctX1_isIn l g pls q hk x _ hc6) (cwV 1 hts gX1_give_X1_isIn rfl rfl rfl (by decide +kernel) ⟨Nat.le_of_ble_eq_true rfl, Nat.le_of_ble_eq_true rfl⟩) (rest := []) rfl hl.1 rfl (Nat.le_of_ble_eq_true rfl) dX1_give_9 (fun H locs G => ?_)
    refine lv_if_eq (tgt := 33) hx hb dX1_give_12 (by decide) (fun c8 => ?_) (fun c8 => ?_)
    · have h9 := pp_t c8 h7
      clear h7
      refine lv_iconst (v := 0) hx hb dX1_give_33 (by decide) ?_
      exact cc_iretW (cc_pC q k) X hr hlk rfl G h9 hQ dX1_give_34
    · have h10 := pp_f c8 h7
      clear h7
      refine lv_aload_n hx hb dX1_give_15 rfl (lv_at hl 0 rfl) ?_
      refine cc_get (co_crt g q hk) X G (x := x) rfl hin1 4 (by decide) hf27 (v := .ref (cc_ad g (10 + 20 * k + 6))) rfl dX1_give_16 ?_
      refine lv_iload_n hx hb dX1_give_19 rfl (lv_at hl 1 rfl) ?_
      obtain ⟨hi11, h12⟩ := pp_ix_ex h10
      clear h10
      refine cc_iald (ca_4 g q hk) X G (x := x) hi11 dX1_give_20 ?_
      refine lv_iload_n hx hb dX1_give_21 rfl (lv_at hl 2 rfl) ?_
      obtain ⟨j13, ej13, h14⟩ := pp_lj_ex h12
      clear h12
      have hj13 : ∀ (a13 : Unit) (H : Heap) (locs : List Loc) (ls : Array Slot), j13 a13 = some res → cc_H g A pls (cc_pC q k x) s H locs → lv_has ls 3 [(0, .ref (cc_ad g (10 + 20 * k))), (1, .int v1), (2, .int v2)] → W p l e (headSpec wsX1_give rmX1_give).room s m args below meth c H locs 0 0 Q (F0 m 35 ls []) := by
        intro a13 H locs ls h G hl
        have h15 := pp_jmp ej13 h
        clear h h14
        refine lv_aload_n hx hb dX1_give_35 rfl (lv_at hl 0 rfl) ?_
        refine lv_iload_n hx hb dX1_give_36 rfl (lv_at hl 1 rfl) ?_
        refine lv_iload_n hx hb dX1_give_37 rfl (lv_at hl 2 rfl) ?_
        obtain ⟨r16, hc16, h17⟩ := pp_ob_ex h15
        clear h15
        refine cc_calv (q2 := (cc_pC q k r16)) rfl rfl (co_crt g q hk) X G (x := x) rfl (ctX1_hold l g pls q hk x _ _ hc16) (cwV 2 hts gX1_give_X1_hold rfl rfl rfl (by decide +kernel) ⟨Nat.le_of_ble_eq_true rfl, Nat.le_of_ble_eq_true rfl⟩) (rest := []) rfl hl.1 rfl (Nat.le_of_ble_eq_true rfl) dX1_give_38 (fun H locs G => ?_)
        refine lv_iconst (v := 1) hx hb dX1_give_41 (by decide) ?_
        exact cc_iretW (cc_pC q k) X hr hlk rfl G h17 hQ dX1_give_42
      refine lv_icmp_eq (tgt := 35) hx hb dX1_give_22 (by decide) (fun c18 => ?_) (fun c18 => ?_)
      · have h19 := pp_t c18 h14
        clear h14
        exact hj13 _ H locs ls h19 G hl
      · have h20 := pp_f c18 h14
        clear h14
        refine lv_aload_n hx hb dX1_give_25 rfl (lv_at hl 0 rfl) ?_
        refine lv_iload_n hx hb dX1_give_26 rfl (lv_at hl 2 rfl) ?_
        obtain ⟨r21, hc21, h22⟩ := pp_ob_ex h20
        clear h20
        refine cc_cali (q2 := (cc_pC q k x)) rfl rfl (co_crt g q hk) X G (x := x) rfl (ctX1_hasHandFree l g pls q hk x _ hc21) (cwV 1 hts gX1_give_X1_hasHandFree rfl rfl rfl (by decide +kernel) ⟨Nat.le_of_ble_eq_true rfl, Nat.le_of_ble_eq_true rfl⟩) (rest := []) rfl hl.1 rfl (Nat.le_of_ble_eq_true rfl) dX1_give_27 (fun H locs G => ?_)
        refine lv_if_ne (tgt := 35) hx hb dX1_give_30 (by decide) (fun c23 => ?_) (fun c23 => ?_)
        · have h24 := pp_f c23 h22
          clear h22
          exact hj13 _ H locs ls h24 G hl
        · have h25 := pp_t c23 h22
          clear h22
          refine lv_iconst (v := 0) hx hb dX1_give_33 (by decide) ?_
          exact cc_iretW (cc_pC q k) X hr hlk rfl G h25 hQ dX1_give_34
noncomputable def K_layOn (x : cc_CT) (v1 : Int32) (v2 : Int32) : Option cc_CT := pp_ob (C_isBall v1) (fun r1 => (if r1 = (0 : Int32) then some x else pp_ix v1 6 (pp_lj (cc_ca x 4 (Int32.toNatClampNeg v1) (-9 : Int32) : cc_CT) (fun x8 => pp_lj (cc_ca x8 5 (Int32.toNatClampNeg v1) v2 : cc_CT) (fun x10 => pp_lj (cc_ca x10 6 (Int32.toNatClampNeg v1) (0 : Int32) : cc_CT) (fun x12 => some x12))))))
abbrev rmX1_layOn : Room := { frames := 1, cells := 0, slots := 0, locals := 20 }
set_option maxHeartbeats 4000000 in
set_option maxRecDepth 100000 in
theorem ctX1_layOn (l : Launch) (g : cc_G) (pls : va_W) (q : cc_S) {k : Nat} (hk : k < 3) (x : cc_CT) (v1 : Int32) (v2 : Int32) {res : cc_CT} (h : K_layOn x v1 v2 = some res) : cc_Mv l yX1_layOn wsX1_layOn rmX1_layOn g pls [.ref (cc_ad g (10 + 20 * k)), .int v1, .int v2] (cc_pC q k x) (cc_pC q k res) := by
  intro sz A hA
  unfold K_layOn at h
  refine cc_ofW hA (own := RX1) (by decide) rfl rfl (Nat.le_of_ble_eq_true rfl) ?_
  intro p e s m args below meth c ls X hr hlk G hl Q hQ
  have hx := X.1.1
  have hb := X.1.2.1
  have hown := X.1.2.2.2.1
  have hts := X.1.2.2.2.2
  refine (fun (key : ∀ (H : Heap) (locs : List Loc), cc_H g A pls (cc_pC q k x) s H locs → W p l e (headSpec wsX1_layOn rmX1_layOn).room s m args below meth c H locs 0 0 Q (F0 m 0 ls [])) => key _ _ G) ?_
  clear G
  intro H locs G
  have hl : lv_has ls 3 [(0, .ref (cc_ad g (10 + 20 * k))), (1, .int v1), (2, .int v2)] := hl
  have hf27 : Cond.fieldLink RX1 27 (TX1 4).1 (TX1 4).2.1 (TX1 4).2.2.1 ∈ wsX1_layOn := by decide +kernel
  have hf31 : Cond.fieldLink RX1 31 (TX1 5).1 (TX1 5).2.1 (TX1 5).2.2.1 ∈ wsX1_layOn := by decide +kernel
  have hf34 : Cond.fieldLink RX1 34 (TX1 6).1 (TX1 6).2.1 (TX1 6).2.2.1 ∈ wsX1_layOn := by decide +kernel
  have hin1 : ∀ y ∈ wsX10, y ∈ wsX1_layOn := (fun _ z => List.mem_cons_of_mem _ (List.mem_append_right _ z))
  refine lv_iload_n hx hb dX1_layOn_0 rfl (lv_at hl 1 rfl) ?_
  obtain ⟨r1, hc1, h2⟩ := pp_ob_ex h
  clear h
  refine cc_csn X G (ctX10_isBall l _ hc1) ⟨va_cnB 1 hts gX1_layOn_X10_isBall_n95 rfl rfl rfl (X.2.1.2.1 (.methodLinkNest RX1 95 yX10_isBall RX10) (by decide +kernel)) (hts (.initialized RX10) (by decide +kernel)) (by decide +kernel) ⟨Nat.le_of_ble_eq_true rfl, Nat.le_of_ble_eq_true rfl⟩, hts (.static yX10_isBall) (by decide +kernel), trivial⟩ (rest := []) rfl hl.1 rfl (Nat.le_of_ble_eq_true rfl) dX1_layOn_1 (fun H locs G => ?_)
  refine lv_if_eq (tgt := 29) hx hb dX1_layOn_4 (by decide) (fun c3 => ?_) (fun c3 => ?_)
  · have h4 := pp_t c3 h2
    clear h2
    exact cc_vret X hr hlk G (congrArg (fun (z : cc_CT) => (cc_pC q k z)) (Option.some.inj h4)) hQ dX1_layOn_29
  · have h5 := pp_f c3 h2
    clear h2
    refine lv_aload_n hx hb dX1_layOn_7 rfl (lv_at hl 0 rfl) ?_
    refine cc_get (co_crt g q hk) X G (x := x) rfl hin1 4 (by decide) hf27 (v := .ref (cc_ad g (10 + 20 * k + 6))) rfl dX1_layOn_8 ?_
    refine lv_iload_n hx hb dX1_layOn_11 rfl (lv_at hl 1 rfl) ?_
    refine lv_bipush (v := -9) hx hb dX1_layOn_12 (by decide) ?_
    obtain ⟨hi6, h7⟩ := pp_ix_ex h5
    clear h5
    obtain ⟨x8, ex8, h9⟩ := pp_lj_ex h7
    clear h7
    refine cc_iast (ca_4 g q hk) X G (x := x) hi6 ex8 dX1_layOn_14 (fun H locs G => ?_)
    refine lv_aload_n hx hb dX1_layOn_15 rfl (lv_at hl 0 rfl) ?_
    refine cc_get (co_crt g q hk) X G (x := x8) rfl hin1 5 (by decide) hf31 (v := .ref (cc_ad g (10 + 20 * k + 7))) rfl dX1_layOn_16 ?_
    refine lv_iload_n hx hb dX1_layOn_19 rfl (lv_at hl 1 rfl) ?_
    refine lv_iload_n hx hb dX1_layOn_20 rfl (lv_at hl 2 rfl) ?_
    obtain ⟨x10, ex10, h11⟩ := pp_lj_ex h9
    clear h9
    refine cc_iast (ca_5 g q hk) X G (x := x8) hi6 ex10 dX1_layOn_21 (fun H locs G => ?_)
    refine lv_aload_n hx hb dX1_layOn_22 rfl (lv_at hl 0 rfl) ?_
    refine cc_get (co_crt g q hk) X G (x := x10) rfl hin1 6 (by decide) hf34 (v := .ref (cc_ad g (10 + 20 * k + 8))) rfl dX1_layOn_23 ?_
    refine lv_iload_n hx hb dX1_layOn_26 rfl (lv_at hl 1 rfl) ?_
    refine lv_iconst (v := 0) hx hb dX1_layOn_27 (by decide) ?_
    obtain ⟨x12, ex12, h13⟩ := pp_lj_ex h11
    clear h11
    refine cc_iast (ca_6 g q hk) X G (x := x10) hi6 ex12 dX1_layOn_28 (fun H locs G => ?_)
    exact cc_vret X hr hlk G (congrArg (fun (z : cc_CT) => (cc_pC q k z)) (Option.some.inj h13)) hQ dX1_layOn_29
noncomputable def K_lay (x : cc_CT) (v1 : Int32) (v2 : Int32) : Option (Int32 × cc_CT) := pp_ob (C_isBall v1) (fun r1 => (if r1 = (0 : Int32) then some ((0 : Int32), x) else pp_ob (C_isSide v2) (fun r6 => (if r6 = (0 : Int32) then some ((0 : Int32), x) else pp_ob (K_layOn x v1 v2) (fun r10 => some ((1 : Int32), r10))))))
abbrev rmX1_lay : Room := { frames := 2, cells := 0, slots := 0, locals := 42 }
set_option maxHeartbeats 4000000 in
set_option maxRecDepth 100000 in
theorem ctX1_lay (l : Launch) (g : cc_G) (pls : va_W) (q : cc_S) {k : Nat} (hk : k < 3) (x : cc_CT) (v1 : Int32) (v2 : Int32) {res : (Int32 × cc_CT)} (h : K_lay x v1 v2 = some res) : cc_Mi l yX1_lay wsX1_lay rmX1_lay g pls [.ref (cc_ad g (10 + 20 * k)), .int v1, .int v2] (cc_pC q k x) res.1 (cc_pC q k res.2) := by
  intro sz A hA
  unfold K_lay at h
  refine cc_ofW hA (own := RX1) (by decide) rfl rfl (Nat.le_of_ble_eq_true rfl) ?_
  intro p e s m args below meth c ls X hr hlk G hl Q hQ
  have hx := X.1.1
  have hb := X.1.2.1
  have hown := X.1.2.2.2.1
  have hts := X.1.2.2.2.2
  refine (fun (key : ∀ (H : Heap) (locs : List Loc), cc_H g A pls (cc_pC q k x) s H locs → W p l e (headSpec wsX1_lay rmX1_lay).room s m args below meth c H locs 0 0 Q (F0 m 0 ls [])) => key _ _ G) ?_
  clear G
  intro H locs G
  have hl : lv_has ls 3 [(0, .ref (cc_ad g (10 + 20 * k))), (1, .int v1), (2, .int v2)] := hl
  refine lv_iload_n hx hb dX1_lay_0 rfl (lv_at hl 1 rfl) ?_
  obtain ⟨r1, hc1, h2⟩ := pp_ob_ex h
  clear h
  refine cc_csn X G (ctX10_isBall l _ hc1) ⟨va_cnB 1 hts gX1_lay_X10_isBall_n95 rfl rfl rfl (X.2.1.2.1 (.methodLinkNest RX1 95 yX10_isBall RX10) (by decide +kernel)) (hts (.initialized RX10) (by decide +kernel)) (by decide +kernel) ⟨Nat.le_of_ble_eq_true rfl, Nat.le_of_ble_eq_true rfl⟩, hts (.static yX10_isBall) (by decide +kernel), trivial⟩ (rest := []) rfl hl.1 rfl (Nat.le_of_ble_eq_true rfl) dX1_lay_1 (fun H locs G => ?_)
  refine lv_if_eq (tgt := 14) hx hb dX1_lay_4 (by decide) (fun c3 => ?_) (fun c3 => ?_)
  · have h4 := pp_t c3 h2
    clear h2
    refine lv_iconst (v := 0) hx hb dX1_lay_14 (by decide) ?_
    exact cc_iretW (cc_pC q k) X hr hlk rfl G h4 hQ dX1_lay_15
  · have h5 := pp_f c3 h2
    clear h2
    refine lv_iload_n hx hb dX1_lay_7 rfl (lv_at hl 2 rfl) ?_
    obtain ⟨r6, hc6, h7⟩ := pp_ob_ex h5
    clear h5
    refine cc_csn X G (ctX10_isSide l _ hc6) ⟨va_cnB 1 hts gX1_lay_X10_isSide_n154 rfl rfl rfl (X.2.1.2.1 (.methodLinkNest RX1 154 yX10_isSide RX10) (by decide +kernel)) (hts (.initialized RX10) (by decide +kernel)) (by decide +kernel) ⟨Nat.le_of_ble_eq_true rfl, Nat.le_of_ble_eq_true rfl⟩, hts (.static yX10_isSide) (by decide +kernel), trivial⟩ (rest := []) rfl hl.1 rfl (Nat.le_of_ble_eq_true rfl) dX1_lay_8 (fun H locs G => ?_)
    refine lv_if_ne (tgt := 16) hx hb dX1_lay_11 (by decide) (fun c8 => ?_) (fun c8 => ?_)
    · have h9 := pp_f c8 h7
      clear h7
      refine lv_aload_n hx hb dX1_lay_16 rfl (lv_at hl 0 rfl) ?_
      refine lv_iload_n hx hb dX1_lay_17 rfl (lv_at hl 1 rfl) ?_
      refine lv_iload_n hx hb dX1_lay_18 rfl (lv_at hl 2 rfl) ?_
      obtain ⟨r10, hc10, h11⟩ := pp_ob_ex h9
      clear h9
      refine cc_calv (q2 := (cc_pC q k r10)) rfl rfl (co_crt g q hk) X G (x := x) rfl (ctX1_layOn l g pls q hk x _ _ hc10) (cwV 2 hts gX1_lay_X1_layOn rfl rfl rfl (by decide +kernel) ⟨Nat.le_of_ble_eq_true rfl, Nat.le_of_ble_eq_true rfl⟩) (rest := []) rfl hl.1 rfl (Nat.le_of_ble_eq_true rfl) dX1_lay_19 (fun H locs G => ?_)
      refine lv_iconst (v := 1) hx hb dX1_lay_22 (by decide) ?_
      exact cc_iretW (cc_pC q k) X hr hlk rfl G h11 hQ dX1_lay_23
    · have h12 := pp_t c8 h7
      clear h7
      refine lv_iconst (v := 0) hx hb dX1_lay_14 (by decide) ?_
      exact cc_iretW (cc_pC q k) X hr hlk rfl G h12 hQ dX1_lay_15
noncomputable def S_letOut (y : rr_S) (v1 : Int32) : Option rr_S := pp_lj (rr_I y 0 ((y.1 0) &&& (((1 : Int32) <<< (v1 &&& 31)) ^^^ (-1 : Int32))) : rr_S) (fun x1 => (if (Int32.ofNat 8) ≤ (x1.1 2) then some x1 else pp_ix (x1.1 2) 8 (pp_lj (rr_A x1 1 (Int32.toNatClampNeg (x1.1 2)) v1 : rr_S) (fun x8 => pp_lj (rr_I x8 2 ((x8.1 2) + (1 : Int32)) : rr_S) (fun x10 => some x10)))))
abbrev rmX6_letOut : Room := { frames := 0, cells := 0, slots := 0, locals := 0 }
set_option maxHeartbeats 4000000 in
set_option maxRecDepth 100000 in
theorem ctX6_letOut (l : Launch) (g : cc_G) (pls : va_W) (q : cc_S) {k sd : Nat} (hk : k < 3) (hs : sd < 2) (x : cc_CT) (y : rr_S) (v1 : Int32) {res : rr_S} (h : S_letOut y v1 = some res) : cc_Mv l yX6_letOut wsX6_letOut rmX6_letOut g pls [.ref (cc_ad g (cs_id k sd)), .int v1] (cc_pS q k x sd y) (cc_pS q k x sd res) := by
  intro sz A hA
  unfold S_letOut at h
  refine cc_ofW hA (own := RX6) (by decide) rfl rfl (Nat.le_of_ble_eq_true rfl) ?_
  intro p e s m args below meth c ls X hr hlk G hl Q hQ
  have hx := X.1.1
  have hb := X.1.2.1
  have hown := X.1.2.2.2.1
  have hts := X.1.2.2.2.2
  refine (fun (key : ∀ (H : Heap) (locs : List Loc), cc_H g A pls (cc_pS q k x sd y) s H locs → W p l e (headSpec wsX6_letOut rmX6_letOut).room s m args below meth c H locs 0 0 Q (F0 m 0 ls [])) => key _ _ G) ?_
  clear G
  intro H locs G
  have hl : lv_has ls 2 [(0, .ref (cc_ad g (cs_id k sd))), (1, .int v1)] := hl
  have hf9 : Cond.fieldLink RX6 9 (TX6 1).1 (TX6 1).2.1 (TX6 1).2.2.1 ∈ wsX6_letOut := by decide +kernel
  have hf15 : Cond.fieldLink RX6 15 (TX6 0).1 (TX6 0).2.1 (TX6 0).2.2.1 ∈ wsX6_letOut := by decide +kernel
  have hf19 : Cond.fieldLink RX6 19 (TX6 2).1 (TX6 2).2.1 (TX6 2).2.2.1 ∈ wsX6_letOut := by decide +kernel
  have hin6 : ∀ y ∈ wsX60, y ∈ wsX6_letOut := (fun _ z => List.mem_cons_of_mem _ (List.mem_append_right _ z))
  refine lv_aload_n hx hb dX6_letOut_0 rfl (lv_at hl 0 rfl) ?_
  refine lv_dup hx hb dX6_letOut_1 rfl ?_
  refine cc_get (so_side g q x hk hs) X G (x := y) rfl hin6 0 (by decide) hf15 (v := .int (y.1 0)) rfl dX6_letOut_2 ?_
  refine lv_iconst (v := 1) hx hb dX6_letOut_5 (by decide) ?_
  refine lv_iload_n hx hb dX6_letOut_6 rfl (lv_at hl 1 rfl) ?_
  refine lv_ishl hx hb dX6_letOut_7 ?_
  refine lv_iconst (v := -1) hx hb dX6_letOut_8 (by decide) ?_
  refine lv_ixor hx hb dX6_letOut_9 ?_
  refine lv_iand hx hb dX6_letOut_10 ?_
  obtain ⟨x1, ex1, h2⟩ := pp_lj_ex h
  clear h
  refine cc_put (si_0 g q x hk hs) X G (x := y) rfl hin6 tyX6 tyX6_ok nmX6 (by decide) hf15 rfl (ty := .int) (by decide +kernel) rfl rfl ex1 dX6_letOut_11 (fun H locs G => ?_)
  refine lv_aload_n hx hb dX6_letOut_14 rfl (lv_at hl 0 rfl) ?_
  refine cc_get (so_side g q x hk hs) X G (x := x1) rfl hin6 2 (by decide) hf19 (v := .int (x1.1 2)) rfl dX6_letOut_15 ?_
  refine lv_aload_n hx hb dX6_letOut_18 rfl (lv_at hl 0 rfl) ?_
  refine cc_get (so_side g q x hk hs) X G (x := x1) rfl hin6 1 (by decide) hf9 (v := .ref (cc_ad g (cs_id k sd + 1))) rfl dX6_letOut_19 ?_
  refine cc_ialen (sa_1 g q x hk hs) X G (x := x1) rfl dX6_letOut_22 ?_
  refine lv_icmp_ge (tgt := 46) hx hb dX6_letOut_23 (by decide) (fun c3 => ?_) (fun c3 => ?_)
  · have h4 := pp_t c3 h2
    clear h2
    exact cc_vret X hr hlk G (congrArg (fun (z : rr_S) => (cc_pS q k x sd z)) (Option.some.inj h4)) hQ dX6_letOut_46
  · have h5 := pp_f c3 h2
    clear h2
    refine lv_aload_n hx hb dX6_letOut_26 rfl (lv_at hl 0 rfl) ?_
    refine cc_get (so_side g q x hk hs) X G (x := x1) rfl hin6 1 (by decide) hf9 (v := .ref (cc_ad g (cs_id k sd + 1))) rfl dX6_letOut_27 ?_
    refine lv_aload_n hx hb dX6_letOut_30 rfl (lv_at hl 0 rfl) ?_
    refine cc_get (so_side g q x hk hs) X G (x := x1) rfl hin6 2 (by decide) hf19 (v := .int (x1.1 2)) rfl dX6_letOut_31 ?_
    refine lv_iload_n hx hb dX6_letOut_34 rfl (lv_at hl 1 rfl) ?_
    obtain ⟨hi6, h7⟩ := pp_ix_ex h5
    clear h5
    obtain ⟨x8, ex8, h9⟩ := pp_lj_ex h7
    clear h7
    refine cc_iast (sa_1 g q x hk hs) X G (x := x1) hi6 ex8 dX6_letOut_35 (fun H locs G => ?_)
    refine lv_aload_n hx hb dX6_letOut_36 rfl (lv_at hl 0 rfl) ?_
    refine lv_dup hx hb dX6_letOut_37 rfl ?_
    refine cc_get (so_side g q x hk hs) X G (x := x8) rfl hin6 2 (by decide) hf19 (v := .int (x8.1 2)) rfl dX6_letOut_38 ?_
    refine lv_iconst (v := 1) hx hb dX6_letOut_41 (by decide) ?_
    refine lv_iadd hx hb dX6_letOut_42 ?_
    obtain ⟨x10, ex10, h11⟩ := pp_lj_ex h9
    clear h9
    refine cc_put (si_2 g q x hk hs) X G (x := x8) rfl hin6 tyX6 tyX6_ok nmX6 (by decide) hf19 rfl (ty := .int) (by decide +kernel) rfl rfl ex10 dX6_letOut_43 (fun H locs G => ?_)
    exact cc_vret X hr hlk G (congrArg (fun (z : rr_S) => (cc_pS q k x sd z)) (Option.some.inj h11)) hQ dX6_letOut_46
noncomputable def K_goOut (x : cc_CT) (v1 : Int32) : Option (Int32 × cc_CT) := pp_ob (K_isIn x v1) (fun r1 => (if r1 = (0 : Int32) then some ((0 : Int32), x) else pp_ob (K_sideOf x v1) (fun r5 => pp_it (fun (self7 : cc_CT × Int32 → Option (Int32 × cc_CT)) (a7 : cc_CT × Int32) => (if (6 : Int32) ≤ a7.2 then pp_ob (K_sideAt a7.1 r5) (fun r10 => pp_l2 r10 (pp_ob (S_letOut (cc_gS a7.1 r10) v1) (fun r13 => pp_lj (cc_kS a7.1 r10 r13 : cc_CT) (fun x15 => some ((1 : Int32), x15))))) else pp_ix a7.2 6 (pp_lj (fun (a20 : cc_CT) => (pp_lj (a7.2 + 1 : Int32) (fun x23 => self7 (a20, x23)) : Option (Int32 × cc_CT))) (fun j20 => (if (a7.1.1.2.1 4 (Int32.toNatClampNeg a7.2)) = v1 then pp_ob (K_layOn a7.1 a7.2 r5) (fun r28 => j20 r28) else j20 a7.1))))) 200 (x, (0 : Int32)))))
abbrev rmX1_goOut : Room := { frames := 2, cells := 0, slots := 0, locals := 42 }
set_option maxHeartbeats 4000000 in
set_option maxRecDepth 100000 in
theorem ctX1_goOut (l : Launch) (g : cc_G) (pls : va_W) (q : cc_S) {k : Nat} (hk : k < 3) (x : cc_CT) (v1 : Int32) {res : (Int32 × cc_CT)} (h : K_goOut x v1 = some res) : cc_Mi l yX1_goOut wsX1_goOut rmX1_goOut g pls [.ref (cc_ad g (10 + 20 * k)), .int v1] (cc_pC q k x) res.1 (cc_pC q k res.2) := by
  intro sz A hA
  unfold K_goOut at h
  refine cc_ofW hA (own := RX1) (by decide) rfl rfl (Nat.le_of_ble_eq_true rfl) ?_
  intro p e s m args below meth c ls X hr hlk G hl Q hQ
  have hx := X.1.1
  have hb := X.1.2.1
  have hown := X.1.2.2.2.1
  have hts := X.1.2.2.2.2
  refine (fun (key : ∀ (H : Heap) (locs : List Loc), cc_H g A pls (cc_pC q k x) s H locs → W p l e (headSpec wsX1_goOut rmX1_goOut).room s m args below meth c H locs 0 0 Q (F0 m 0 ls [])) => key _ _ G) ?_
  clear G
  intro H locs G
  have hl : lv_has ls 4 [(0, .ref (cc_ad g (10 + 20 * k))), (1, .int v1)] := hl
  have hf27 : Cond.fieldLink RX1 27 (TX1 4).1 (TX1 4).2.1 (TX1 4).2.2.1 ∈ wsX1_goOut := by decide +kernel
  have hin1 : ∀ y ∈ wsX10, y ∈ wsX1_goOut := (fun _ z => List.mem_cons_of_mem _ (List.mem_append_left _ (List.mem_append_left _ (List.mem_append_left _ (List.mem_append_left _ (List.mem_append_left _ (List.mem_append_left _ (List.mem_append_left _ (List.mem_append_right _ z)))))))))
  refine lv_aload_n hx hb dX1_goOut_0 rfl (lv_at hl 0 rfl) ?_
  refine lv_iload_n hx hb dX1_goOut_1 rfl (lv_at hl 1 rfl) ?_
  obtain ⟨r1, hc1, h2⟩ := pp_ob_ex h
  clear h
  refine cc_cali (q2 := (cc_pC q k x)) rfl rfl (co_crt g q hk) X G (x := x) rfl (ctX1_isIn l g pls q hk x _ hc1) (cwV 1 hts gX1_goOut_X1_isIn rfl rfl rfl (by decide +kernel) ⟨Nat.le_of_ble_eq_true rfl, Nat.le_of_ble_eq_true rfl⟩) (rest := []) rfl hl.1 rfl (Nat.le_of_ble_eq_true rfl) dX1_goOut_2 (fun H locs G => ?_)
  refine lv_if_ne (tgt := 10) hx hb dX1_goOut_5 (by decide) (fun c3 => ?_) (fun c3 => ?_)
  · have h4 := pp_f c3 h2
    clear h2
    refine lv_aload_n hx hb dX1_goOut_10 rfl (lv_at hl 0 rfl) ?_
    refine lv_iload_n hx hb dX1_goOut_11 rfl (lv_at hl 1 rfl) ?_
    obtain ⟨r5, hc5, h6⟩ := pp_ob_ex h4
    clear h4
    refine cc_cali (q2 := (cc_pC q k x)) rfl rfl (co_crt g q hk) X G (x := x) rfl (ctX1_sideOf l g pls q hk x _ hc5) (cwV 1 hts gX1_goOut_X1_sideOf rfl rfl rfl (by decide +kernel) ⟨Nat.le_of_ble_eq_true rfl, Nat.le_of_ble_eq_true rfl⟩) (rest := []) rfl hl.1 rfl (Nat.le_of_ble_eq_true rfl) dX1_goOut_12 (fun H locs G => ?_)
    refine lv_istore_n (lv' := [(2, .int r5), (0, .ref (cc_ad g (10 + 20 * k))), (1, .int v1)]) hx hb dX1_goOut_15 rfl hl (by decide) rfl (fun ls hl => ?_)
    refine lv_iconst (v := 0) hx hb dX1_goOut_16 (by decide) ?_
    refine lv_istore_n (lv' := [(3, .int (0 : Int32)), (2, .int r5), (0, .ref (cc_ad g (10 + 20 * k))), (1, .int v1)]) hx hb dX1_goOut_17 rfl hl (by decide) rfl (fun ls hl => ?_)
    refine pp_loop (I := fun (a7 : cc_CT × Int32) => ∀ (H : Heap) (locs : List Loc) (ls : Array Slot), cc_H g A pls (cc_pC q k a7.1) s H locs → lv_has ls 4 [(0, .ref (cc_ad g (10 + 20 * k))), (1, .int v1), (2, .int r5), (3, .int a7.2)] → W p l e (headSpec wsX1_goOut rmX1_goOut).room s m args below meth c H locs 0 0 Q (F0 m 18 ls [])) ?_ 200 _ h6 H locs ls G (lv_sub hl [2, 3, 1, 0] rfl)
    clear h6
    intro self7 ih7 a7 h7 H locs ls G hl
    refine lv_iload_n hx hb dX1_goOut_18 rfl (lv_at hl 3 rfl) ?_
    refine lv_bipush (v := 6) hx hb dX1_goOut_19 (by decide) ?_
    refine lv_icmp_ge (tgt := 46) hx hb dX1_goOut_21 (by decide) (fun c8 => ?_) (fun c8 => ?_)
    · have h9 := pp_t c8 h7
      clear h7
      refine lv_aload_n hx hb dX1_goOut_46 rfl (lv_at hl 0 rfl) ?_
      refine lv_iload_n hx hb dX1_goOut_47 rfl (lv_at hl 2 rfl) ?_
      obtain ⟨r10, hc10, h11⟩ := pp_ob_ex h9
      clear h9
      refine cc_calo (q2 := (cc_pC q k a7.1)) rfl rfl (co_crt g q hk) X G (x := a7.1) rfl (ctX1_sideAt l g pls q hk a7.1 _ hc10) (cwV 1 hts gX1_goOut_X1_sideAt rfl rfl rfl (by decide +kernel) ⟨Nat.le_of_ble_eq_true rfl, Nat.le_of_ble_eq_true rfl⟩) (rest := []) rfl hl.1 rfl (Nat.le_of_ble_eq_true rfl) dX1_goOut_48 (fun H locs G => ?_)
      obtain ⟨hs10, h12⟩ := pp_l2_ex h11
      clear h11
      refine lv_iload_n hx hb dX1_goOut_51 rfl (lv_at hl 1 rfl) ?_
      obtain ⟨r13, hc13, h14⟩ := pp_ob_ex h12
      clear h12
      obtain ⟨x15, ex15, h16⟩ := pp_lj_ex h14
      clear h14
      refine cc_calv (q2 := (cc_pC q k x15)) (cc_pgS q k a7.1 r10) (by rw [ex15]; rfl) (co_side g q hk (sd := r10) hs10) X G (x := a7.1) rfl (ctX6_letOut l g pls q hk (sd := r10) hs10 a7.1 (cc_gS a7.1 r10) _ hc13) (cwV 1 hts gX1_goOut_X6_letOut rfl rfl rfl (by decide +kernel) ⟨Nat.le_of_ble_eq_true rfl, Nat.le_of_ble_eq_true rfl⟩) (rest := []) rfl hl.1 rfl (Nat.le_of_ble_eq_true rfl) dX1_goOut_52 (fun H locs G => ?_)
      refine lv_iconst (v := 1) hx hb dX1_goOut_55 (by decide) ?_
      exact cc_iretW (cc_pC q k) X hr hlk rfl G h16 hQ dX1_goOut_56
    · have h17 := pp_f c8 h7
      clear h7
      refine lv_aload_n hx hb dX1_goOut_24 rfl (lv_at hl 0 rfl) ?_
      refine cc_get (co_crt g q hk) X G (x := a7.1) rfl hin1 4 (by decide) hf27 (v := .ref (cc_ad g (10 + 20 * k + 6))) rfl dX1_goOut_25 ?_
      refine lv_iload_n hx hb dX1_goOut_28 rfl (lv_at hl 3 rfl) ?_
      obtain ⟨hi18, h19⟩ := pp_ix_ex h17
      clear h17
      refine cc_iald (ca_4 g q hk) X G (x := a7.1) hi18 dX1_goOut_29 ?_
      refine lv_iload_n hx hb dX1_goOut_30 rfl (lv_at hl 1 rfl) ?_
      obtain ⟨j20, ej20, h21⟩ := pp_lj_ex h19
      clear h19
      have hj20 : ∀ (a20 : cc_CT) (H : Heap) (locs : List Loc) (ls : Array Slot), j20 a20 = some res → cc_H g A pls (cc_pC q k a20) s H locs → lv_has ls 4 [(0, .ref (cc_ad g (10 + 20 * k))), (1, .int v1), (2, .int r5), (3, .int a7.2)] → W p l e (headSpec wsX1_goOut rmX1_goOut).room s m args below meth c H locs 0 0 Q (F0 m 40 ls []) := by
        intro a20 H locs ls h G hl
        have h22 := pp_jmp ej20 h
        clear h h21
        obtain ⟨x23, ex23, h24⟩ := pp_lj_ex h22
        clear h22
        refine lv_iinc (v := x23) (lv' := [(3, .int x23), (0, .ref (cc_ad g (10 + 20 * k))), (1, .int v1), (2, .int r5)]) hx hb dX1_goOut_40 hl (k := 3) rfl (by rw [ex23]; rfl) (by decide) rfl (fun ls hl => ?_)
        refine lv_goto (tgt := 18) hx hb dX1_goOut_43 (by decide) ?_
        exact ih7 _ h24 H locs ls G (lv_sub hl [1, 2, 3, 0] rfl)
      refine lv_icmp_ne (tgt := 40) hx hb dX1_goOut_31 (by decide) (fun c25 => ?_) (fun c25 => ?_)
      · have h26 := pp_f c25 h21
        clear h21
        exact hj20 _ H locs ls h26 G hl
      · have h27 := pp_t c25 h21
        clear h21
        refine lv_aload_n hx hb dX1_goOut_34 rfl (lv_at hl 0 rfl) ?_
        refine lv_iload_n hx hb dX1_goOut_35 rfl (lv_at hl 3 rfl) ?_
        refine lv_iload_n hx hb dX1_goOut_36 rfl (lv_at hl 2 rfl) ?_
        obtain ⟨r28, hc28, h29⟩ := pp_ob_ex h27
        clear h27
        refine cc_calv (q2 := (cc_pC q k r28)) rfl rfl (co_crt g q hk) X G (x := a7.1) rfl (ctX1_layOn l g pls q hk a7.1 _ _ hc28) (cwV 2 hts gX1_goOut_X1_layOn rfl rfl rfl (by decide +kernel) ⟨Nat.le_of_ble_eq_true rfl, Nat.le_of_ble_eq_true rfl⟩) (rest := []) rfl hl.1 rfl (Nat.le_of_ble_eq_true rfl) dX1_goOut_37 (fun H locs G => ?_)
        exact hj20 _ H locs ls h29 G hl
  · have h30 := pp_t c3 h2
    clear h2
    refine lv_iconst (v := 0) hx hb dX1_goOut_8 (by decide) ?_
    exact cc_iretW (cc_pC q k) X hr hlk rfl G h30 hQ dX1_goOut_9
noncomputable def K_letTenthGoBy (x : cc_CT) : Option cc_CT := pp_lj (cc_ci x 7 ((x.1.1 7) + (1 : Int32)) : cc_CT) (fun x1 => pp_it (fun (self3 : cc_CT × Int32 → Option cc_CT) (a3 : cc_CT × Int32) => (if (6 : Int32) ≤ a3.2 then some a3.1 else pp_ix a3.2 6 (pp_lj (fun (a9 : cc_CT) => (pp_lj (fun (a12 : cc_CT) => (pp_lj (a3.2 + 1 : Int32) (fun x15 => self3 (a12, x15)) : Option cc_CT)) (fun j12 => (if (a9.1.2.1 6 (Int32.toNatClampNeg a3.2)) ≤ (9 : Int32) then j12 a9 else pp_ob (K_sideOf a9 (a9.1.2.1 4 (Int32.toNatClampNeg a3.2))) (fun r20 => pp_ob (K_layOn a9 a3.2 ((1 : Int32) - r20)) (fun r22 => j12 r22)))) : Option cc_CT)) (fun j9 => (if (a3.1.1.2.1 4 (Int32.toNatClampNeg a3.2)) = (-9 : Int32) then j9 a3.1 else pp_lj (cc_ca a3.1 6 (Int32.toNatClampNeg a3.2) ((a3.1.1.2.1 6 (Int32.toNatClampNeg a3.2)) + (1 : Int32)) : cc_CT) (fun x27 => j9 x27)))))) 200 (x1, (0 : Int32)))
abbrev rmX1_letTenthGoBy : Room := { frames := 2, cells := 0, slots := 0, locals := 42 }
set_option maxHeartbeats 4000000 in
set_option maxRecDepth 100000 in
theorem ctX1_letTenthGoBy (l : Launch) (g : cc_G) (pls : va_W) (q : cc_S) {k : Nat} (hk : k < 3) (x : cc_CT) {res : cc_CT} (h : K_letTenthGoBy x = some res) : cc_Mv l yX1_letTenthGoBy wsX1_letTenthGoBy rmX1_letTenthGoBy g pls [.ref (cc_ad g (10 + 20 * k))] (cc_pC q k x) (cc_pC q k res) := by
  intro sz A hA
  unfold K_letTenthGoBy at h
  refine cc_ofW hA (own := RX1) (by decide) rfl rfl (Nat.le_of_ble_eq_true rfl) ?_
  intro p e s m args below meth c ls X hr hlk G hl Q hQ
  have hx := X.1.1
  have hb := X.1.2.1
  have hown := X.1.2.2.2.1
  have hts := X.1.2.2.2.2
  refine (fun (key : ∀ (H : Heap) (locs : List Loc), cc_H g A pls (cc_pC q k x) s H locs → W p l e (headSpec wsX1_letTenthGoBy rmX1_letTenthGoBy).room s m args below meth c H locs 0 0 Q (F0 m 0 ls [])) => key _ _ G) ?_
  clear G
  intro H locs G
  have hl : lv_has ls 2 [(0, .ref (cc_ad g (10 + 20 * k)))] := hl
  have hf27 : Cond.fieldLink RX1 27 (TX1 4).1 (TX1 4).2.1 (TX1 4).2.2.1 ∈ wsX1_letTenthGoBy := by decide +kernel
  have hf34 : Cond.fieldLink RX1 34 (TX1 6).1 (TX1 6).2.1 (TX1 6).2.2.1 ∈ wsX1_letTenthGoBy := by decide +kernel
  have hf58 : Cond.fieldLink RX1 58 (TX1 7).1 (TX1 7).2.1 (TX1 7).2.2.1 ∈ wsX1_letTenthGoBy := by decide +kernel
  have hin1 : ∀ y ∈ wsX10, y ∈ wsX1_letTenthGoBy := (fun _ z => List.mem_cons_of_mem _ (List.mem_append_left _ (List.mem_append_left _ (List.mem_append_left _ (List.mem_append_left _ (List.mem_append_left _ (List.mem_append_left _ (List.mem_append_right _ z))))))))
  refine lv_aload_n hx hb dX1_letTenthGoBy_0 rfl (lv_at hl 0 rfl) ?_
  refine lv_dup hx hb dX1_letTenthGoBy_1 rfl ?_
  refine cc_get (co_crt g q hk) X G (x := x) rfl hin1 7 (by decide) hf58 (v := .int (x.1.1 7)) rfl dX1_letTenthGoBy_2 ?_
  refine lv_iconst (v := 1) hx hb dX1_letTenthGoBy_5 (by decide) ?_
  refine lv_iadd hx hb dX1_letTenthGoBy_6 ?_
  obtain ⟨x1, ex1, h2⟩ := pp_lj_ex h
  clear h
  refine cc_put (ci_7 g q hk) X G (x := x) rfl hin1 tyX1 tyX1_ok nmX1 (by decide) hf58 rfl (ty := .int) (by decide +kernel) rfl rfl ex1 dX1_letTenthGoBy_7 (fun H locs G => ?_)
  refine lv_iconst (v := 0) hx hb dX1_letTenthGoBy_10 (by decide) ?_
  refine lv_istore_n (lv' := [(1, .int (0 : Int32)), (0, .ref (cc_ad g (10 + 20 * k)))]) hx hb dX1_letTenthGoBy_11 rfl hl (by decide) rfl (fun ls hl => ?_)
  refine pp_loop (I := fun (a3 : cc_CT × Int32) => ∀ (H : Heap) (locs : List Loc) (ls : Array Slot), cc_H g A pls (cc_pC q k a3.1) s H locs → lv_has ls 2 [(0, .ref (cc_ad g (10 + 20 * k))), (1, .int a3.2)] → W p l e (headSpec wsX1_letTenthGoBy rmX1_letTenthGoBy).room s m args below meth c H locs 0 0 Q (F0 m 12 ls [])) ?_ 200 _ h2 H locs ls G (lv_sub hl [1, 0] rfl)
  clear h2
  intro self3 ih3 a3 h3 H locs ls G hl
  refine lv_iload_n hx hb dX1_letTenthGoBy_12 rfl (lv_at hl 1 rfl) ?_
  refine lv_bipush (v := 6) hx hb dX1_letTenthGoBy_13 (by decide) ?_
  refine lv_icmp_ge (tgt := 73) hx hb dX1_letTenthGoBy_15 (by decide) (fun c4 => ?_) (fun c4 => ?_)
  · have h5 := pp_t c4 h3
    clear h3
    exact cc_vret X hr hlk G (congrArg (fun (z : cc_CT) => (cc_pC q k z)) (Option.some.inj h5)) hQ dX1_letTenthGoBy_73
  · have h6 := pp_f c4 h3
    clear h3
    refine lv_aload_n hx hb dX1_letTenthGoBy_18 rfl (lv_at hl 0 rfl) ?_
    refine cc_get (co_crt g q hk) X G (x := a3.1) rfl hin1 4 (by decide) hf27 (v := .ref (cc_ad g (10 + 20 * k + 6))) rfl dX1_letTenthGoBy_19 ?_
    refine lv_iload_n hx hb dX1_letTenthGoBy_22 rfl (lv_at hl 1 rfl) ?_
    obtain ⟨hi7, h8⟩ := pp_ix_ex h6
    clear h6
    refine cc_iald (ca_4 g q hk) X G (x := a3.1) hi7 dX1_letTenthGoBy_23 ?_
    refine lv_bipush (v := -9) hx hb dX1_letTenthGoBy_24 (by decide) ?_
    obtain ⟨j9, ej9, h10⟩ := pp_lj_ex h8
    clear h8
    have hj9 : ∀ (a9 : cc_CT) (H : Heap) (locs : List Loc) (ls : Array Slot), j9 a9 = some res → cc_H g A pls (cc_pC q k a9) s H locs → lv_has ls 2 [(0, .ref (cc_ad g (10 + 20 * k))), (1, .int a3.2)] → W p l e (headSpec wsX1_letTenthGoBy rmX1_letTenthGoBy).room s m args below meth c H locs 0 0 Q (F0 m 39 ls []) := by
      intro a9 H locs ls h G hl
      have h11 := pp_jmp ej9 h
      clear h h10
      refine lv_aload_n hx hb dX1_letTenthGoBy_39 rfl (lv_at hl 0 rfl) ?_
      refine cc_get (co_crt g q hk) X G (x := a9) rfl hin1 6 (by decide) hf34 (v := .ref (cc_ad g (10 + 20 * k + 8))) rfl dX1_letTenthGoBy_40 ?_
      refine lv_iload_n hx hb dX1_letTenthGoBy_43 rfl (lv_at hl 1 rfl) ?_
      refine cc_iald (ca_6 g q hk) X G (x := a9) hi7 dX1_letTenthGoBy_44 ?_
      refine lv_bipush (v := 9) hx hb dX1_letTenthGoBy_45 (by decide) ?_
      obtain ⟨j12, ej12, h13⟩ := pp_lj_ex h11
      clear h11
      have hj12 : ∀ (a12 : cc_CT) (H : Heap) (locs : List Loc) (ls : Array Slot), j12 a12 = some res → cc_H g A pls (cc_pC q k a12) s H locs → lv_has ls 2 [(0, .ref (cc_ad g (10 + 20 * k))), (1, .int a3.2)] → W p l e (headSpec wsX1_letTenthGoBy rmX1_letTenthGoBy).room s m args below meth c H locs 0 0 Q (F0 m 67 ls []) := by
        intro a12 H locs ls h G hl
        have h14 := pp_jmp ej12 h
        clear h h13
        obtain ⟨x15, ex15, h16⟩ := pp_lj_ex h14
        clear h14
        refine lv_iinc (v := x15) (lv' := [(1, .int x15), (0, .ref (cc_ad g (10 + 20 * k)))]) hx hb dX1_letTenthGoBy_67 hl (k := 1) rfl (by rw [ex15]; rfl) (by decide) rfl (fun ls hl => ?_)
        refine lv_goto (tgt := 12) hx hb dX1_letTenthGoBy_70 (by decide) ?_
        exact ih3 _ h16 H locs ls G (lv_sub hl [1, 0] rfl)
      refine lv_icmp_le (tgt := 67) hx hb dX1_letTenthGoBy_47 (by decide) (fun c17 => ?_) (fun c17 => ?_)
      · have h18 := pp_t c17 h13
        clear h13
        exact hj12 _ H locs ls h18 G hl
      · have h19 := pp_f c17 h13
        clear h13
        refine lv_aload_n hx hb dX1_letTenthGoBy_50 rfl (lv_at hl 0 rfl) ?_
        refine lv_iload_n hx hb dX1_letTenthGoBy_51 rfl (lv_at hl 1 rfl) ?_
        refine lv_iconst (v := 1) hx hb dX1_letTenthGoBy_52 (by decide) ?_
        refine lv_aload_n hx hb dX1_letTenthGoBy_53 rfl (lv_at hl 0 rfl) ?_
        refine lv_aload_n hx hb dX1_letTenthGoBy_54 rfl (lv_at hl 0 rfl) ?_
        refine cc_get (co_crt g q hk) X G (x := a9) rfl hin1 4 (by decide) hf27 (v := .ref (cc_ad g (10 + 20 * k + 6))) rfl dX1_letTenthGoBy_55 ?_
        refine lv_iload_n hx hb dX1_letTenthGoBy_58 rfl (lv_at hl 1 rfl) ?_
        refine cc_iald (ca_4 g q hk) X G (x := a9) hi7 dX1_letTenthGoBy_59 ?_
        obtain ⟨r20, hc20, h21⟩ := pp_ob_ex h19
        clear h19
        refine cc_cali (q2 := (cc_pC q k a9)) rfl rfl (co_crt g q hk) X G (x := a9) rfl (ctX1_sideOf l g pls q hk a9 _ hc20) (cwV 1 hts gX1_letTenthGoBy_X1_sideOf rfl rfl rfl (by decide +kernel) ⟨Nat.le_of_ble_eq_true rfl, Nat.le_of_ble_eq_true rfl⟩) (rest := [.int (1 : Int32), .int a3.2, .ref (cc_ad g (10 + 20 * k))]) rfl hl.1 rfl (Nat.le_of_ble_eq_true rfl) dX1_letTenthGoBy_60 (fun H locs G => ?_)
        refine lv_isub hx hb dX1_letTenthGoBy_63 ?_
        obtain ⟨r22, hc22, h23⟩ := pp_ob_ex h21
        clear h21
        refine cc_calv (q2 := (cc_pC q k r22)) rfl rfl (co_crt g q hk) X G (x := a9) rfl (ctX1_layOn l g pls q hk a9 _ _ hc22) (cwV 2 hts gX1_letTenthGoBy_X1_layOn rfl rfl rfl (by decide +kernel) ⟨Nat.le_of_ble_eq_true rfl, Nat.le_of_ble_eq_true rfl⟩) (rest := []) rfl hl.1 rfl (Nat.le_of_ble_eq_true rfl) dX1_letTenthGoBy_64 (fun H locs G => ?_)
        exact hj12 _ H locs ls h23 G hl
    refine lv_icmp_eq (tgt := 39) hx hb dX1_letTenthGoBy_26 (by decide) (fun c24 => ?_) (fun c24 => ?_)
    · have h25 := pp_t c24 h10
      clear h10
      exact hj9 _ H locs ls h25 G hl
    · have h26 := pp_f c24 h10
      clear h10
      refine lv_aload_n hx hb dX1_letTenthGoBy_29 rfl (lv_at hl 0 rfl) ?_
      refine cc_get (co_crt g q hk) X G (x := a3.1) rfl hin1 6 (by decide) hf34 (v := .ref (cc_ad g (10 + 20 * k + 8))) rfl dX1_letTenthGoBy_30 ?_
      refine lv_iload_n hx hb dX1_letTenthGoBy_33 rfl (lv_at hl 1 rfl) ?_
      refine lv_dup2_11 hx hb dX1_letTenthGoBy_34 rfl rfl ?_
      refine cc_iald (ca_6 g q hk) X G (x := a3.1) hi7 dX1_letTenthGoBy_35 ?_
      refine lv_iconst (v := 1) hx hb dX1_letTenthGoBy_36 (by decide) ?_
      refine lv_iadd hx hb dX1_letTenthGoBy_37 ?_
      obtain ⟨x27, ex27, h28⟩ := pp_lj_ex h26
      clear h26
      refine cc_iast (ca_6 g q hk) X G (x := a3.1) hi7 ex27 dX1_letTenthGoBy_38 (fun H locs G => ?_)
      exact hj9 _ H locs ls h28 G hl
noncomputable def S_letFirstIn (y : rr_S) : Option rr_S := (if (1 : Int32) ≤ (y.1 2) then pp_ix (0 : Int32) 8 (pp_ob (S_letIn y (y.2.1 1 (Int32.toNatClampNeg (0 : Int32)))) (fun r5 => pp_it (fun (self7 : rr_S × Int32 → Option rr_S) (a7 : rr_S × Int32) => (if (a7.1.1 2) ≤ a7.2 then pp_lj (rr_I a7.1 2 ((a7.1.1 2) - (1 : Int32)) : rr_S) (fun x10 => some x10) else pp_ix a7.2 8 (pp_ix (a7.2 - (1 : Int32)) 8 (pp_lj (rr_A a7.1 1 (Int32.toNatClampNeg (a7.2 - (1 : Int32))) (a7.1.2.1 1 (Int32.toNatClampNeg a7.2)) : rr_S) (fun x17 => pp_lj (a7.2 + 1 : Int32) (fun x19 => self7 (x17, x19))))))) 200 (r5, (1 : Int32)))) else some y)
abbrev rmX6_letFirstIn : Room := { frames := 1, cells := 0, slots := 0, locals := 21 }
set_option maxHeartbeats 4000000 in
set_option maxRecDepth 100000 in
theorem ctX6_letFirstIn (l : Launch) (g : cc_G) (pls : va_W) (q : cc_S) {k sd : Nat} (hk : k < 3) (hs : sd < 2) (x : cc_CT) (y : rr_S) {res : rr_S} (h : S_letFirstIn y = some res) : cc_Mv l yX6_letFirstIn wsX6_letFirstIn rmX6_letFirstIn g pls [.ref (cc_ad g (cs_id k sd))] (cc_pS q k x sd y) (cc_pS q k x sd res) := by
  intro sz A hA
  unfold S_letFirstIn at h
  refine cc_ofW hA (own := RX6) (by decide) rfl rfl (Nat.le_of_ble_eq_true rfl) ?_
  intro p e s m args below meth c ls X hr hlk G hl Q hQ
  have hx := X.1.1
  have hb := X.1.2.1
  have hown := X.1.2.2.2.1
  have hts := X.1.2.2.2.2
  refine (fun (key : ∀ (H : Heap) (locs : List Loc), cc_H g A pls (cc_pS q k x sd y) s H locs → W p l e (headSpec wsX6_letFirstIn rmX6_letFirstIn).room s m args below meth c H locs 0 0 Q (F0 m 0 ls [])) => key _ _ G) ?_
  clear G
  intro H locs G
  have hl : lv_has ls 2 [(0, .ref (cc_ad g (cs_id k sd)))] := hl
  have hf9 : Cond.fieldLink RX6 9 (TX6 1).1 (TX6 1).2.1 (TX6 1).2.2.1 ∈ wsX6_letFirstIn := by decide +kernel
  have hf19 : Cond.fieldLink RX6 19 (TX6 2).1 (TX6 2).2.1 (TX6 2).2.2.1 ∈ wsX6_letFirstIn := by decide +kernel
  have hin6 : ∀ y ∈ wsX60, y ∈ wsX6_letFirstIn := (fun _ z => List.mem_cons_of_mem _ (List.mem_append_right _ z))
  refine lv_aload_n hx hb dX6_letFirstIn_0 rfl (lv_at hl 0 rfl) ?_
  refine cc_get (so_side g q x hk hs) X G (x := y) rfl hin6 2 (by decide) hf19 (v := .int (y.1 2)) rfl dX6_letFirstIn_1 ?_
  refine lv_iconst (v := 1) hx hb dX6_letFirstIn_4 (by decide) ?_
  refine lv_icmp_ge (tgt := 9) hx hb dX6_letFirstIn_5 (by decide) (fun c1 => ?_) (fun c1 => ?_)
  · have h2 := pp_t c1 h
    clear h
    refine lv_aload_n hx hb dX6_letFirstIn_9 rfl (lv_at hl 0 rfl) ?_
    refine lv_aload_n hx hb dX6_letFirstIn_10 rfl (lv_at hl 0 rfl) ?_
    refine cc_get (so_side g q x hk hs) X G (x := y) rfl hin6 1 (by decide) hf9 (v := .ref (cc_ad g (cs_id k sd + 1))) rfl dX6_letFirstIn_11 ?_
    refine lv_iconst (v := 0) hx hb dX6_letFirstIn_14 (by decide) ?_
    obtain ⟨hi3, h4⟩ := pp_ix_ex h2
    clear h2
    refine cc_iald (sa_1 g q x hk hs) X G (x := y) hi3 dX6_letFirstIn_15 ?_
    obtain ⟨r5, hc5, h6⟩ := pp_ob_ex h4
    clear h4
    refine cc_calv (q2 := (cc_pS q k x sd r5)) rfl rfl (so_side g q x hk hs) X G (x := y) rfl (ctX6_letIn l g pls q hk hs x y _ hc5) (cwV 1 hts gX6_letFirstIn_X6_letIn rfl rfl rfl (by decide +kernel) ⟨Nat.le_of_ble_eq_true rfl, Nat.le_of_ble_eq_true rfl⟩) (rest := []) rfl hl.1 rfl (Nat.le_of_ble_eq_true rfl) dX6_letFirstIn_16 (fun H locs G => ?_)
    refine lv_iconst (v := 1) hx hb dX6_letFirstIn_19 (by decide) ?_
    refine lv_istore_n (lv' := [(1, .int (1 : Int32)), (0, .ref (cc_ad g (cs_id k sd)))]) hx hb dX6_letFirstIn_20 rfl hl (by decide) rfl (fun ls hl => ?_)
    refine pp_loop (I := fun (a7 : rr_S × Int32) => ∀ (H : Heap) (locs : List Loc) (ls : Array Slot), cc_H g A pls (cc_pS q k x sd a7.1) s H locs → lv_has ls 2 [(0, .ref (cc_ad g (cs_id k sd))), (1, .int a7.2)] → W p l e (headSpec wsX6_letFirstIn rmX6_letFirstIn).room s m args below meth c H locs 0 0 Q (F0 m 21 ls [])) ?_ 200 _ h6 H locs ls G (lv_sub hl [1, 0] rfl)
    clear h6
    intro self7 ih7 a7 h7 H locs ls G hl
    refine lv_iload_n hx hb dX6_letFirstIn_21 rfl (lv_at hl 1 rfl) ?_
    refine lv_aload_n hx hb dX6_letFirstIn_22 rfl (lv_at hl 0 rfl) ?_
    refine cc_get (so_side g q x hk hs) X G (x := a7.1) rfl hin6 2 (by decide) hf19 (v := .int (a7.1.1 2)) rfl dX6_letFirstIn_23 ?_
    refine lv_icmp_ge (tgt := 49) hx hb dX6_letFirstIn_26 (by decide) (fun c8 => ?_) (fun c8 => ?_)
    · have h9 := pp_t c8 h7
      clear h7
      refine lv_aload_n hx hb dX6_letFirstIn_49 rfl (lv_at hl 0 rfl) ?_
      refine lv_dup hx hb dX6_letFirstIn_50 rfl ?_
      refine cc_get (so_side g q x hk hs) X G (x := a7.1) rfl hin6 2 (by decide) hf19 (v := .int (a7.1.1 2)) rfl dX6_letFirstIn_51 ?_
      refine lv_iconst (v := 1) hx hb dX6_letFirstIn_54 (by decide) ?_
      refine lv_isub hx hb dX6_letFirstIn_55 ?_
      obtain ⟨x10, ex10, h11⟩ := pp_lj_ex h9
      clear h9
      refine cc_put (si_2 g q x hk hs) X G (x := a7.1) rfl hin6 tyX6 tyX6_ok nmX6 (by decide) hf19 rfl (ty := .int) (by decide +kernel) rfl rfl ex10 dX6_letFirstIn_56 (fun H locs G => ?_)
      exact cc_vret X hr hlk G (congrArg (fun (z : rr_S) => (cc_pS q k x sd z)) (Option.some.inj h11)) hQ dX6_letFirstIn_59
    · have h12 := pp_f c8 h7
      clear h7
      refine lv_aload_n hx hb dX6_letFirstIn_29 rfl (lv_at hl 0 rfl) ?_
      refine cc_get (so_side g q x hk hs) X G (x := a7.1) rfl hin6 1 (by decide) hf9 (v := .ref (cc_ad g (cs_id k sd + 1))) rfl dX6_letFirstIn_30 ?_
      refine lv_iload_n hx hb dX6_letFirstIn_33 rfl (lv_at hl 1 rfl) ?_
      refine lv_iconst (v := 1) hx hb dX6_letFirstIn_34 (by decide) ?_
      refine lv_isub hx hb dX6_letFirstIn_35 ?_
      refine lv_aload_n hx hb dX6_letFirstIn_36 rfl (lv_at hl 0 rfl) ?_
      refine cc_get (so_side g q x hk hs) X G (x := a7.1) rfl hin6 1 (by decide) hf9 (v := .ref (cc_ad g (cs_id k sd + 1))) rfl dX6_letFirstIn_37 ?_
      refine lv_iload_n hx hb dX6_letFirstIn_40 rfl (lv_at hl 1 rfl) ?_
      obtain ⟨hi13, h14⟩ := pp_ix_ex h12
      clear h12
      refine cc_iald (sa_1 g q x hk hs) X G (x := a7.1) hi13 dX6_letFirstIn_41 ?_
      obtain ⟨hi15, h16⟩ := pp_ix_ex h14
      clear h14
      obtain ⟨x17, ex17, h18⟩ := pp_lj_ex h16
      clear h16
      refine cc_iast (sa_1 g q x hk hs) X G (x := a7.1) hi15 ex17 dX6_letFirstIn_42 (fun H locs G => ?_)
      obtain ⟨x19, ex19, h20⟩ := pp_lj_ex h18
      clear h18
      refine lv_iinc (v := x19) (lv' := [(1, .int x19), (0, .ref (cc_ad g (cs_id k sd)))]) hx hb dX6_letFirstIn_43 hl (k := 1) rfl (by rw [ex19]; rfl) (by decide) rfl (fun ls hl => ?_)
      refine lv_goto (tgt := 21) hx hb dX6_letFirstIn_46 (by decide) ?_
      exact ih7 _ h20 H locs ls G (lv_sub hl [1, 0] rfl)
  · have h21 := pp_f c1 h
    clear h
    exact cc_vret X hr hlk G (congrArg (fun (z : rr_S) => (cc_pS q k x sd z)) (Option.some.inj h21)) hQ dX6_letFirstIn_8
noncomputable def K_endThrow (x : cc_CT) (v1 : Int32) (v2 : Int32) (v3 : Int32) : Option cc_CT := pp_ob (K_holderOf x v1) (fun r1 => pp_ob (K_sideOf x v2) (fun r3 => pp_ob (K_layOn x v1 r3) (fun r5 => pp_lj (fun (a7 : cc_CT) => (pp_lj (fun (a10 : cc_CT) => (pp_ob (K_letTenthGoBy a10) (fun r13 => some r13) : Option cc_CT)) (fun j10 => (if v3 = (1 : Int32) then pp_ob (K_goOut a7 r1) (fun r18 => pp_ob (K_sideOf r18.2 v2) (fun r20 => pp_ob (K_sideAt r18.2 r20) (fun r22 => pp_l2 r22 (pp_ob (S_letFirstIn (cc_gS r18.2 r22)) (fun r25 => pp_lj (cc_kS r18.2 r22 r25 : cc_CT) (fun x27 => pp_ob (K_hasHandFree x27 v2) (fun r29 => (if r29 = (0 : Int32) then j10 x27 else pp_ob (K_hold x27 v1 v2) (fun r34 => j10 r34))))))))) else j10 a7)) : Option cc_CT)) (fun j7 => (if v3 = (0 : Int32) then pp_ob (K_goOut r5 v2) (fun r39 => j7 r39.2) else j7 r5)))))
abbrev rmX1_endThrow : Room := { frames := 3, cells := 0, slots := 0, locals := 65 }
set_option maxHeartbeats 4000000 in
set_option maxRecDepth 100000 in
theorem ctX1_endThrow (l : Launch) (g : cc_G) (pls : va_W) (q : cc_S) {k : Nat} (hk : k < 3) (x : cc_CT) (v1 : Int32) (v2 : Int32) (v3 : Int32) {res : cc_CT} (h : K_endThrow x v1 v2 v3 = some res) : cc_Mv l yX1_endThrow wsX1_endThrow rmX1_endThrow g pls [.ref (cc_ad g (10 + 20 * k)), .int v1, .int v2, .int v3] (cc_pC q k x) (cc_pC q k res) := by
  intro sz A hA
  unfold K_endThrow at h
  refine cc_ofW hA (own := RX1) (by decide) rfl rfl (Nat.le_of_ble_eq_true rfl) ?_
  intro p e s m args below meth c ls X hr hlk G hl Q hQ
  have hx := X.1.1
  have hb := X.1.2.1
  have hown := X.1.2.2.2.1
  have hts := X.1.2.2.2.2
  refine (fun (key : ∀ (H : Heap) (locs : List Loc), cc_H g A pls (cc_pC q k x) s H locs → W p l e (headSpec wsX1_endThrow rmX1_endThrow).room s m args below meth c H locs 0 0 Q (F0 m 0 ls [])) => key _ _ G) ?_
  clear G
  intro H locs G
  have hl : lv_has ls 5 [(0, .ref (cc_ad g (10 + 20 * k))), (1, .int v1), (2, .int v2), (3, .int v3)] := hl
  refine lv_aload_n hx hb dX1_endThrow_0 rfl (lv_at hl 0 rfl) ?_
  refine lv_iload_n hx hb dX1_endThrow_1 rfl (lv_at hl 1 rfl) ?_
  obtain ⟨r1, hc1, h2⟩ := pp_ob_ex h
  clear h
  refine cc_cali (q2 := (cc_pC q k x)) rfl rfl (co_crt g q hk) X G (x := x) rfl (ctX1_holderOf l g pls q hk x _ hc1) (cwV 1 hts gX1_endThrow_X1_holderOf rfl rfl rfl (by decide +kernel) ⟨Nat.le_of_ble_eq_true rfl, Nat.le_of_ble_eq_true rfl⟩) (rest := []) rfl hl.1 rfl (Nat.le_of_ble_eq_true rfl) dX1_endThrow_2 (fun H locs G => ?_)
  refine lv_istore (lv' := [(4, .int r1), (0, .ref (cc_ad g (10 + 20 * k))), (1, .int v1), (2, .int v2), (3, .int v3)]) hx hb dX1_endThrow_5 hl (by decide) rfl (fun ls hl => ?_)
  refine lv_aload_n hx hb dX1_endThrow_7 rfl (lv_at hl 1 rfl) ?_
  refine lv_iload_n hx hb dX1_endThrow_8 rfl (lv_at hl 2 rfl) ?_
  refine lv_aload_n hx hb dX1_endThrow_9 rfl (lv_at hl 1 rfl) ?_
  refine lv_iload_n hx hb dX1_endThrow_10 rfl (lv_at hl 3 rfl) ?_
  obtain ⟨r3, hc3, h4⟩ := pp_ob_ex h2
  clear h2
  refine cc_cali (q2 := (cc_pC q k x)) rfl rfl (co_crt g q hk) X G (x := x) rfl (ctX1_sideOf l g pls q hk x _ hc3) (cwV 1 hts gX1_endThrow_X1_sideOf rfl rfl rfl (by decide +kernel) ⟨Nat.le_of_ble_eq_true rfl, Nat.le_of_ble_eq_true rfl⟩) (rest := [.int v1, .ref (cc_ad g (10 + 20 * k))]) rfl hl.1 rfl (Nat.le_of_ble_eq_true rfl) dX1_endThrow_11 (fun H locs G => ?_)
  obtain ⟨r5, hc5, h6⟩ := pp_ob_ex h4
  clear h4
  refine cc_calv (q2 := (cc_pC q k r5)) rfl rfl (co_crt g q hk) X G (x := x) rfl (ctX1_layOn l g pls q hk x _ _ hc5) (cwV 2 hts gX1_endThrow_X1_layOn rfl rfl rfl (by decide +kernel) ⟨Nat.le_of_ble_eq_true rfl, Nat.le_of_ble_eq_true rfl⟩) (rest := []) rfl hl.1 rfl (Nat.le_of_ble_eq_true rfl) dX1_endThrow_14 (fun H locs G => ?_)
  refine lv_iload_n hx hb dX1_endThrow_17 rfl (lv_at hl 4 rfl) ?_
  obtain ⟨j7, ej7, h8⟩ := pp_lj_ex h6
  clear h6
  have hj7 : ∀ (a7 : cc_CT) (H : Heap) (locs : List Loc) (ls : Array Slot), j7 a7 = some res → cc_H g A pls (cc_pC q k a7) s H locs → lv_has ls 5 [(0, .ref (cc_ad g (10 + 20 * k))), (1, .int v1), (2, .int v2), (3, .int v3), (4, .int r1)] → W p l e (headSpec wsX1_endThrow rmX1_endThrow).room s m args below meth c H locs 0 0 Q (F0 m 27 ls []) := by
    intro a7 H locs ls h G hl
    have h9 := pp_jmp ej7 h
    clear h h8
    refine lv_iload_n hx hb dX1_endThrow_27 rfl (lv_at hl 3 rfl) ?_
    refine lv_iconst (v := 1) hx hb dX1_endThrow_28 (by decide) ?_
    obtain ⟨j10, ej10, h11⟩ := pp_lj_ex h9
    clear h9
    have hj10 : ∀ (a10 : cc_CT) (H : Heap) (locs : List Loc) (ls : Array Slot), j10 a10 = some res → cc_H g A pls (cc_pC q k a10) s H locs → lv_has ls 5 [(0, .ref (cc_ad g (10 + 20 * k)))] → W p l e (headSpec wsX1_endThrow rmX1_endThrow).room s m args below meth c H locs 0 0 Q (F0 m 65 ls []) := by
      intro a10 H locs ls h G hl
      have h12 := pp_jmp ej10 h
      clear h h11
      refine lv_aload_n hx hb dX1_endThrow_65 rfl (lv_at hl 0 rfl) ?_
      obtain ⟨r13, hc13, h14⟩ := pp_ob_ex h12
      clear h12
      refine cc_calv (q2 := (cc_pC q k r13)) rfl rfl (co_crt g q hk) X G (x := a10) rfl (ctX1_letTenthGoBy l g pls q hk a10 hc13) (cwV 0 hts gX1_endThrow_X1_letTenthGoBy rfl rfl rfl (by decide +kernel) ⟨Nat.le_of_ble_eq_true rfl, Nat.le_of_ble_eq_true rfl⟩) (rest := []) rfl hl.1 rfl (Nat.le_of_ble_eq_true rfl) dX1_endThrow_66 (fun H locs G => ?_)
      exact cc_vret X hr hlk G (congrArg (fun (z : cc_CT) => (cc_pC q k z)) (Option.some.inj h14)) hQ dX1_endThrow_69
    refine lv_icmp_ne (tgt := 65) hx hb dX1_endThrow_29 (by decide) (fun c15 => ?_) (fun c15 => ?_)
    · have h16 := pp_f c15 h11
      clear h11
      exact hj10 _ H locs ls h16 G (lv_sub hl [0] rfl)
    · have h17 := pp_t c15 h11
      clear h11
      refine lv_aload_n hx hb dX1_endThrow_32 rfl (lv_at hl 0 rfl) ?_
      refine lv_iload hx hb dX1_endThrow_33 (lv_at hl 4 rfl) ?_
      obtain ⟨r18, hc18, h19⟩ := pp_ob_ex h17
      clear h17
      refine cc_cali (q2 := (cc_pC q k r18.2)) rfl rfl (co_crt g q hk) X G (x := a7) rfl (ctX1_goOut l g pls q hk a7 _ hc18) (cwV 1 hts gX1_endThrow_X1_goOut rfl rfl rfl (by decide +kernel) ⟨Nat.le_of_ble_eq_true rfl, Nat.le_of_ble_eq_true rfl⟩) (rest := []) rfl hl.1 rfl (Nat.le_of_ble_eq_true rfl) dX1_endThrow_35 (fun H locs G => ?_)
      refine lv_pop hx hb dX1_endThrow_38 rfl ?_
      refine lv_aload_n hx hb dX1_endThrow_39 rfl (lv_at hl 0 rfl) ?_
      refine lv_aload_n hx hb dX1_endThrow_40 rfl (lv_at hl 0 rfl) ?_
      refine lv_iload_n hx hb dX1_endThrow_41 rfl (lv_at hl 2 rfl) ?_
      obtain ⟨r20, hc20, h21⟩ := pp_ob_ex h19
      clear h19
      refine cc_cali (q2 := (cc_pC q k r18.2)) rfl rfl (co_crt g q hk) X G (x := r18.2) rfl (ctX1_sideOf l g pls q hk r18.2 _ hc20) (cwV 1 hts gX1_endThrow_X1_sideOf rfl rfl rfl (by decide +kernel) ⟨Nat.le_of_ble_eq_true rfl, Nat.le_of_ble_eq_true rfl⟩) (rest := [.ref (cc_ad g (10 + 20 * k))]) rfl hl.1 rfl (Nat.le_of_ble_eq_true rfl) dX1_endThrow_42 (fun H locs G => ?_)
      obtain ⟨r22, hc22, h23⟩ := pp_ob_ex h21
      clear h21
      refine cc_calo (q2 := (cc_pC q k r18.2)) rfl rfl (co_crt g q hk) X G (x := r18.2) rfl (ctX1_sideAt l g pls q hk r18.2 _ hc22) (cwV 1 hts gX1_endThrow_X1_sideAt rfl rfl rfl (by decide +kernel) ⟨Nat.le_of_ble_eq_true rfl, Nat.le_of_ble_eq_true rfl⟩) (rest := []) rfl hl.1 rfl (Nat.le_of_ble_eq_true rfl) dX1_endThrow_45 (fun H locs G => ?_)
      obtain ⟨hs22, h24⟩ := pp_l2_ex h23
      clear h23
      obtain ⟨r25, hc25, h26⟩ := pp_ob_ex h24
      clear h24
      obtain ⟨x27, ex27, h28⟩ := pp_lj_ex h26
      clear h26
      refine cc_calv (q2 := (cc_pC q k x27)) (cc_pgS q k r18.2 r22) (by rw [ex27]; rfl) (co_side g q hk (sd := r22) hs22) X G (x := r18.2) rfl (ctX6_letFirstIn l g pls q hk (sd := r22) hs22 r18.2 (cc_gS r18.2 r22) hc25) (cwV 0 hts gX1_endThrow_X6_letFirstIn rfl rfl rfl (by decide +kernel) ⟨Nat.le_of_ble_eq_true rfl, Nat.le_of_ble_eq_true rfl⟩) (rest := []) rfl hl.1 rfl (Nat.le_of_ble_eq_true rfl) dX1_endThrow_48 (fun H locs G => ?_)
      refine lv_aload_n hx hb dX1_endThrow_51 rfl (lv_at hl 0 rfl) ?_
      refine lv_iload_n hx hb dX1_endThrow_52 rfl (lv_at hl 2 rfl) ?_
      obtain ⟨r29, hc29, h30⟩ := pp_ob_ex h28
      clear h28
      refine cc_cali (q2 := (cc_pC q k x27)) rfl rfl (co_crt g q hk) X G (x := x27) rfl (ctX1_hasHandFree l g pls q hk x27 _ hc29) (cwV 1 hts gX1_endThrow_X1_hasHandFree rfl rfl rfl (by decide +kernel) ⟨Nat.le_of_ble_eq_true rfl, Nat.le_of_ble_eq_true rfl⟩) (rest := []) rfl hl.1 rfl (Nat.le_of_ble_eq_true rfl) dX1_endThrow_53 (fun H locs G => ?_)
      refine lv_if_eq (tgt := 65) hx hb dX1_endThrow_56 (by decide) (fun c31 => ?_) (fun c31 => ?_)
      · have h32 := pp_t c31 h30
        clear h30
        exact hj10 _ H locs ls h32 G (lv_sub hl [0] rfl)
      · have h33 := pp_f c31 h30
        clear h30
        refine lv_aload_n hx hb dX1_endThrow_59 rfl (lv_at hl 0 rfl) ?_
        refine lv_iload_n hx hb dX1_endThrow_60 rfl (lv_at hl 1 rfl) ?_
        refine lv_iload_n hx hb dX1_endThrow_61 rfl (lv_at hl 2 rfl) ?_
        obtain ⟨r34, hc34, h35⟩ := pp_ob_ex h33
        clear h33
        refine cc_calv (q2 := (cc_pC q k r34)) rfl rfl (co_crt g q hk) X G (x := x27) rfl (ctX1_hold l g pls q hk x27 _ _ hc34) (cwV 2 hts gX1_endThrow_X1_hold rfl rfl rfl (by decide +kernel) ⟨Nat.le_of_ble_eq_true rfl, Nat.le_of_ble_eq_true rfl⟩) (rest := []) rfl hl.1 rfl (Nat.le_of_ble_eq_true rfl) dX1_endThrow_62 (fun H locs G => ?_)
        exact hj10 _ H locs ls h35 G (lv_sub hl [0] rfl)
  refine lv_if_ne (tgt := 27) hx hb dX1_endThrow_18 (by decide) (fun c36 => ?_) (fun c36 => ?_)
  · have h37 := pp_f c36 h8
    clear h8
    exact hj7 _ H locs ls h37 G (lv_sub hl [1, 2, 3, 4, 0] rfl)
  · have h38 := pp_t c36 h8
    clear h8
    refine lv_aload_n hx hb dX1_endThrow_21 rfl (lv_at hl 1 rfl) ?_
    refine lv_iload_n hx hb dX1_endThrow_22 rfl (lv_at hl 3 rfl) ?_
    obtain ⟨r39, hc39, h40⟩ := pp_ob_ex h38
    clear h38
    refine cc_cali (q2 := (cc_pC q k r39.2)) rfl rfl (co_crt g q hk) X G (x := r5) rfl (ctX1_goOut l g pls q hk r5 _ hc39) (cwV 1 hts gX1_endThrow_X1_goOut rfl rfl rfl (by decide +kernel) ⟨Nat.le_of_ble_eq_true rfl, Nat.le_of_ble_eq_true rfl⟩) (rest := []) rfl hl.1 rfl (Nat.le_of_ble_eq_true rfl) dX1_endThrow_23 (fun H locs G => ?_)
    refine lv_pop hx hb dX1_endThrow_26 rfl ?_
    exact hj7 _ H locs ls h40 G (lv_sub hl [1, 2, 3, 4, 0] rfl)
noncomputable def D_addWays (x : rr_S) (v1 : Int32) (v2 : Int32) (v3 : Int64) : Option rr_S := (if v1 < (0 : Int32) then some x else (if (5 : Int32) ≤ v1 then some x else (if v2 < (0 : Int32) then some x else (if (5 : Int32) ≤ v2 then some x else pp_ix (((5 : Int32) * v1) + v2) 25 (pp_lj (rr_L x 0 (Int32.toNatClampNeg (((5 : Int32) * v1) + v2)) ((x.2.2 0 (Int32.toNatClampNeg (((5 : Int32) * v1) + v2))) + v3) : rr_S) (fun x15 => some x15))))))
abbrev rmX2_addWays : Room := { frames := 0, cells := 0, slots := 0, locals := 0 }
set_option maxHeartbeats 4000000 in
set_option maxRecDepth 100000 in
theorem ctX2_addWays (l : Launch) (g : cc_G) (pls : va_W) (q : cc_S) (x : rr_S) (v1 : Int32) (v2 : Int32) (v3 : Int64) {res : rr_S} (h : D_addWays x v1 v2 v3 = some res) : cc_Mv l yX2_addWays wsX2_addWays rmX2_addWays g pls [.ref (cc_ad g 3), .int v1, .int v2, .long v3] (cc_pD q x) (cc_pD q res) := by
  intro sz A hA
  unfold D_addWays at h
  refine cc_ofW hA (own := RX2) (by decide) rfl rfl (Nat.le_of_ble_eq_true rfl) ?_
  intro p e s m args below meth c ls X hr hlk G hl Q hQ
  have hx := X.1.1
  have hb := X.1.2.1
  have hown := X.1.2.2.2.1
  have hts := X.1.2.2.2.2
  refine (fun (key : ∀ (H : Heap) (locs : List Loc), cc_H g A pls (cc_pD q x) s H locs → W p l e (headSpec wsX2_addWays rmX2_addWays).room s m args below meth c H locs 0 0 Q (F0 m 0 ls [])) => key _ _ G) ?_
  clear G
  intro H locs G
  have hl : lv_has ls 5 [(0, .ref (cc_ad g 3)), (1, .int v1), (2, .int v2), (3, .long v3)] := hl
  have hf11 : Cond.fieldLink RX2 11 (TX2 0).1 (TX2 0).2.1 (TX2 0).2.2.1 ∈ wsX2_addWays := by decide +kernel
  have hin2 : ∀ y ∈ wsX20, y ∈ wsX2_addWays := (fun _ z => List.mem_cons_of_mem _ (List.mem_append_right _ z))
  refine lv_iload_n hx hb dX2_addWays_0 rfl (lv_at hl 1 rfl) ?_
  refine lv_if_lt (tgt := 32) hx hb dX2_addWays_1 (by decide) (fun c1 => ?_) (fun c1 => ?_)
  · have h2 := pp_t c1 h
    clear h
    exact cc_vret X hr hlk G (congrArg (fun (z : rr_S) => (cc_pD q z)) (Option.some.inj h2)) hQ dX2_addWays_32
  · have h3 := pp_f c1 h
    clear h
    refine lv_iload_n hx hb dX2_addWays_4 rfl (lv_at hl 1 rfl) ?_
    refine lv_iconst (v := 5) hx hb dX2_addWays_5 (by decide) ?_
    refine lv_icmp_ge (tgt := 32) hx hb dX2_addWays_6 (by decide) (fun c4 => ?_) (fun c4 => ?_)
    · have h5 := pp_t c4 h3
      clear h3
      exact cc_vret X hr hlk G (congrArg (fun (z : rr_S) => (cc_pD q z)) (Option.some.inj h5)) hQ dX2_addWays_32
    · have h6 := pp_f c4 h3
      clear h3
      refine lv_iload_n hx hb dX2_addWays_9 rfl (lv_at hl 2 rfl) ?_
      refine lv_if_lt (tgt := 32) hx hb dX2_addWays_10 (by decide) (fun c7 => ?_) (fun c7 => ?_)
      · have h8 := pp_t c7 h6
        clear h6
        exact cc_vret X hr hlk G (congrArg (fun (z : rr_S) => (cc_pD q z)) (Option.some.inj h8)) hQ dX2_addWays_32
      · have h9 := pp_f c7 h6
        clear h6
        refine lv_iload_n hx hb dX2_addWays_13 rfl (lv_at hl 2 rfl) ?_
        refine lv_iconst (v := 5) hx hb dX2_addWays_14 (by decide) ?_
        refine lv_icmp_ge (tgt := 32) hx hb dX2_addWays_15 (by decide) (fun c10 => ?_) (fun c10 => ?_)
        · have h11 := pp_t c10 h9
          clear h9
          exact cc_vret X hr hlk G (congrArg (fun (z : rr_S) => (cc_pD q z)) (Option.some.inj h11)) hQ dX2_addWays_32
        · have h12 := pp_f c10 h9
          clear h9
          refine lv_aload_n hx hb dX2_addWays_18 rfl (lv_at hl 0 rfl) ?_
          refine cc_get (do_duel g q) X G (x := x) rfl hin2 0 (by decide) hf11 (v := .ref (cc_ad g 4)) rfl dX2_addWays_19 ?_
          refine lv_iconst (v := 5) hx hb dX2_addWays_22 (by decide) ?_
          refine lv_iload_n hx hb dX2_addWays_23 rfl (lv_at hl 1 rfl) ?_
          refine lv_imul hx hb dX2_addWays_24 ?_
          refine lv_iload_n hx hb dX2_addWays_25 rfl (lv_at hl 2 rfl) ?_
          refine lv_iadd hx hb dX2_addWays_26 ?_
          refine lv_dup2_11 hx hb dX2_addWays_27 rfl rfl ?_
          obtain ⟨hi13, h14⟩ := pp_ix_ex h12
          clear h12
          refine cc_lald (dl_0 g q) X G (x := x) hi13 dX2_addWays_28 ?_
          refine lv_lload_n hx hb dX2_addWays_29 rfl (lv_at hl 3 rfl) ?_
          refine lv_ladd hx hb dX2_addWays_30 ?_
          obtain ⟨x15, ex15, h16⟩ := pp_lj_ex h14
          clear h14
          refine cc_last (dl_0 g q) X G (x := x) hi13 ex15 dX2_addWays_31 (fun H locs G => ?_)
          exact cc_vret X hr hlk G (congrArg (fun (z : rr_S) => (cc_pD q z)) (Option.some.inj h16)) hQ dX2_addWays_32
noncomputable def D_clearWays (x : rr_S) : Option rr_S := pp_it (fun (self1 : rr_S × Int32 → Option rr_S) (a1 : rr_S × Int32) => (if (Int32.ofNat 25) ≤ a1.2 then some a1.1 else pp_ix a1.2 25 (pp_lj (rr_L a1.1 0 (Int32.toNatClampNeg a1.2) (0 : Int64) : rr_S) (fun x7 => pp_lj (a1.2 + 1 : Int32) (fun x9 => self1 (x7, x9)))))) 200 (x, (0 : Int32))
abbrev rmX2_clearWays : Room := { frames := 0, cells := 0, slots := 0, locals := 0 }
set_option maxHeartbeats 4000000 in
set_option maxRecDepth 100000 in
theorem ctX2_clearWays (l : Launch) (g : cc_G) (pls : va_W) (q : cc_S) (x : rr_S) {res : rr_S} (h : D_clearWays x = some res) : cc_Mv l yX2_clearWays wsX2_clearWays rmX2_clearWays g pls [.ref (cc_ad g 3)] (cc_pD q x) (cc_pD q res) := by
  intro sz A hA
  unfold D_clearWays at h
  refine cc_ofW hA (own := RX2) (by decide) rfl rfl (Nat.le_of_ble_eq_true rfl) ?_
  intro p e s m args below meth c ls X hr hlk G hl Q hQ
  have hx := X.1.1
  have hb := X.1.2.1
  have hown := X.1.2.2.2.1
  have hts := X.1.2.2.2.2
  refine (fun (key : ∀ (H : Heap) (locs : List Loc), cc_H g A pls (cc_pD q x) s H locs → W p l e (headSpec wsX2_clearWays rmX2_clearWays).room s m args below meth c H locs 0 0 Q (F0 m 0 ls [])) => key _ _ G) ?_
  clear G
  intro H locs G
  have hl : lv_has ls 2 [(0, .ref (cc_ad g 3))] := hl
  have hf11 : Cond.fieldLink RX2 11 (TX2 0).1 (TX2 0).2.1 (TX2 0).2.2.1 ∈ wsX2_clearWays := by decide +kernel
  have hin2 : ∀ y ∈ wsX20, y ∈ wsX2_clearWays := (fun _ z => List.mem_cons_of_mem _ (List.mem_append_right _ z))
  refine lv_iconst (v := 0) hx hb dX2_clearWays_0 (by decide) ?_
  refine lv_istore_n (lv' := [(1, .int (0 : Int32)), (0, .ref (cc_ad g 3))]) hx hb dX2_clearWays_1 rfl hl (by decide) rfl (fun ls hl => ?_)
  refine pp_loop (I := fun (a1 : rr_S × Int32) => ∀ (H : Heap) (locs : List Loc) (ls : Array Slot), cc_H g A pls (cc_pD q a1.1) s H locs → lv_has ls 2 [(0, .ref (cc_ad g 3)), (1, .int a1.2)] → W p l e (headSpec wsX2_clearWays rmX2_clearWays).room s m args below meth c H locs 0 0 Q (F0 m 2 ls [])) ?_ 200 _ h H locs ls G (lv_sub hl [1, 0] rfl)
  clear h
  intro self1 ih1 a1 h1 H locs ls G hl
  refine lv_iload_n hx hb dX2_clearWays_2 rfl (lv_at hl 1 rfl) ?_
  refine lv_aload_n hx hb dX2_clearWays_3 rfl (lv_at hl 0 rfl) ?_
  refine cc_get (do_duel g q) X G (x := a1.1) rfl hin2 0 (by decide) hf11 (v := .ref (cc_ad g 4)) rfl dX2_clearWays_4 ?_
  refine cc_lalen (dl_0 g q) X G (x := a1.1) rfl dX2_clearWays_7 ?_
  refine lv_icmp_ge (tgt := 24) hx hb dX2_clearWays_8 (by decide) (fun c2 => ?_) (fun c2 => ?_)
  · have h3 := pp_t c2 h1
    clear h1
    exact cc_vret X hr hlk G (congrArg (fun (z : rr_S) => (cc_pD q z)) (Option.some.inj h3)) hQ dX2_clearWays_24
  · have h4 := pp_f c2 h1
    clear h1
    refine lv_aload_n hx hb dX2_clearWays_11 rfl (lv_at hl 0 rfl) ?_
    refine cc_get (do_duel g q) X G (x := a1.1) rfl hin2 0 (by decide) hf11 (v := .ref (cc_ad g 4)) rfl dX2_clearWays_12 ?_
    refine lv_iload_n hx hb dX2_clearWays_15 rfl (lv_at hl 1 rfl) ?_
    refine lv_lconst (v := 0) hx hb dX2_clearWays_16 (by decide) ?_
    obtain ⟨hi5, h6⟩ := pp_ix_ex h4
    clear h4
    obtain ⟨x7, ex7, h8⟩ := pp_lj_ex h6
    clear h6
    refine cc_last (dl_0 g q) X G (x := a1.1) hi5 ex7 dX2_clearWays_17 (fun H locs G => ?_)
    obtain ⟨x9, ex9, h10⟩ := pp_lj_ex h8
    clear h8
    refine lv_iinc (v := x9) (lv' := [(1, .int x9), (0, .ref (cc_ad g 3))]) hx hb dX2_clearWays_18 hl (k := 1) rfl (by rw [ex9]; rfl) (by decide) rfl (fun ls hl => ?_)
    refine lv_goto (tgt := 2) hx hb dX2_clearWays_21 (by decide) ?_
    exact ih1 _ h10 H locs ls G (lv_sub hl [1, 0] rfl)
noncomputable def D_begin (x : rr_S) (v1 : Int32) (v2 : Int32) (v3 : Int32) (v4 : Int32) : Option rr_S := pp_ob (D_clearWays x) (fun r1 => pp_lj (rr_I r1 2 v3 : rr_S) (fun x3 => pp_lj (rr_I x3 3 v4 : rr_S) (fun x5 => pp_lj (rr_I x5 4 (0 : Int32) : rr_S) (fun x7 => pp_lj (rr_L x7 5 0 (1 : Int64) : rr_S) (fun x9 => pp_ob (D_addWays x9 v1 v2 (1 : Int64)) (fun r11 => some r11))))))
abbrev rmX2_begin : Room := { frames := 1, cells := 0, slots := 0, locals := 24 }
set_option maxHeartbeats 4000000 in
set_option maxRecDepth 100000 in
theorem ctX2_begin (l : Launch) (g : cc_G) (pls : va_W) (q : cc_S) (x : rr_S) (v1 : Int32) (v2 : Int32) (v3 : Int32) (v4 : Int32) {res : rr_S} (h : D_begin x v1 v2 v3 v4 = some res) : cc_Mv l yX2_begin wsX2_begin rmX2_begin g pls [.ref (cc_ad g 3), .int v1, .int v2, .int v3, .int v4] (cc_pD q x) (cc_pD q res) := by
  intro sz A hA
  unfold D_begin at h
  refine cc_ofW hA (own := RX2) (by decide) rfl rfl (Nat.le_of_ble_eq_true rfl) ?_
  intro p e s m args below meth c ls X hr hlk G hl Q hQ
  have hx := X.1.1
  have hb := X.1.2.1
  have hown := X.1.2.2.2.1
  have hts := X.1.2.2.2.2
  refine (fun (key : ∀ (H : Heap) (locs : List Loc), cc_H g A pls (cc_pD q x) s H locs → W p l e (headSpec wsX2_begin rmX2_begin).room s m args below meth c H locs 0 0 Q (F0 m 0 ls [])) => key _ _ G) ?_
  clear G
  intro H locs G
  have hl : lv_has ls 5 [(0, .ref (cc_ad g 3)), (1, .int v1), (2, .int v2), (3, .int v3), (4, .int v4)] := hl
  have hf21 : Cond.fieldLink RX2 21 (TX2 2).1 (TX2 2).2.1 (TX2 2).2.2.1 ∈ wsX2_begin := by decide +kernel
  have hf25 : Cond.fieldLink RX2 25 (TX2 3).1 (TX2 3).2.1 (TX2 3).2.2.1 ∈ wsX2_begin := by decide +kernel
  have hf28 : Cond.fieldLink RX2 28 (TX2 4).1 (TX2 4).2.1 (TX2 4).2.2.1 ∈ wsX2_begin := by decide +kernel
  have hf31 : Cond.fieldLink RX2 31 (TX2 5).1 (TX2 5).2.1 (TX2 5).2.2.1 ∈ wsX2_begin := by decide +kernel
  have hin2 : ∀ y ∈ wsX20, y ∈ wsX2_begin := (fun _ z => List.mem_cons_of_mem _ (List.mem_append_right _ z))
  refine lv_aload_n hx hb dX2_begin_0 rfl (lv_at hl 0 rfl) ?_
  obtain ⟨r1, hc1, h2⟩ := pp_ob_ex h
  clear h
  refine cc_calv (q2 := (cc_pD q r1)) rfl rfl (do_duel g q) X G (x := x) rfl (ctX2_clearWays l g pls q x hc1) (cwV 0 hts gX2_begin_X2_clearWays rfl rfl rfl (by decide +kernel) ⟨Nat.le_of_ble_eq_true rfl, Nat.le_of_ble_eq_true rfl⟩) (rest := []) rfl hl.1 rfl (Nat.le_of_ble_eq_true rfl) dX2_begin_1 (fun H locs G => ?_)
  refine lv_aload_n hx hb dX2_begin_4 rfl (lv_at hl 0 rfl) ?_
  refine lv_iload_n hx hb dX2_begin_5 rfl (lv_at hl 3 rfl) ?_
  obtain ⟨x3, ex3, h4⟩ := pp_lj_ex h2
  clear h2
  refine cc_put (di_2 g q) X G (x := r1) rfl hin2 tyX2 tyX2_ok nmX2 (by decide) hf21 rfl (ty := .int) (by decide +kernel) rfl rfl ex3 dX2_begin_6 (fun H locs G => ?_)
  refine lv_aload_n hx hb dX2_begin_9 rfl (lv_at hl 0 rfl) ?_
  refine lv_iload hx hb dX2_begin_10 (lv_at hl 4 rfl) ?_
  obtain ⟨x5, ex5, h6⟩ := pp_lj_ex h4
  clear h4
  refine cc_put (di_3 g q) X G (x := x3) rfl hin2 tyX2 tyX2_ok nmX2 (by decide) hf25 rfl (ty := .int) (by decide +kernel) rfl rfl ex5 dX2_begin_12 (fun H locs G => ?_)
  refine lv_aload_n hx hb dX2_begin_15 rfl (lv_at hl 0 rfl) ?_
  refine lv_iconst (v := 0) hx hb dX2_begin_16 (by decide) ?_
  obtain ⟨x7, ex7, h8⟩ := pp_lj_ex h6
  clear h6
  refine cc_put (di_4 g q) X G (x := x5) rfl hin2 tyX2 tyX2_ok nmX2 (by decide) hf28 rfl (ty := .int) (by decide +kernel) rfl rfl ex7 dX2_begin_17 (fun H locs G => ?_)
  refine lv_aload_n hx hb dX2_begin_20 rfl (lv_at hl 0 rfl) ?_
  refine lv_lconst (v := 1) hx hb dX2_begin_21 (by decide) ?_
  obtain ⟨x9, ex9, h10⟩ := pp_lj_ex h8
  clear h8
  refine cc_putl (dk_5 g q) X G (x := x7) rfl hin2 tyX2 tyX2_ok nmX2 (by decide) (Nat.le_of_ble_eq_true rfl) hf31 rfl (by decide +kernel) ex9 dX2_begin_22 (fun H locs G => ?_)
  refine lv_aload_n hx hb dX2_begin_25 rfl (lv_at hl 0 rfl) ?_
  refine lv_iload_n hx hb dX2_begin_26 rfl (lv_at hl 1 rfl) ?_
  refine lv_iload_n hx hb dX2_begin_27 rfl (lv_at hl 2 rfl) ?_
  refine lv_lconst (v := 1) hx hb dX2_begin_28 (by decide) ?_
  obtain ⟨r11, hc11, h12⟩ := pp_ob_ex h10
  clear h10
  refine cc_calv (q2 := (cc_pD q r11)) rfl rfl (do_duel g q) X G (x := x9) rfl (ctX2_addWays l g pls q x9 _ _ _ hc11) (cwV 3 hts gX2_begin_X2_addWays rfl rfl rfl (by decide +kernel) ⟨Nat.le_of_ble_eq_true rfl, Nat.le_of_ble_eq_true rfl⟩) (rest := []) rfl hl.1 rfl (Nat.le_of_ble_eq_true rfl) dX2_begin_29 (fun H locs G => ?_)
  exact cc_vret X hr hlk G (congrArg (fun (z : rr_S) => (cc_pD q z)) (Option.some.inj h12)) hQ dX2_begin_32
noncomputable def D_throwFrom (x : rr_S) (v1 : Int32) (v2 : Int32) (v3 : Int64) : Option rr_S := pp_lj (fun (a1 : Unit) => (pp_ob (D_addWays x v1 v2 (v3 * (40 : Int64))) (fun r4 => some r4) : Option rr_S)) (fun j1 => (if v1 = (0 : Int32) then j1 () else (if v2 = (0 : Int32) then j1 () else pp_ob (D_addWays x v1 v2 (v3 * (Int32.toInt64 (((40 : Int32) - (x.1 2)) - (x.1 3))))) (fun r11 => pp_lj (fun (a13 : Int32) => (pp_ob (D_addWays r11 (v1 - (1 : Int32)) v2 (v3 * (Int32.toInt64 a13))) (fun r16 => pp_lj (fun (a18 : Int32) => (pp_ob (D_addWays r16 v1 (v2 - (1 : Int32)) (v3 * (Int32.toInt64 a18))) (fun r21 => some r21) : Option rr_S)) (fun j18 => (if (r16.1 4) = (0 : Int32) then j18 (r16.1 2) else j18 (r16.1 3)))) : Option rr_S)) (fun j13 => (if (r11.1 4) = (0 : Int32) then j13 (r11.1 3) else j13 (r11.1 2)))))))
abbrev rmX2_throwFrom : Room := { frames := 1, cells := 0, slots := 0, locals := 24 }
set_option maxHeartbeats 4000000 in
set_option maxRecDepth 100000 in
theorem ctX2_throwFrom (l : Launch) (g : cc_G) (pls : va_W) (q : cc_S) (x : rr_S) (v1 : Int32) (v2 : Int32) (v3 : Int64) {res : rr_S} (h : D_throwFrom x v1 v2 v3 = some res) : cc_Mv l yX2_throwFrom wsX2_throwFrom rmX2_throwFrom g pls [.ref (cc_ad g 3), .int v1, .int v2, .long v3] (cc_pD q x) (cc_pD q res) := by
  intro sz A hA
  unfold D_throwFrom at h
  refine cc_ofW hA (own := RX2) (by decide) rfl rfl (Nat.le_of_ble_eq_true rfl) ?_
  intro p e s m args below meth c ls X hr hlk G hl Q hQ
  have hx := X.1.1
  have hb := X.1.2.1
  have hown := X.1.2.2.2.1
  have hts := X.1.2.2.2.2
  refine (fun (key : ∀ (H : Heap) (locs : List Loc), cc_H g A pls (cc_pD q x) s H locs → W p l e (headSpec wsX2_throwFrom rmX2_throwFrom).room s m args below meth c H locs 0 0 Q (F0 m 0 ls [])) => key _ _ G) ?_
  clear G
  intro H locs G
  have hl : lv_has ls 5 [(0, .ref (cc_ad g 3)), (1, .int v1), (2, .int v2), (3, .long v3)] := hl
  have hf21 : Cond.fieldLink RX2 21 (TX2 2).1 (TX2 2).2.1 (TX2 2).2.2.1 ∈ wsX2_throwFrom := by decide +kernel
  have hf25 : Cond.fieldLink RX2 25 (TX2 3).1 (TX2 3).2.1 (TX2 3).2.2.1 ∈ wsX2_throwFrom := by decide +kernel
  have hf28 : Cond.fieldLink RX2 28 (TX2 4).1 (TX2 4).2.1 (TX2 4).2.2.1 ∈ wsX2_throwFrom := by decide +kernel
  have hin2 : ∀ y ∈ wsX20, y ∈ wsX2_throwFrom := (fun _ z => List.mem_cons_of_mem _ (List.mem_append_right _ z))
  refine lv_iload_n hx hb dX2_throwFrom_0 rfl (lv_at hl 1 rfl) ?_
  obtain ⟨j1, ej1, h2⟩ := pp_lj_ex h
  clear h
  have hj1 : ∀ (a1 : Unit) (H : Heap) (locs : List Loc) (ls : Array Slot), j1 a1 = some res → cc_H g A pls (cc_pD q x) s H locs → lv_has ls 5 [(0, .ref (cc_ad g 3)), (1, .int v1), (2, .int v2), (3, .long v3)] → W p l e (headSpec wsX2_throwFrom rmX2_throwFrom).room s m args below meth c H locs 0 0 Q (F0 m 8 ls []) := by
    intro a1 H locs ls h G hl
    have h3 := pp_jmp ej1 h
    clear h h2
    refine lv_aload_n hx hb dX2_throwFrom_8 rfl (lv_at hl 0 rfl) ?_
    refine lv_iload_n hx hb dX2_throwFrom_9 rfl (lv_at hl 1 rfl) ?_
    refine lv_iload_n hx hb dX2_throwFrom_10 rfl (lv_at hl 2 rfl) ?_
    refine lv_lload_n hx hb dX2_throwFrom_11 rfl (lv_at hl 3 rfl) ?_
    refine lv_ldc2 (v := 40) hx hb hown (hts (.constantLong RX2 48 (40)) (by decide +kernel)) dX2_throwFrom_12 ?_
    refine lv_lmul hx hb dX2_throwFrom_15 ?_
    obtain ⟨r4, hc4, h5⟩ := pp_ob_ex h3
    clear h3
    refine cc_calv (q2 := (cc_pD q r4)) rfl rfl (do_duel g q) X G (x := x) rfl (ctX2_addWays l g pls q x _ _ _ hc4) (cwV 3 hts gX2_throwFrom_X2_addWays rfl rfl rfl (by decide +kernel) ⟨Nat.le_of_ble_eq_true rfl, Nat.le_of_ble_eq_true rfl⟩) (rest := []) rfl hl.1 rfl (Nat.le_of_ble_eq_true rfl) dX2_throwFrom_16 (fun H locs G => ?_)
    exact cc_vret X hr hlk G (congrArg (fun (z : rr_S) => (cc_pD q z)) (Option.some.inj h5)) hQ dX2_throwFrom_19
  refine lv_if_eq (tgt := 8) hx hb dX2_throwFrom_1 (by decide) (fun c6 => ?_) (fun c6 => ?_)
  · have h7 := pp_t c6 h2
    clear h2
    exact hj1 _ H locs ls h7 G hl
  · have h8 := pp_f c6 h2
    clear h2
    refine lv_iload_n hx hb dX2_throwFrom_4 rfl (lv_at hl 2 rfl) ?_
    refine lv_if_ne (tgt := 20) hx hb dX2_throwFrom_5 (by decide) (fun c9 => ?_) (fun c9 => ?_)
    · have h10 := pp_f c9 h8
      clear h8
      refine lv_aload_n hx hb dX2_throwFrom_20 rfl (lv_at hl 0 rfl) ?_
      refine lv_iload_n hx hb dX2_throwFrom_21 rfl (lv_at hl 1 rfl) ?_
      refine lv_iload_n hx hb dX2_throwFrom_22 rfl (lv_at hl 2 rfl) ?_
      refine lv_lload_n hx hb dX2_throwFrom_23 rfl (lv_at hl 3 rfl) ?_
      refine lv_bipush (v := 40) hx hb dX2_throwFrom_24 (by decide) ?_
      refine lv_aload_n hx hb dX2_throwFrom_26 rfl (lv_at hl 0 rfl) ?_
      refine cc_get (do_duel g q) X G (x := x) rfl hin2 2 (by decide) hf21 (v := .int (x.1 2)) rfl dX2_throwFrom_27 ?_
      refine lv_isub hx hb dX2_throwFrom_30 ?_
      refine lv_aload_n hx hb dX2_throwFrom_31 rfl (lv_at hl 0 rfl) ?_
      refine cc_get (do_duel g q) X G (x := x) rfl hin2 3 (by decide) hf25 (v := .int (x.1 3)) rfl dX2_throwFrom_32 ?_
      refine lv_isub hx hb dX2_throwFrom_35 ?_
      refine lv_i2l hx hb dX2_throwFrom_36 rfl ?_
      refine lv_lmul hx hb dX2_throwFrom_37 ?_
      obtain ⟨r11, hc11, h12⟩ := pp_ob_ex h10
      clear h10
      refine cc_calv (q2 := (cc_pD q r11)) rfl rfl (do_duel g q) X G (x := x) rfl (ctX2_addWays l g pls q x _ _ _ hc11) (cwV 3 hts gX2_throwFrom_X2_addWays rfl rfl rfl (by decide +kernel) ⟨Nat.le_of_ble_eq_true rfl, Nat.le_of_ble_eq_true rfl⟩) (rest := []) rfl hl.1 rfl (Nat.le_of_ble_eq_true rfl) dX2_throwFrom_38 (fun H locs G => ?_)
      refine lv_aload_n hx hb dX2_throwFrom_41 rfl (lv_at hl 0 rfl) ?_
      refine lv_iload_n hx hb dX2_throwFrom_42 rfl (lv_at hl 1 rfl) ?_
      refine lv_iconst (v := 1) hx hb dX2_throwFrom_43 (by decide) ?_
      refine lv_isub hx hb dX2_throwFrom_44 ?_
      refine lv_iload_n hx hb dX2_throwFrom_45 rfl (lv_at hl 2 rfl) ?_
      refine lv_lload_n hx hb dX2_throwFrom_46 rfl (lv_at hl 3 rfl) ?_
      refine lv_aload_n hx hb dX2_throwFrom_47 rfl (lv_at hl 0 rfl) ?_
      refine cc_get (do_duel g q) X G (x := r11) rfl hin2 4 (by decide) hf28 (v := .int (r11.1 4)) rfl dX2_throwFrom_48 ?_
      obtain ⟨j13, ej13, h14⟩ := pp_lj_ex h12
      clear h12
      have hj13 : ∀ (a13 : Int32) (H : Heap) (locs : List Loc) (ls : Array Slot), j13 a13 = some res → cc_H g A pls (cc_pD q r11) s H locs → lv_has ls 5 [(0, .ref (cc_ad g 3)), (1, .int v1), (2, .int v2), (3, .long v3)] → W p l e (headSpec wsX2_throwFrom rmX2_throwFrom).room s m args below meth c H locs 0 0 Q (F0 m 65 ls [.int a13, .long v3, .int v2, .int (v1 - (1 : Int32)), .ref (cc_ad g 3)]) := by
        intro a13 H locs ls h G hl
        have h15 := pp_jmp ej13 h
        clear h h14
        refine lv_i2l hx hb dX2_throwFrom_65 rfl ?_
        refine lv_lmul hx hb dX2_throwFrom_66 ?_
        obtain ⟨r16, hc16, h17⟩ := pp_ob_ex h15
        clear h15
        refine cc_calv (q2 := (cc_pD q r16)) rfl rfl (do_duel g q) X G (x := r11) rfl (ctX2_addWays l g pls q r11 _ _ _ hc16) (cwV 3 hts gX2_throwFrom_X2_addWays rfl rfl rfl (by decide +kernel) ⟨Nat.le_of_ble_eq_true rfl, Nat.le_of_ble_eq_true rfl⟩) (rest := []) rfl hl.1 rfl (Nat.le_of_ble_eq_true rfl) dX2_throwFrom_67 (fun H locs G => ?_)
        refine lv_aload_n hx hb dX2_throwFrom_70 rfl (lv_at hl 0 rfl) ?_
        refine lv_iload_n hx hb dX2_throwFrom_71 rfl (lv_at hl 1 rfl) ?_
        refine lv_iload_n hx hb dX2_throwFrom_72 rfl (lv_at hl 2 rfl) ?_
        refine lv_iconst (v := 1) hx hb dX2_throwFrom_73 (by decide) ?_
        refine lv_isub hx hb dX2_throwFrom_74 ?_
        refine lv_lload_n hx hb dX2_throwFrom_75 rfl (lv_at hl 3 rfl) ?_
        refine lv_aload_n hx hb dX2_throwFrom_76 rfl (lv_at hl 0 rfl) ?_
        refine cc_get (do_duel g q) X G (x := r16) rfl hin2 4 (by decide) hf28 (v := .int (r16.1 4)) rfl dX2_throwFrom_77 ?_
        obtain ⟨j18, ej18, h19⟩ := pp_lj_ex h17
        clear h17
        have hj18 : ∀ (a18 : Int32) (H : Heap) (locs : List Loc) (ls : Array Slot), j18 a18 = some res → cc_H g A pls (cc_pD q r16) s H locs → lv_has ls 5 [] → W p l e (headSpec wsX2_throwFrom rmX2_throwFrom).room s m args below meth c H locs 0 0 Q (F0 m 94 ls [.int a18, .long v3, .int (v2 - (1 : Int32)), .int v1, .ref (cc_ad g 3)]) := by
          intro a18 H locs ls h G hl
          have h20 := pp_jmp ej18 h
          clear h h19
          refine lv_i2l hx hb dX2_throwFrom_94 rfl ?_
          refine lv_lmul hx hb dX2_throwFrom_95 ?_
          obtain ⟨r21, hc21, h22⟩ := pp_ob_ex h20
          clear h20
          refine cc_calv (q2 := (cc_pD q r21)) rfl rfl (do_duel g q) X G (x := r16) rfl (ctX2_addWays l g pls q r16 _ _ _ hc21) (cwV 3 hts gX2_throwFrom_X2_addWays rfl rfl rfl (by decide +kernel) ⟨Nat.le_of_ble_eq_true rfl, Nat.le_of_ble_eq_true rfl⟩) (rest := []) rfl hl.1 rfl (Nat.le_of_ble_eq_true rfl) dX2_throwFrom_96 (fun H locs G => ?_)
          exact cc_vret X hr hlk G (congrArg (fun (z : rr_S) => (cc_pD q z)) (Option.some.inj h22)) hQ dX2_throwFrom_99
        refine lv_if_ne (tgt := 90) hx hb dX2_throwFrom_80 (by decide) (fun c23 => ?_) (fun c23 => ?_)
        · have h24 := pp_f c23 h19
          clear h19
          refine lv_aload_n hx hb dX2_throwFrom_90 rfl (lv_at hl 0 rfl) ?_
          refine cc_get (do_duel g q) X G (x := r16) rfl hin2 3 (by decide) hf25 (v := .int (r16.1 3)) rfl dX2_throwFrom_91 ?_
          exact hj18 _ H locs ls h24 G (lv_sub hl [] rfl)
        · have h25 := pp_t c23 h19
          clear h19
          refine lv_aload_n hx hb dX2_throwFrom_83 rfl (lv_at hl 0 rfl) ?_
          refine cc_get (do_duel g q) X G (x := r16) rfl hin2 2 (by decide) hf21 (v := .int (r16.1 2)) rfl dX2_throwFrom_84 ?_
          refine lv_goto (tgt := 94) hx hb dX2_throwFrom_87 (by decide) ?_
          exact hj18 _ H locs ls h25 G (lv_sub hl [] rfl)
      refine lv_if_ne (tgt := 61) hx hb dX2_throwFrom_51 (by decide) (fun c26 => ?_) (fun c26 => ?_)
      · have h27 := pp_f c26 h14
        clear h14
        refine lv_aload_n hx hb dX2_throwFrom_61 rfl (lv_at hl 0 rfl) ?_
        refine cc_get (do_duel g q) X G (x := r11) rfl hin2 2 (by decide) hf21 (v := .int (r11.1 2)) rfl dX2_throwFrom_62 ?_
        exact hj13 _ H locs ls h27 G hl
      · have h28 := pp_t c26 h14
        clear h14
        refine lv_aload_n hx hb dX2_throwFrom_54 rfl (lv_at hl 0 rfl) ?_
        refine cc_get (do_duel g q) X G (x := r11) rfl hin2 3 (by decide) hf25 (v := .int (r11.1 3)) rfl dX2_throwFrom_55 ?_
        refine lv_goto (tgt := 65) hx hb dX2_throwFrom_58 (by decide) ?_
        exact hj13 _ H locs ls h28 G hl
    · have h29 := pp_t c9 h8
      clear h8
      exact hj1 _ H locs ls h29 G hl
noncomputable def D_waysWonBy (x : rr_S) (v1 : Int32) : Option Int64 := pp_it (fun (self1 : Int64 × Int32 → Option Int64) (a1 : Int64 × Int32) => (if (5 : Int32) ≤ a1.2 then some a1.1 else pp_lj (fun (a5 : Int64) => (pp_lj ((a1.1 + a5) : Int64) (fun x8 => pp_lj (a1.2 + 1 : Int32) (fun x10 => self1 (x8, x10))) : Option Int64)) (fun j5 => (if v1 = (0 : Int32) then pp_ix ((5 : Int32) * a1.2) 25 (j5 (x.2.2 0 (Int32.toNatClampNeg ((5 : Int32) * a1.2)))) else pp_ix a1.2 25 (j5 (x.2.2 0 (Int32.toNatClampNeg a1.2))))))) 200 ((0 : Int64), (1 : Int32))
abbrev rmX2_waysWonBy : Room := { frames := 0, cells := 0, slots := 0, locals := 0 }
set_option maxHeartbeats 4000000 in
set_option maxRecDepth 100000 in
theorem ctX2_waysWonBy (l : Launch) (g : cc_G) (pls : va_W) (q : cc_S) (x : rr_S) (v1 : Int32) {res : Int64} (h : D_waysWonBy x v1 = some res) : cc_Ml l yX2_waysWonBy wsX2_waysWonBy rmX2_waysWonBy g pls [.ref (cc_ad g 3), .int v1] (cc_pD q x) res (cc_pD q x) := by
  intro sz A hA
  unfold D_waysWonBy at h
  refine cc_ofW hA (own := RX2) (by decide) rfl rfl (Nat.le_of_ble_eq_true rfl) ?_
  intro p e s m args below meth c ls X hr hlk G hl Q hQ
  have hx := X.1.1
  have hb := X.1.2.1
  have hown := X.1.2.2.2.1
  have hts := X.1.2.2.2.2
  refine (fun (key : ∀ (H : Heap) (locs : List Loc), cc_H g A pls (cc_pD q x) s H locs → W p l e (headSpec wsX2_waysWonBy rmX2_waysWonBy).room s m args below meth c H locs 0 0 Q (F0 m 0 ls [])) => key _ _ G) ?_
  clear G
  intro H locs G
  have hl : lv_has ls 5 [(0, .ref (cc_ad g 3)), (1, .int v1)] := hl
  have hf11 : Cond.fieldLink RX2 11 (TX2 0).1 (TX2 0).2.1 (TX2 0).2.2.1 ∈ wsX2_waysWonBy := by decide +kernel
  have hin2 : ∀ y ∈ wsX20, y ∈ wsX2_waysWonBy := (fun _ z => List.mem_cons_of_mem _ (List.mem_append_right _ z))
  refine lv_lconst (v := 0) hx hb dX2_waysWonBy_0 (by decide) ?_
  refine lv_lstore_n (lv' := [(2, .long (0 : Int64)), (0, .ref (cc_ad g 3)), (1, .int v1)]) hx hb dX2_waysWonBy_1 rfl hl (by decide) rfl (fun ls hl => ?_)
  refine lv_iconst (v := 1) hx hb dX2_waysWonBy_2 (by decide) ?_
  refine lv_istore (lv' := [(4, .int (1 : Int32)), (2, .long (0 : Int64)), (0, .ref (cc_ad g 3)), (1, .int v1)]) hx hb dX2_waysWonBy_3 hl (by decide) rfl (fun ls hl => ?_)
  refine pp_loop (I := fun (a1 : Int64 × Int32) => ∀ (H : Heap) (locs : List Loc) (ls : Array Slot), cc_H g A pls (cc_pD q x) s H locs → lv_has ls 5 [(0, .ref (cc_ad g 3)), (1, .int v1), (2, .long a1.1), (4, .int a1.2)] → W p l e (headSpec wsX2_waysWonBy rmX2_waysWonBy).room s m args below meth c H locs 0 0 Q (F0 m 5 ls [])) ?_ 200 _ h H locs ls G (lv_sub hl [2, 3, 1, 0] rfl)
  clear h
  intro self1 ih1 a1 h1 H locs ls G hl
  refine lv_iload hx hb dX2_waysWonBy_5 (lv_at hl 3 rfl) ?_
  refine lv_iconst (v := 5) hx hb dX2_waysWonBy_7 (by decide) ?_
  refine lv_icmp_ge (tgt := 43) hx hb dX2_waysWonBy_8 (by decide) (fun c2 => ?_) (fun c2 => ?_)
  · have h3 := pp_t c2 h1
    clear h1
    refine lv_lload_n hx hb dX2_waysWonBy_43 rfl (lv_at hl 2 rfl) ?_
    exact cc_lret X hr hlk G (Option.some.inj h3) rfl hQ dX2_waysWonBy_44
  · have h4 := pp_f c2 h1
    clear h1
    refine lv_lload_n hx hb dX2_waysWonBy_11 rfl (lv_at hl 2 rfl) ?_
    refine lv_iload_n hx hb dX2_waysWonBy_12 rfl (lv_at hl 1 rfl) ?_
    obtain ⟨j5, ej5, h6⟩ := pp_lj_ex h4
    clear h4
    have hj5 : ∀ (a5 : Int64) (H : Heap) (locs : List Loc) (ls : Array Slot), j5 a5 = some res → cc_H g A pls (cc_pD q x) s H locs → lv_has ls 5 [(0, .ref (cc_ad g 3)), (1, .int v1), (4, .int a1.2)] → W p l e (headSpec wsX2_waysWonBy rmX2_waysWonBy).room s m args below meth c H locs 0 0 Q (F0 m 35 ls [.long a5, .long a1.1]) := by
      intro a5 H locs ls h G hl
      have h7 := pp_jmp ej5 h
      clear h h6
      refine lv_ladd hx hb dX2_waysWonBy_35 ?_
      obtain ⟨x8, ex8, h9⟩ := pp_lj_ex h7
      clear h7
      refine lv_nml ex8 ?_
      refine lv_lstore_n (lv' := [(2, .long x8), (0, .ref (cc_ad g 3)), (1, .int v1), (4, .int a1.2)]) hx hb dX2_waysWonBy_36 rfl hl (by decide) rfl (fun ls hl => ?_)
      obtain ⟨x10, ex10, h11⟩ := pp_lj_ex h9
      clear h9
      refine lv_iinc (v := x10) (lv' := [(4, .int x10), (2, .long x8), (0, .ref (cc_ad g 3)), (1, .int v1)]) hx hb dX2_waysWonBy_37 hl (k := 3) rfl (by rw [ex10]; rfl) (by decide) rfl (fun ls hl => ?_)
      refine lv_goto (tgt := 5) hx hb dX2_waysWonBy_40 (by decide) ?_
      exact ih1 _ h11 H locs ls G (lv_sub hl [2, 3, 1, 0] rfl)
    refine lv_if_ne (tgt := 28) hx hb dX2_waysWonBy_13 (by decide) (fun c12 => ?_) (fun c12 => ?_)
    · have h13 := pp_f c12 h6
      clear h6
      refine lv_aload_n hx hb dX2_waysWonBy_28 rfl (lv_at hl 0 rfl) ?_
      refine cc_get (do_duel g q) X G (x := x) rfl hin2 0 (by decide) hf11 (v := .ref (cc_ad g 4)) rfl dX2_waysWonBy_29 ?_
      refine lv_iload hx hb dX2_waysWonBy_32 (lv_at hl 3 rfl) ?_
      obtain ⟨hi14, h15⟩ := pp_ix_ex h13
      clear h13
      refine cc_lald (dl_0 g q) X G (x := x) hi14 dX2_waysWonBy_34 ?_
      exact hj5 _ H locs ls h15 G (lv_sub hl [0, 1, 3] rfl)
    · have h16 := pp_t c12 h6
      clear h6
      refine lv_aload_n hx hb dX2_waysWonBy_16 rfl (lv_at hl 0 rfl) ?_
      refine cc_get (do_duel g q) X G (x := x) rfl hin2 0 (by decide) hf11 (v := .ref (cc_ad g 4)) rfl dX2_waysWonBy_17 ?_
      refine lv_iconst (v := 5) hx hb dX2_waysWonBy_20 (by decide) ?_
      refine lv_iload hx hb dX2_waysWonBy_21 (lv_at hl 3 rfl) ?_
      refine lv_imul hx hb dX2_waysWonBy_23 ?_
      obtain ⟨hi17, h18⟩ := pp_ix_ex h16
      clear h16
      refine cc_lald (dl_0 g q) X G (x := x) hi17 dX2_waysWonBy_24 ?_
      refine lv_goto (tgt := 35) hx hb dX2_waysWonBy_25 (by decide) ?_
      exact hj5 _ H locs ls h18 G (lv_sub hl [0, 1, 3] rfl)
noncomputable def S_waitsAt (y : rr_S) (v1 : Int32) : Option Int32 := pp_lj (fun (a1 : Unit) => (some (-9 : Int32) : Option Int32)) (fun j1 => (if v1 < (0 : Int32) then j1 () else (if (y.1 2) ≤ v1 then j1 () else pp_ix v1 8 (some (y.2.1 1 (Int32.toNatClampNeg v1))))))
abbrev rmX6_waitsAt : Room := { frames := 0, cells := 0, slots := 0, locals := 0 }
set_option maxHeartbeats 4000000 in
set_option maxRecDepth 100000 in
theorem ctX6_waitsAt (l : Launch) (g : cc_G) (pls : va_W) (q : cc_S) {k sd : Nat} (hk : k < 3) (hs : sd < 2) (x : cc_CT) (y : rr_S) (v1 : Int32) {res : Int32} (h : S_waitsAt y v1 = some res) : cc_Mi l yX6_waitsAt wsX6_waitsAt rmX6_waitsAt g pls [.ref (cc_ad g (cs_id k sd)), .int v1] (cc_pS q k x sd y) res (cc_pS q k x sd y) := by
  intro sz A hA
  unfold S_waitsAt at h
  refine cc_ofW hA (own := RX6) (by decide) rfl rfl (Nat.le_of_ble_eq_true rfl) ?_
  intro p e s m args below meth c ls X hr hlk G hl Q hQ
  have hx := X.1.1
  have hb := X.1.2.1
  have hown := X.1.2.2.2.1
  have hts := X.1.2.2.2.2
  refine (fun (key : ∀ (H : Heap) (locs : List Loc), cc_H g A pls (cc_pS q k x sd y) s H locs → W p l e (headSpec wsX6_waitsAt rmX6_waitsAt).room s m args below meth c H locs 0 0 Q (F0 m 0 ls [])) => key _ _ G) ?_
  clear G
  intro H locs G
  have hl : lv_has ls 2 [(0, .ref (cc_ad g (cs_id k sd))), (1, .int v1)] := hl
  have hf9 : Cond.fieldLink RX6 9 (TX6 1).1 (TX6 1).2.1 (TX6 1).2.2.1 ∈ wsX6_waitsAt := by decide +kernel
  have hf19 : Cond.fieldLink RX6 19 (TX6 2).1 (TX6 2).2.1 (TX6 2).2.2.1 ∈ wsX6_waitsAt := by decide +kernel
  have hin6 : ∀ y ∈ wsX60, y ∈ wsX6_waitsAt := (fun _ z => List.mem_cons_of_mem _ (List.mem_append_right _ z))
  refine lv_iload_n hx hb dX6_waitsAt_0 rfl (lv_at hl 1 rfl) ?_
  obtain ⟨j1, ej1, h2⟩ := pp_lj_ex h
  clear h
  have hj1 : ∀ (a1 : Unit) (H : Heap) (locs : List Loc) (ls : Array Slot), j1 a1 = some res → cc_H g A pls (cc_pS q k x sd y) s H locs → lv_has ls 2 [] → W p l e (headSpec wsX6_waitsAt rmX6_waitsAt).room s m args below meth c H locs 0 0 Q (F0 m 21 ls []) := by
    intro a1 H locs ls h G hl
    have h3 := pp_jmp ej1 h
    clear h h2
    refine lv_bipush (v := -9) hx hb dX6_waitsAt_21 (by decide) ?_
    exact cc_iret X hr hlk rfl G (Option.some.inj h3) rfl hQ dX6_waitsAt_23
  refine lv_if_lt (tgt := 21) hx hb dX6_waitsAt_1 (by decide) (fun c4 => ?_) (fun c4 => ?_)
  · have h5 := pp_t c4 h2
    clear h2
    exact hj1 _ H locs ls h5 G (lv_sub hl [] rfl)
  · have h6 := pp_f c4 h2
    clear h2
    refine lv_iload_n hx hb dX6_waitsAt_4 rfl (lv_at hl 1 rfl) ?_
    refine lv_aload_n hx hb dX6_waitsAt_5 rfl (lv_at hl 0 rfl) ?_
    refine cc_get (so_side g q x hk hs) X G (x := y) rfl hin6 2 (by decide) hf19 (v := .int (y.1 2)) rfl dX6_waitsAt_6 ?_
    refine lv_icmp_ge (tgt := 21) hx hb dX6_waitsAt_9 (by decide) (fun c7 => ?_) (fun c7 => ?_)
    · have h8 := pp_t c7 h6
      clear h6
      exact hj1 _ H locs ls h8 G (lv_sub hl [] rfl)
    · have h9 := pp_f c7 h6
      clear h6
      refine lv_aload_n hx hb dX6_waitsAt_12 rfl (lv_at hl 0 rfl) ?_
      refine cc_get (so_side g q x hk hs) X G (x := y) rfl hin6 1 (by decide) hf9 (v := .ref (cc_ad g (cs_id k sd + 1))) rfl dX6_waitsAt_13 ?_
      refine lv_iload_n hx hb dX6_waitsAt_16 rfl (lv_at hl 1 rfl) ?_
      obtain ⟨hi10, h11⟩ := pp_ix_ex h9
      clear h9
      refine cc_iald (sa_1 g q x hk hs) X G (x := y) hi10 dX6_waitsAt_17 ?_
      refine lv_goto (tgt := 23) hx hb dX6_waitsAt_18 (by decide) ?_
      exact cc_iret X hr hlk rfl G (Option.some.inj h11) rfl hQ dX6_waitsAt_23
noncomputable def S_inCount (y : rr_S) : Option Int32 := pp_ob (J_bitCount (y.1 0)) (fun r1 => some r1)
abbrev rmX6_inCount : Room := { frames := 1, cells := 0, slots := 0, locals := 20 }
set_option maxHeartbeats 4000000 in
set_option maxRecDepth 100000 in
theorem ctX6_inCount (l : Launch) (g : cc_G) (pls : va_W) (q : cc_S) {k sd : Nat} (hk : k < 3) (hs : sd < 2) (x : cc_CT) (y : rr_S) {res : Int32} (h : S_inCount y = some res) : cc_Mi l yX6_inCount wsX6_inCount rmX6_inCount g pls [.ref (cc_ad g (cs_id k sd))] (cc_pS q k x sd y) res (cc_pS q k x sd y) := by
  intro sz A hA
  unfold S_inCount at h
  refine cc_ofW hA (own := RX6) (by decide) rfl rfl (Nat.le_of_ble_eq_true rfl) ?_
  intro p e s m args below meth c ls X hr hlk G hl Q hQ
  have hx := X.1.1
  have hb := X.1.2.1
  have hown := X.1.2.2.2.1
  have hts := X.1.2.2.2.2
  refine (fun (key : ∀ (H : Heap) (locs : List Loc), cc_H g A pls (cc_pS q k x sd y) s H locs → W p l e (headSpec wsX6_inCount rmX6_inCount).room s m args below meth c H locs 0 0 Q (F0 m 0 ls [])) => key _ _ G) ?_
  clear G
  intro H locs G
  have hl : lv_has ls 1 [(0, .ref (cc_ad g (cs_id k sd)))] := hl
  have hf15 : Cond.fieldLink RX6 15 (TX6 0).1 (TX6 0).2.1 (TX6 0).2.2.1 ∈ wsX6_inCount := by decide +kernel
  have hin6 : ∀ y ∈ wsX60, y ∈ wsX6_inCount := (fun _ z => List.mem_cons_of_mem _ (List.mem_append_right _ z))
  refine lv_aload_n hx hb dX6_inCount_0 rfl (lv_at hl 0 rfl) ?_
  refine cc_get (so_side g q x hk hs) X G (x := y) rfl hin6 0 (by decide) hf15 (v := .int (y.1 0)) rfl dX6_inCount_1 ?_
  obtain ⟨r1, hc1, h2⟩ := pp_ob_ex h
  clear h
  refine cc_csi X G (ctJ6_bitCount_0f7a4 l _ hc1) (va_cwS 1 hts gX6_inCount_J6_bitCount_0f7a4 rfl rfl rfl (by decide +kernel) ⟨Nat.le_of_ble_eq_true rfl, Nat.le_of_ble_eq_true rfl⟩) (rest := []) rfl hl.1 rfl (Nat.le_of_ble_eq_true rfl) dX6_inCount_4 (fun H locs G => ?_)
  exact cc_iret X hr hlk rfl G (Option.some.inj h2) rfl hQ dX6_inCount_7
noncomputable def T_isFull (x : rr_S) : Option Int32 := (if (x.1 1) < (Int32.ofNat 80) then some (0 : Int32) else some (1 : Int32))
abbrev rmX7_isFull : Room := { frames := 0, cells := 0, slots := 0, locals := 0 }
set_option maxHeartbeats 4000000 in
set_option maxRecDepth 100000 in
theorem ctX7_isFull (l : Launch) (g : cc_G) (pls : va_W) (q : cc_S) (x : rr_S) {res : Int32} (h : T_isFull x = some res) : cc_Mi l yX7_isFull wsX7_isFull rmX7_isFull g pls [.ref (cc_ad g 1)] (cc_pT q x) res (cc_pT q x) := by
  intro sz A hA
  unfold T_isFull at h
  refine cc_ofW hA (own := RX7) (by decide) rfl rfl (Nat.le_of_ble_eq_true rfl) ?_
  intro p e s m args below meth c ls X hr hlk G hl Q hQ
  have hx := X.1.1
  have hb := X.1.2.1
  have hown := X.1.2.2.2.1
  have hts := X.1.2.2.2.2
  refine (fun (key : ∀ (H : Heap) (locs : List Loc), cc_H g A pls (cc_pT q x) s H locs → W p l e (headSpec wsX7_isFull rmX7_isFull).room s m args below meth c H locs 0 0 Q (F0 m 0 ls [])) => key _ _ G) ?_
  clear G
  intro H locs G
  have hl : lv_has ls 1 [(0, .ref (cc_ad g 1))] := hl
  have hf9 : Cond.fieldLink RX7 9 (TX7 0).1 (TX7 0).2.1 (TX7 0).2.2.1 ∈ wsX7_isFull := by decide +kernel
  have hf15 : Cond.fieldLink RX7 15 (TX7 1).1 (TX7 1).2.1 (TX7 1).2.2.1 ∈ wsX7_isFull := by decide +kernel
  have hin7 : ∀ y ∈ wsX70, y ∈ wsX7_isFull := (fun _ z => List.mem_cons_of_mem _ (List.mem_append_right _ z))
  refine lv_aload_n hx hb dX7_isFull_0 rfl (lv_at hl 0 rfl) ?_
  refine cc_get (to_text g q) X G (x := x) rfl hin7 1 (by decide) hf15 (v := .int (x.1 1)) rfl dX7_isFull_1 ?_
  refine lv_aload_n hx hb dX7_isFull_4 rfl (lv_at hl 0 rfl) ?_
  refine cc_get (to_text g q) X G (x := x) rfl hin7 0 (by decide) hf9 (v := .ref (cc_ad g 2)) rfl dX7_isFull_5 ?_
  refine cc_calen (ta_0 g q) X G (x := x) rfl dX7_isFull_8 ?_
  refine lv_icmp_lt (tgt := 16) hx hb dX7_isFull_9 (by decide) (fun c1 => ?_) (fun c1 => ?_)
  · have h2 := pp_t c1 h
    clear h
    refine lv_iconst (v := 0) hx hb dX7_isFull_16 (by decide) ?_
    exact cc_iret X hr hlk rfl G (Option.some.inj h2) rfl hQ dX7_isFull_17
  · have h3 := pp_f c1 h
    clear h
    refine lv_iconst (v := 1) hx hb dX7_isFull_12 (by decide) ?_
    refine lv_goto (tgt := 17) hx hb dX7_isFull_13 (by decide) ?_
    exact cc_iret X hr hlk rfl G (Option.some.inj h3) rfl hQ dX7_isFull_17
noncomputable def T_append (x : rr_S) (v1 : Int32) : Option rr_S := pp_ob (T_isFull x) (fun r1 => (if r1 = (0 : Int32) then pp_ix (x.1 1) 80 (pp_lj (rr_A x 0 (Int32.toNatClampNeg (x.1 1)) (vp_nar .char v1) : rr_S) (fun x8 => pp_lj (rr_I x8 1 ((x8.1 1) + (1 : Int32)) : rr_S) (fun x10 => some x10))) else some x))
abbrev rmX7_append : Room := { frames := 1, cells := 0, slots := 0, locals := 20 }
set_option maxHeartbeats 4000000 in
set_option maxRecDepth 100000 in
theorem ctX7_append (l : Launch) (g : cc_G) (pls : va_W) (q : cc_S) (x : rr_S) (v1 : Int32) {res : rr_S} (h : T_append x v1 = some res) : cc_Mv l yX7_append wsX7_append rmX7_append g pls [.ref (cc_ad g 1), .int v1] (cc_pT q x) (cc_pT q res) := by
  intro sz A hA
  unfold T_append at h
  refine cc_ofW hA (own := RX7) (by decide) rfl rfl (Nat.le_of_ble_eq_true rfl) ?_
  intro p e s m args below meth c ls X hr hlk G hl Q hQ
  have hx := X.1.1
  have hb := X.1.2.1
  have hown := X.1.2.2.2.1
  have hts := X.1.2.2.2.2
  refine (fun (key : ∀ (H : Heap) (locs : List Loc), cc_H g A pls (cc_pT q x) s H locs → W p l e (headSpec wsX7_append rmX7_append).room s m args below meth c H locs 0 0 Q (F0 m 0 ls [])) => key _ _ G) ?_
  clear G
  intro H locs G
  have hl : lv_has ls 2 [(0, .ref (cc_ad g 1)), (1, .int v1)] := hl
  have hf9 : Cond.fieldLink RX7 9 (TX7 0).1 (TX7 0).2.1 (TX7 0).2.2.1 ∈ wsX7_append := by decide +kernel
  have hf15 : Cond.fieldLink RX7 15 (TX7 1).1 (TX7 1).2.1 (TX7 1).2.2.1 ∈ wsX7_append := by decide +kernel
  have hin7 : ∀ y ∈ wsX70, y ∈ wsX7_append := (fun _ z => List.mem_cons_of_mem _ (List.mem_append_right _ z))
  refine lv_aload_n hx hb dX7_append_0 rfl (lv_at hl 0 rfl) ?_
  obtain ⟨r1, hc1, h2⟩ := pp_ob_ex h
  clear h
  refine cc_cali (q2 := (cc_pT q x)) rfl rfl (to_text g q) X G (x := x) rfl (ctX7_isFull l g pls q x hc1) (cwV 0 hts gX7_append_X7_isFull rfl rfl rfl (by decide +kernel) ⟨Nat.le_of_ble_eq_true rfl, Nat.le_of_ble_eq_true rfl⟩) (rest := []) rfl hl.1 rfl (Nat.le_of_ble_eq_true rfl) dX7_append_1 (fun H locs G => ?_)
  refine lv_if_ne (tgt := 27) hx hb dX7_append_4 (by decide) (fun c3 => ?_) (fun c3 => ?_)
  · have h4 := pp_f c3 h2
    clear h2
    exact cc_vret X hr hlk G (congrArg (fun (z : rr_S) => (cc_pT q z)) (Option.some.inj h4)) hQ dX7_append_27
  · have h5 := pp_t c3 h2
    clear h2
    refine lv_aload_n hx hb dX7_append_7 rfl (lv_at hl 0 rfl) ?_
    refine cc_get (to_text g q) X G (x := x) rfl hin7 0 (by decide) hf9 (v := .ref (cc_ad g 2)) rfl dX7_append_8 ?_
    refine lv_aload_n hx hb dX7_append_11 rfl (lv_at hl 0 rfl) ?_
    refine cc_get (to_text g q) X G (x := x) rfl hin7 1 (by decide) hf15 (v := .int (x.1 1)) rfl dX7_append_12 ?_
    refine lv_iload_n hx hb dX7_append_15 rfl (lv_at hl 1 rfl) ?_
    obtain ⟨hi6, h7⟩ := pp_ix_ex h5
    clear h5
    obtain ⟨x8, ex8, h9⟩ := pp_lj_ex h7
    clear h7
    refine cc_cast (ta_0 g q) X G (x := x) hi6 ex8 dX7_append_16 (fun H locs G => ?_)
    refine lv_aload_n hx hb dX7_append_17 rfl (lv_at hl 0 rfl) ?_
    refine lv_dup hx hb dX7_append_18 rfl ?_
    refine cc_get (to_text g q) X G (x := x8) rfl hin7 1 (by decide) hf15 (v := .int (x8.1 1)) rfl dX7_append_19 ?_
    refine lv_iconst (v := 1) hx hb dX7_append_22 (by decide) ?_
    refine lv_iadd hx hb dX7_append_23 ?_
    obtain ⟨x10, ex10, h11⟩ := pp_lj_ex h9
    clear h9
    refine cc_put (ti_1 g q) X G (x := x8) rfl hin7 tyX7 tyX7_ok nmX7 (by decide) hf15 rfl (ty := .int) (by decide +kernel) rfl rfl ex10 dX7_append_24 (fun H locs G => ?_)
    exact cc_vret X hr hlk G (congrArg (fun (z : rr_S) => (cc_pT q z)) (Option.some.inj h11)) hQ dX7_append_27
noncomputable def T_forget (x : rr_S) : Option rr_S := pp_lj (rr_I x 1 (0 : Int32) : rr_S) (fun x1 => some x1)
abbrev rmX7_forget : Room := { frames := 0, cells := 0, slots := 0, locals := 0 }
set_option maxHeartbeats 4000000 in
set_option maxRecDepth 100000 in
theorem ctX7_forget (l : Launch) (g : cc_G) (pls : va_W) (q : cc_S) (x : rr_S) {res : rr_S} (h : T_forget x = some res) : cc_Mv l yX7_forget wsX7_forget rmX7_forget g pls [.ref (cc_ad g 1)] (cc_pT q x) (cc_pT q res) := by
  intro sz A hA
  unfold T_forget at h
  refine cc_ofW hA (own := RX7) (by decide) rfl rfl (Nat.le_of_ble_eq_true rfl) ?_
  intro p e s m args below meth c ls X hr hlk G hl Q hQ
  have hx := X.1.1
  have hb := X.1.2.1
  have hown := X.1.2.2.2.1
  have hts := X.1.2.2.2.2
  refine (fun (key : ∀ (H : Heap) (locs : List Loc), cc_H g A pls (cc_pT q x) s H locs → W p l e (headSpec wsX7_forget rmX7_forget).room s m args below meth c H locs 0 0 Q (F0 m 0 ls [])) => key _ _ G) ?_
  clear G
  intro H locs G
  have hl : lv_has ls 1 [(0, .ref (cc_ad g 1))] := hl
  have hf15 : Cond.fieldLink RX7 15 (TX7 1).1 (TX7 1).2.1 (TX7 1).2.2.1 ∈ wsX7_forget := by decide +kernel
  have hin7 : ∀ y ∈ wsX70, y ∈ wsX7_forget := (fun _ z => List.mem_cons_of_mem _ (List.mem_append_right _ z))
  refine lv_aload_n hx hb dX7_forget_0 rfl (lv_at hl 0 rfl) ?_
  refine lv_iconst (v := 0) hx hb dX7_forget_1 (by decide) ?_
  obtain ⟨x1, ex1, h2⟩ := pp_lj_ex h
  clear h
  refine cc_put (ti_1 g q) X G (x := x) rfl hin7 tyX7 tyX7_ok nmX7 (by decide) hf15 rfl (ty := .int) (by decide +kernel) rfl rfl ex1 dX7_forget_2 (fun H locs G => ?_)
  exact cc_vret X hr hlk G (congrArg (fun (z : rr_S) => (cc_pT q z)) (Option.some.inj h2)) hQ dX7_forget_5
noncomputable def T_letterAt (x : rr_S) (v1 : Int32) : Option Int32 := pp_lj (fun (a1 : Unit) => (pp_cz (32 : Int32) (some (32 : Int32)) : Option Int32)) (fun j1 => (if v1 < (0 : Int32) then j1 () else (if (x.1 1) ≤ v1 then j1 () else pp_ix v1 80 (pp_cz (x.2.1 0 (Int32.toNatClampNeg v1)) (some (x.2.1 0 (Int32.toNatClampNeg v1)))))))
abbrev rmX7_letterAt : Room := { frames := 0, cells := 0, slots := 0, locals := 0 }
set_option maxHeartbeats 4000000 in
set_option maxRecDepth 100000 in
theorem ctX7_letterAt (l : Launch) (g : cc_G) (pls : va_W) (q : cc_S) (x : rr_S) (v1 : Int32) {res : Int32} (h : T_letterAt x v1 = some res) : cc_Mi l yX7_letterAt wsX7_letterAt rmX7_letterAt g pls [.ref (cc_ad g 1), .int v1] (cc_pT q x) res (cc_pT q x) := by
  intro sz A hA
  unfold T_letterAt at h
  refine cc_ofW hA (own := RX7) (by decide) rfl rfl (Nat.le_of_ble_eq_true rfl) ?_
  intro p e s m args below meth c ls X hr hlk G hl Q hQ
  have hx := X.1.1
  have hb := X.1.2.1
  have hown := X.1.2.2.2.1
  have hts := X.1.2.2.2.2
  refine (fun (key : ∀ (H : Heap) (locs : List Loc), cc_H g A pls (cc_pT q x) s H locs → W p l e (headSpec wsX7_letterAt rmX7_letterAt).room s m args below meth c H locs 0 0 Q (F0 m 0 ls [])) => key _ _ G) ?_
  clear G
  intro H locs G
  have hl : lv_has ls 2 [(0, .ref (cc_ad g 1)), (1, .int v1)] := hl
  have hf9 : Cond.fieldLink RX7 9 (TX7 0).1 (TX7 0).2.1 (TX7 0).2.2.1 ∈ wsX7_letterAt := by decide +kernel
  have hf15 : Cond.fieldLink RX7 15 (TX7 1).1 (TX7 1).2.1 (TX7 1).2.2.1 ∈ wsX7_letterAt := by decide +kernel
  have hin7 : ∀ y ∈ wsX70, y ∈ wsX7_letterAt := (fun _ z => List.mem_cons_of_mem _ (List.mem_append_right _ z))
  refine lv_iload_n hx hb dX7_letterAt_0 rfl (lv_at hl 1 rfl) ?_
  obtain ⟨j1, ej1, h2⟩ := pp_lj_ex h
  clear h
  have hj1 : ∀ (a1 : Unit) (H : Heap) (locs : List Loc) (ls : Array Slot), j1 a1 = some res → cc_H g A pls (cc_pT q x) s H locs → lv_has ls 2 [] → W p l e (headSpec wsX7_letterAt rmX7_letterAt).room s m args below meth c H locs 0 0 Q (F0 m 21 ls []) := by
    intro a1 H locs ls h G hl
    have h3 := pp_jmp ej1 h
    clear h h2
    refine lv_bipush (v := 32) hx hb dX7_letterAt_21 (by decide) ?_
    obtain ⟨hz4, h5⟩ := pp_cz_ex h3
    clear h3
    exact cc_iret X hr hlk hz4 G (Option.some.inj h5) rfl hQ dX7_letterAt_23
  refine lv_if_lt (tgt := 21) hx hb dX7_letterAt_1 (by decide) (fun c6 => ?_) (fun c6 => ?_)
  · have h7 := pp_t c6 h2
    clear h2
    exact hj1 _ H locs ls h7 G (lv_sub hl [] rfl)
  · have h8 := pp_f c6 h2
    clear h2
    refine lv_iload_n hx hb dX7_letterAt_4 rfl (lv_at hl 1 rfl) ?_
    refine lv_aload_n hx hb dX7_letterAt_5 rfl (lv_at hl 0 rfl) ?_
    refine cc_get (to_text g q) X G (x := x) rfl hin7 1 (by decide) hf15 (v := .int (x.1 1)) rfl dX7_letterAt_6 ?_
    refine lv_icmp_ge (tgt := 21) hx hb dX7_letterAt_9 (by decide) (fun c9 => ?_) (fun c9 => ?_)
    · have h10 := pp_t c9 h8
      clear h8
      exact hj1 _ H locs ls h10 G (lv_sub hl [] rfl)
    · have h11 := pp_f c9 h8
      clear h8
      refine lv_aload_n hx hb dX7_letterAt_12 rfl (lv_at hl 0 rfl) ?_
      refine cc_get (to_text g q) X G (x := x) rfl hin7 0 (by decide) hf9 (v := .ref (cc_ad g 2)) rfl dX7_letterAt_13 ?_
      refine lv_iload_n hx hb dX7_letterAt_16 rfl (lv_at hl 1 rfl) ?_
      obtain ⟨hi12, h13⟩ := pp_ix_ex h11
      clear h11
      refine cc_cald (ta_0 g q) X G (x := x) hi12 dX7_letterAt_17 ?_
      refine lv_goto (tgt := 23) hx hb dX7_letterAt_18 (by decide) ?_
      obtain ⟨hz14, h15⟩ := pp_cz_ex h13
      clear h13
      exact cc_iret X hr hlk hz14 G (Option.some.inj h15) rfl hQ dX7_letterAt_23
noncomputable def T_digitAt (x : rr_S) (v1 : Int32) : Option Int32 := pp_ob (T_letterAt x v1) (fun r1 => some (r1 - (48 : Int32)))
abbrev rmX7_digitAt : Room := { frames := 1, cells := 0, slots := 0, locals := 21 }
set_option maxHeartbeats 4000000 in
set_option maxRecDepth 100000 in
theorem ctX7_digitAt (l : Launch) (g : cc_G) (pls : va_W) (q : cc_S) (x : rr_S) (v1 : Int32) {res : Int32} (h : T_digitAt x v1 = some res) : cc_Mi l yX7_digitAt wsX7_digitAt rmX7_digitAt g pls [.ref (cc_ad g 1), .int v1] (cc_pT q x) res (cc_pT q x) := by
  intro sz A hA
  unfold T_digitAt at h
  refine cc_ofW hA (own := RX7) (by decide) rfl rfl (Nat.le_of_ble_eq_true rfl) ?_
  intro p e s m args below meth c ls X hr hlk G hl Q hQ
  have hx := X.1.1
  have hb := X.1.2.1
  have hown := X.1.2.2.2.1
  have hts := X.1.2.2.2.2
  refine (fun (key : ∀ (H : Heap) (locs : List Loc), cc_H g A pls (cc_pT q x) s H locs → W p l e (headSpec wsX7_digitAt rmX7_digitAt).room s m args below meth c H locs 0 0 Q (F0 m 0 ls [])) => key _ _ G) ?_
  clear G
  intro H locs G
  have hl : lv_has ls 2 [(0, .ref (cc_ad g 1)), (1, .int v1)] := hl
  refine lv_aload_n hx hb dX7_digitAt_0 rfl (lv_at hl 0 rfl) ?_
  refine lv_iload_n hx hb dX7_digitAt_1 rfl (lv_at hl 1 rfl) ?_
  obtain ⟨r1, hc1, h2⟩ := pp_ob_ex h
  clear h
  refine cc_cali (q2 := (cc_pT q x)) rfl rfl (to_text g q) X G (x := x) rfl (ctX7_letterAt l g pls q x _ hc1) (cwV 1 hts gX7_digitAt_X7_letterAt rfl rfl rfl (by decide +kernel) ⟨Nat.le_of_ble_eq_true rfl, Nat.le_of_ble_eq_true rfl⟩) (rest := []) rfl hl.1 rfl (Nat.le_of_ble_eq_true rfl) dX7_digitAt_2 (fun H locs G => ?_)
  refine lv_bipush (v := 48) hx hb dX7_digitAt_5 (by decide) ?_
  refine lv_isub hx hb dX7_digitAt_7 ?_
  exact cc_iret X hr hlk rfl G (Option.some.inj h2) rfl hQ dX7_digitAt_8
noncomputable def C_refused (q : cc_S) (v1 : Int32) : Option (Int32 × cc_S) := pp_lj ((-v1) : Int32) (fun x1 => pp_lj (fun (a3 : cc_S) => (some (v1, a3) : Option (Int32 × cc_S))) (fun j3 => (if x1 ≤ (0 : Int32) then j3 q else (if (Int32.ofNat 7) ≤ x1 then j3 q else pp_ix x1 7 (pp_lj (cc_ma q 8 (Int32.toNatClampNeg x1) ((q.1.2.1 8 (Int32.toNatClampNeg x1)) + (1 : Int32)) : cc_S) (fun x14 => j3 x14))))))
abbrev rmX10_refused : Room := { frames := 0, cells := 0, slots := 0, locals := 0 }
set_option maxHeartbeats 4000000 in
set_option maxRecDepth 100000 in
theorem ctX10_refused (l : Launch) (g : cc_G) (pls : va_W) (q : cc_S) (v1 : Int32) {res : (Int32 × cc_S)} (h : C_refused q v1 = some res) : cc_Mi l yX10_refused wsX10_refused rmX10_refused g pls [.ref (cc_ad g 0), .int v1] q res.1 res.2 := by
  intro sz A hA
  unfold C_refused at h
  refine cc_ofW hA (own := RX10) (by decide) rfl rfl (Nat.le_of_ble_eq_true rfl) ?_
  intro p e s m args below meth c ls X hr hlk G hl Q hQ
  have hx := X.1.1
  have hb := X.1.2.1
  have hown := X.1.2.2.2.1
  have hts := X.1.2.2.2.2
  refine (fun (key : ∀ (H : Heap) (locs : List Loc), cc_H g A pls q s H locs → W p l e (headSpec wsX10_refused rmX10_refused).room s m args below meth c H locs 0 0 Q (F0 m 0 ls [])) => key _ _ G) ?_
  clear G
  intro H locs G
  have hl : lv_has ls 3 [(0, .ref (cc_ad g 0)), (1, .int v1)] := hl
  have hf40 : Cond.fieldLink RX10 40 (TX10 8).1 (TX10 8).2.1 (TX10 8).2.2.1 ∈ wsX10_refused := by decide +kernel
  have hin10 : ∀ y ∈ wsX100, y ∈ wsX10_refused := (fun _ z => List.mem_cons_of_mem _ (List.mem_append_right _ z))
  refine lv_iload_n hx hb dX10_refused_0 rfl (lv_at hl 1 rfl) ?_
  refine lv_ineg hx hb dX10_refused_1 ?_
  obtain ⟨x1, ex1, h2⟩ := pp_lj_ex h
  clear h
  refine lv_nmi ex1 ?_
  refine lv_istore_n (lv' := [(2, .int x1), (0, .ref (cc_ad g 0)), (1, .int v1)]) hx hb dX10_refused_2 rfl hl (by decide) rfl (fun ls hl => ?_)
  refine lv_iload_n hx hb dX10_refused_3 rfl (lv_at hl 0 rfl) ?_
  obtain ⟨j3, ej3, h4⟩ := pp_lj_ex h2
  clear h2
  have hj3 : ∀ (a3 : cc_S) (H : Heap) (locs : List Loc) (ls : Array Slot), j3 a3 = some res → cc_H g A pls a3 s H locs → lv_has ls 3 [(1, .int v1)] → W p l e (headSpec wsX10_refused rmX10_refused).room s m args below meth c H locs 0 0 Q (F0 m 26 ls []) := by
    intro a3 H locs ls h G hl
    have h5 := pp_jmp ej3 h
    clear h h4
    refine lv_iload_n hx hb dX10_refused_26 rfl (lv_at hl 0 rfl) ?_
    exact cc_iretW cc_id X hr hlk rfl G h5 hQ dX10_refused_27
  refine lv_if_le (tgt := 26) hx hb dX10_refused_4 (by decide) (fun c6 => ?_) (fun c6 => ?_)
  · have h7 := pp_t c6 h4
    clear h4
    exact hj3 _ H locs ls h7 G (lv_sub hl [2] rfl)
  · have h8 := pp_f c6 h4
    clear h4
    refine lv_iload_n hx hb dX10_refused_7 rfl (lv_at hl 0 rfl) ?_
    refine lv_aload_n hx hb dX10_refused_8 rfl (lv_at hl 1 rfl) ?_
    refine cc_get (mo_main g) X G (x := q) rfl hin10 8 (by decide) hf40 (v := .ref (cc_ad g 7)) rfl dX10_refused_9 ?_
    refine cc_ialen (ma_8 g) X G (x := q) rfl dX10_refused_12 ?_
    refine lv_icmp_ge (tgt := 26) hx hb dX10_refused_13 (by decide) (fun c9 => ?_) (fun c9 => ?_)
    · have h10 := pp_t c9 h8
      clear h8
      exact hj3 _ H locs ls h10 G (lv_sub hl [2] rfl)
    · have h11 := pp_f c9 h8
      clear h8
      refine lv_aload_n hx hb dX10_refused_16 rfl (lv_at hl 1 rfl) ?_
      refine cc_get (mo_main g) X G (x := q) rfl hin10 8 (by decide) hf40 (v := .ref (cc_ad g 7)) rfl dX10_refused_17 ?_
      refine lv_iload_n hx hb dX10_refused_20 rfl (lv_at hl 0 rfl) ?_
      refine lv_dup2_11 hx hb dX10_refused_21 rfl rfl ?_
      obtain ⟨hi12, h13⟩ := pp_ix_ex h11
      clear h11
      refine cc_iald (ma_8 g) X G (x := q) hi12 dX10_refused_22 ?_
      refine lv_iconst (v := 1) hx hb dX10_refused_23 (by decide) ?_
      refine lv_iadd hx hb dX10_refused_24 ?_
      obtain ⟨x14, ex14, h15⟩ := pp_lj_ex h13
      clear h13
      refine cc_iast (ma_8 g) X G (x := q) hi12 ex14 dX10_refused_25 (fun H locs G => ?_)
      exact hj3 _ H locs ls h15 G (lv_sub hl [2] rfl)
noncomputable def C_letter (q : cc_S) (v1 : Int32) : Option (Int32 × cc_S) := (if (0 : Int32) ≤ v1 then pp_lj (fun (a3 : Unit) => (pp_ob (C_refused q (-6 : Int32)) (fun r6 => some (r6.1, r6.2)) : Option (Int32 × cc_S))) (fun j3 => (if (255 : Int32) < v1 then j3 () else pp_ob (T_isFull (cc_gT q)) (fun r11 => (if r11 = (0 : Int32) then pp_ob (T_append (cc_gT q) ((Int32.toUInt32 v1 % 65536).toInt32)) (fun r15 => pp_lj (cc_pT q r15 : cc_S) (fun x17 => some (((cc_gT x17).1 1), x17))) else j3 ())))) else pp_ob (C_refused q (-4 : Int32)) (fun r21 => some (r21.1, r21.2)))
abbrev rmX10_letter : Room := { frames := 2, cells := 0, slots := 0, locals := 41 }
set_option maxHeartbeats 4000000 in
set_option maxRecDepth 100000 in
theorem ctX10_letter (l : Launch) (g : cc_G) (pls : va_W) (q : cc_S) (v1 : Int32) {res : (Int32 × cc_S)} (h : C_letter q v1 = some res) : cc_Mi l yX10_letter wsX10_letter rmX10_letter g pls [.ref (cc_ad g 0), .int v1] q res.1 res.2 := by
  intro sz A hA
  unfold C_letter at h
  refine cc_ofW hA (own := RX10) (by decide) rfl rfl (Nat.le_of_ble_eq_true rfl) ?_
  intro p e s m args below meth c ls X hr hlk G hl Q hQ
  have hx := X.1.1
  have hb := X.1.2.1
  have hown := X.1.2.2.2.1
  have hts := X.1.2.2.2.2
  refine (fun (key : ∀ (H : Heap) (locs : List Loc), cc_H g A pls q s H locs → W p l e (headSpec wsX10_letter rmX10_letter).room s m args below meth c H locs 0 0 Q (F0 m 0 ls [])) => key _ _ G) ?_
  clear G
  intro H locs G
  have hl : lv_has ls 2 [(0, .ref (cc_ad g 0)), (1, .int v1)] := hl
  have hf10 : Cond.fieldLink RX10 10 (TX10 0).1 (TX10 0).2.1 (TX10 0).2.2.1 ∈ wsX10_letter := by decide +kernel
  have hin7 : ∀ y ∈ wsX70, y ∈ wsX10_letter := (fun _ z => List.mem_cons_of_mem _ (List.mem_append_right _ z))
  have hin10 : ∀ y ∈ wsX100, y ∈ wsX10_letter := (fun _ z => List.mem_cons_of_mem _ (List.mem_append_left _ (List.mem_append_right _ z)))
  refine lv_iload_n hx hb dX10_letter_0 rfl (lv_at hl 1 rfl) ?_
  refine lv_if_ge (tgt := 11) hx hb dX10_letter_1 (by decide) (fun c1 => ?_) (fun c1 => ?_)
  · have h2 := pp_t c1 h
    clear h
    refine lv_iload_n hx hb dX10_letter_11 rfl (lv_at hl 1 rfl) ?_
    refine lv_sipush (v := 255) hx hb dX10_letter_12 (by decide) ?_
    obtain ⟨j3, ej3, h4⟩ := pp_lj_ex h2
    clear h2
    have hj3 : ∀ (a3 : Unit) (H : Heap) (locs : List Loc) (ls : Array Slot), j3 a3 = some res → cc_H g A pls q s H locs → lv_has ls 2 [(0, .ref (cc_ad g 0))] → W p l e (headSpec wsX10_letter rmX10_letter).room s m args below meth c H locs 0 0 Q (F0 m 28 ls []) := by
      intro a3 H locs ls h G hl
      have h5 := pp_jmp ej3 h
      clear h h4
      refine lv_aload_n hx hb dX10_letter_28 rfl (lv_at hl 0 rfl) ?_
      refine lv_bipush (v := -6) hx hb dX10_letter_29 (by decide) ?_
      obtain ⟨r6, hc6, h7⟩ := pp_ob_ex h5
      clear h5
      refine cc_cali (q2 := r6.2) rfl rfl (mo_main g) X G (x := q) rfl (ctX10_refused l g pls q _ hc6) (cwV 1 hts gX10_letter_X10_refused rfl rfl rfl (by decide +kernel) ⟨Nat.le_of_ble_eq_true rfl, Nat.le_of_ble_eq_true rfl⟩) (rest := []) rfl hl.1 rfl (Nat.le_of_ble_eq_true rfl) dX10_letter_31 (fun H locs G => ?_)
      exact cc_iretW cc_id X hr hlk rfl G h7 hQ dX10_letter_34
    refine lv_icmp_gt (tgt := 28) hx hb dX10_letter_15 (by decide) (fun c8 => ?_) (fun c8 => ?_)
    · have h9 := pp_t c8 h4
      clear h4
      exact hj3 _ H locs ls h9 G (lv_sub hl [0] rfl)
    · have h10 := pp_f c8 h4
      clear h4
      refine lv_aload_n hx hb dX10_letter_18 rfl (lv_at hl 0 rfl) ?_
      refine cc_get (mo_main g) X G (x := q) rfl hin10 0 (by decide) hf10 (v := .ref (cc_ad g 1)) rfl dX10_letter_19 ?_
      obtain ⟨r11, hc11, h12⟩ := pp_ob_ex h10
      clear h10
      refine cc_cali (q2 := q) (cc_pgT q) (cc_pgT q) (mo_text g) X G (x := q) rfl (ctX7_isFull l g pls q (cc_gT q) hc11) (cwV 0 hts gX10_letter_X7_isFull rfl rfl rfl (by decide +kernel) ⟨Nat.le_of_ble_eq_true rfl, Nat.le_of_ble_eq_true rfl⟩) (rest := []) rfl hl.1 rfl (Nat.le_of_ble_eq_true rfl) dX10_letter_22 (fun H locs G => ?_)
      refine lv_if_eq (tgt := 35) hx hb dX10_letter_25 (by decide) (fun c13 => ?_) (fun c13 => ?_)
      · have h14 := pp_t c13 h12
        clear h12
        refine lv_aload_n hx hb dX10_letter_35 rfl (lv_at hl 0 rfl) ?_
        refine cc_get (mo_main g) X G (x := q) rfl hin10 0 (by decide) hf10 (v := .ref (cc_ad g 1)) rfl dX10_letter_36 ?_
        refine lv_iload_n hx hb dX10_letter_39 rfl (lv_at hl 1 rfl) ?_
        refine lv_i2c hx hb dX10_letter_40 rfl ?_
        obtain ⟨r15, hc15, h16⟩ := pp_ob_ex h14
        clear h14
        obtain ⟨x17, ex17, h18⟩ := pp_lj_ex h16
        clear h16
        refine cc_calv (q2 := x17) (cc_pgT q) ex17.symm (mo_text g) X G (x := q) rfl (ctX7_append l g pls q (cc_gT q) _ hc15) (cwV 1 hts gX10_letter_X7_append rfl rfl rfl (by decide +kernel) ⟨Nat.le_of_ble_eq_true rfl, Nat.le_of_ble_eq_true rfl⟩) (rest := []) rfl hl.1 rfl (Nat.le_of_ble_eq_true rfl) dX10_letter_41 (fun H locs G => ?_)
        refine lv_aload_n hx hb dX10_letter_44 rfl (lv_at hl 0 rfl) ?_
        refine cc_get (mo_main g) X G (x := x17) rfl hin10 0 (by decide) hf10 (v := .ref (cc_ad g 1)) rfl dX10_letter_45 ?_
        refine cc_getN (mo_text g) X G (x := x17) rfl hin7 1 (by decide) (by decide +kernel) (v := .int ((cc_gT x17).1 1)) rfl dX10_letter_48 ?_
        exact cc_iretW cc_id X hr hlk rfl G h18 hQ dX10_letter_51
      · have h19 := pp_f c13 h12
        clear h12
        exact hj3 _ H locs ls h19 G (lv_sub hl [0] rfl)
  · have h20 := pp_f c1 h
    clear h
    refine lv_aload_n hx hb dX10_letter_4 rfl (lv_at hl 0 rfl) ?_
    refine lv_bipush (v := -4) hx hb dX10_letter_5 (by decide) ?_
    obtain ⟨r21, hc21, h22⟩ := pp_ob_ex h20
    clear h20
    refine cc_cali (q2 := r21.2) rfl rfl (mo_main g) X G (x := q) rfl (ctX10_refused l g pls q _ hc21) (cwV 1 hts gX10_letter_X10_refused rfl rfl rfl (by decide +kernel) ⟨Nat.le_of_ble_eq_true rfl, Nat.le_of_ble_eq_true rfl⟩) (rest := []) rfl hl.1 rfl (Nat.le_of_ble_eq_true rfl) dX10_letter_7 (fun H locs G => ?_)
    exact cc_iretW cc_id X hr hlk rfl G h22 hQ dX10_letter_10
noncomputable def C_player (q : cc_S) (v1 : Int32) (v2 : Int32) : Option (Int32 × cc_S) := pp_ob (K_isPlayer (cc_gC q 0) v1) (fun r1 => (if r1 = (0 : Int32) then pp_ob (C_refused q (-1 : Int32)) (fun r46 => some (r46.1, r46.2)) else (if v2 = (0 : Int32) then pp_ob (K_sideOf (cc_gC q 0) v1) (fun r8 => some (r8, q)) else (if v2 = (1 : Int32) then pp_ob (K_kindOf (cc_gC q 0) v1) (fun r13 => some (r13, q)) else (if v2 = (2 : Int32) then pp_ob (K_isIn (cc_gC q 0) v1) (fun r18 => (if r18 = (0 : Int32) then some ((0 : Int32), q) else some ((1 : Int32), q))) else (if v2 = (3 : Int32) then pp_ob (K_ballsOf (cc_gC q 0) v1) (fun r26 => some (r26, q)) else (if v2 = (4 : Int32) then pp_ob (K_aimOf (cc_gC q 0) v1) (fun r31 => some (r31, q)) else (if v2 = (5 : Int32) then pp_ob (K_dodgeOf (cc_gC q 0) v1) (fun r36 => some (r36, q)) else (if v2 = (6 : Int32) then pp_ob (K_graspOf (cc_gC q 0) v1) (fun r41 => some (r41, q)) else pp_ob (C_refused q (-2 : Int32)) (fun r43 => some (r43.1, r43.2)))))))))))
abbrev rmX10_player : Room := { frames := 4, cells := 0, slots := 0, locals := 84 }
set_option maxHeartbeats 4000000 in
set_option maxRecDepth 100000 in
theorem ctX10_player (l : Launch) (g : cc_G) (pls : va_W) (q : cc_S) (v1 : Int32) (v2 : Int32) {res : (Int32 × cc_S)} (h : C_player q v1 v2 = some res) : cc_Mi l yX10_player wsX10_player rmX10_player g pls [.ref (cc_ad g 0), .int v1, .int v2] q res.1 res.2 := by
  intro sz A hA
  unfold C_player at h
  refine cc_ofW hA (own := RX10) (by decide) rfl rfl (Nat.le_of_ble_eq_true rfl) ?_
  intro p e s m args below meth c ls X hr hlk G hl Q hQ
  have hx := X.1.1
  have hb := X.1.2.1
  have hown := X.1.2.2.2.1
  have hts := X.1.2.2.2.2
  refine (fun (key : ∀ (H : Heap) (locs : List Loc), cc_H g A pls q s H locs → W p l e (headSpec wsX10_player rmX10_player).room s m args below meth c H locs 0 0 Q (F0 m 0 ls [])) => key _ _ G) ?_
  clear G
  intro H locs G
  have hl : lv_has ls 3 [(0, .ref (cc_ad g 0)), (1, .int v1), (2, .int v2)] := hl
  have hf19 : Cond.fieldLink RX10 19 (TX10 1).1 (TX10 1).2.1 (TX10 1).2.2.1 ∈ wsX10_player := by decide +kernel
  have hin10 : ∀ y ∈ wsX100, y ∈ wsX10_player := (fun _ z => List.mem_cons_of_mem _ (List.mem_append_left _ (List.mem_append_left _ (List.mem_append_left _ (List.mem_append_left _ (List.mem_append_left _ (List.mem_append_left _ (List.mem_append_left _ (List.mem_append_left _ (List.mem_append_right _ z))))))))))
  refine lv_aload_n hx hb dX10_player_0 rfl (lv_at hl 0 rfl) ?_
  refine cc_get (mo_main g) X G (x := q) rfl hin10 1 (by decide) hf19 (v := .ref (cc_ad g (10 + 20 * 0))) rfl dX10_player_1 ?_
  refine lv_iload_n hx hb dX10_player_4 rfl (lv_at hl 1 rfl) ?_
  obtain ⟨r1, hc1, h2⟩ := pp_ob_ex h
  clear h
  refine cc_cali (q2 := q) (cc_pgC q 0) (cc_pgC q 0) (mo_crt g (c := 0) (by decide)) X G (x := q) rfl (ctX1_isPlayer l g pls q (k := 0) (by decide) (cc_gC q 0) _ hc1) (cwV 1 hts gX10_player_X1_isPlayer rfl rfl rfl (by decide +kernel) ⟨Nat.le_of_ble_eq_true rfl, Nat.le_of_ble_eq_true rfl⟩) (rest := []) rfl hl.1 rfl (Nat.le_of_ble_eq_true rfl) dX10_player_5 (fun H locs G => ?_)
  refine lv_if_ne (tgt := 17) hx hb dX10_player_8 (by decide) (fun c3 => ?_) (fun c3 => ?_)
  · have h4 := pp_f c3 h2
    clear h2
    refine lv_iload_n hx hb dX10_player_17 rfl (lv_at hl 2 rfl) ?_
    by_cases c5 : v2 = (0 : Int32)
    · have h6 := pp_t c5 h4
      clear h4
      refine lv_tableIn (off := 42) (tgt := 60) hx hb dX10_player_18 (by rw [c5]; decide) (by rw [c5]; decide) (by rw [c5]; decide) (by decide) ?_
      refine lv_aload_n hx hb dX10_player_60 rfl (lv_at hl 0 rfl) ?_
      refine cc_get (mo_main g) X G (x := q) rfl hin10 1 (by decide) hf19 (v := .ref (cc_ad g (10 + 20 * 0))) rfl dX10_player_61 ?_
      refine lv_iload_n hx hb dX10_player_64 rfl (lv_at hl 1 rfl) ?_
      obtain ⟨r8, hc8, h9⟩ := pp_ob_ex h6
      clear h6
      refine cc_cali (q2 := q) (cc_pgC q 0) (cc_pgC q 0) (mo_crt g (c := 0) (by decide)) X G (x := q) rfl (ctX1_sideOf l g pls q (k := 0) (by decide) (cc_gC q 0) _ hc8) (cwV 1 hts gX10_player_X1_sideOf rfl rfl rfl (by decide +kernel) ⟨Nat.le_of_ble_eq_true rfl, Nat.le_of_ble_eq_true rfl⟩) (rest := []) rfl hl.1 rfl (Nat.le_of_ble_eq_true rfl) dX10_player_65 (fun H locs G => ?_)
      exact cc_iretW cc_id X hr hlk rfl G h9 hQ dX10_player_68
    have h7 := pp_f c5 h4
    clear h4
    by_cases c10 : v2 = (1 : Int32)
    · have h11 := pp_t c10 h7
      clear h7
      refine lv_tableIn (off := 51) (tgt := 69) hx hb dX10_player_18 (by rw [c10]; decide) (by rw [c10]; decide) (by rw [c10]; decide) (by decide) ?_
      refine lv_aload_n hx hb dX10_player_69 rfl (lv_at hl 0 rfl) ?_
      refine cc_get (mo_main g) X G (x := q) rfl hin10 1 (by decide) hf19 (v := .ref (cc_ad g (10 + 20 * 0))) rfl dX10_player_70 ?_
      refine lv_iload_n hx hb dX10_player_73 rfl (lv_at hl 1 rfl) ?_
      obtain ⟨r13, hc13, h14⟩ := pp_ob_ex h11
      clear h11
      refine cc_cali (q2 := q) (cc_pgC q 0) (cc_pgC q 0) (mo_crt g (c := 0) (by decide)) X G (x := q) rfl (ctX1_kindOf l g pls q (k := 0) (by decide) (cc_gC q 0) _ hc13) (cwV 1 hts gX10_player_X1_kindOf rfl rfl rfl (by decide +kernel) ⟨Nat.le_of_ble_eq_true rfl, Nat.le_of_ble_eq_true rfl⟩) (rest := []) rfl hl.1 rfl (Nat.le_of_ble_eq_true rfl) dX10_player_74 (fun H locs G => ?_)
      exact cc_iretW cc_id X hr hlk rfl G h14 hQ dX10_player_77
    have h12 := pp_f c10 h7
    clear h7
    by_cases c15 : v2 = (2 : Int32)
    · have h16 := pp_t c15 h12
      clear h12
      refine lv_tableIn (off := 60) (tgt := 78) hx hb dX10_player_18 (by rw [c15]; decide) (by rw [c15]; decide) (by rw [c15]; decide) (by decide) ?_
      refine lv_aload_n hx hb dX10_player_78 rfl (lv_at hl 0 rfl) ?_
      refine cc_get (mo_main g) X G (x := q) rfl hin10 1 (by decide) hf19 (v := .ref (cc_ad g (10 + 20 * 0))) rfl dX10_player_79 ?_
      refine lv_iload_n hx hb dX10_player_82 rfl (lv_at hl 1 rfl) ?_
      obtain ⟨r18, hc18, h19⟩ := pp_ob_ex h16
      clear h16
      refine cc_cali (q2 := q) (cc_pgC q 0) (cc_pgC q 0) (mo_crt g (c := 0) (by decide)) X G (x := q) rfl (ctX1_isIn l g pls q (k := 0) (by decide) (cc_gC q 0) _ hc18) (cwV 1 hts gX10_player_X1_isIn rfl rfl rfl (by decide +kernel) ⟨Nat.le_of_ble_eq_true rfl, Nat.le_of_ble_eq_true rfl⟩) (rest := []) rfl hl.1 rfl (Nat.le_of_ble_eq_true rfl) dX10_player_83 (fun H locs G => ?_)
      refine lv_if_eq (tgt := 93) hx hb dX10_player_86 (by decide) (fun c20 => ?_) (fun c20 => ?_)
      · have h21 := pp_t c20 h19
        clear h19
        refine lv_iconst (v := 0) hx hb dX10_player_93 (by decide) ?_
        exact cc_iretW cc_id X hr hlk rfl G h21 hQ dX10_player_94
      · have h22 := pp_f c20 h19
        clear h19
        refine lv_iconst (v := 1) hx hb dX10_player_89 (by decide) ?_
        refine lv_goto (tgt := 94) hx hb dX10_player_90 (by decide) ?_
        exact cc_iretW cc_id X hr hlk rfl G h22 hQ dX10_player_94
    have h17 := pp_f c15 h12
    clear h12
    by_cases c23 : v2 = (3 : Int32)
    · have h24 := pp_t c23 h17
      clear h17
      refine lv_tableIn (off := 77) (tgt := 95) hx hb dX10_player_18 (by rw [c23]; decide) (by rw [c23]; decide) (by rw [c23]; decide) (by decide) ?_
      refine lv_aload_n hx hb dX10_player_95 rfl (lv_at hl 0 rfl) ?_
      refine cc_get (mo_main g) X G (x := q) rfl hin10 1 (by decide) hf19 (v := .ref (cc_ad g (10 + 20 * 0))) rfl dX10_player_96 ?_
      refine lv_iload_n hx hb dX10_player_99 rfl (lv_at hl 1 rfl) ?_
      obtain ⟨r26, hc26, h27⟩ := pp_ob_ex h24
      clear h24
      refine cc_cali (q2 := q) (cc_pgC q 0) (cc_pgC q 0) (mo_crt g (c := 0) (by decide)) X G (x := q) rfl (ctX1_ballsOf l g pls q (k := 0) (by decide) (cc_gC q 0) _ hc26) (cwV 1 hts gX10_player_X1_ballsOf rfl rfl rfl (by decide +kernel) ⟨Nat.le_of_ble_eq_true rfl, Nat.le_of_ble_eq_true rfl⟩) (rest := []) rfl hl.1 rfl (Nat.le_of_ble_eq_true rfl) dX10_player_100 (fun H locs G => ?_)
      exact cc_iretW cc_id X hr hlk rfl G h27 hQ dX10_player_103
    have h25 := pp_f c23 h17
    clear h17
    by_cases c28 : v2 = (4 : Int32)
    · have h29 := pp_t c28 h25
      clear h25
      refine lv_tableIn (off := 86) (tgt := 104) hx hb dX10_player_18 (by rw [c28]; decide) (by rw [c28]; decide) (by rw [c28]; decide) (by decide) ?_
      refine lv_aload_n hx hb dX10_player_104 rfl (lv_at hl 0 rfl) ?_
      refine cc_get (mo_main g) X G (x := q) rfl hin10 1 (by decide) hf19 (v := .ref (cc_ad g (10 + 20 * 0))) rfl dX10_player_105 ?_
      refine lv_iload_n hx hb dX10_player_108 rfl (lv_at hl 1 rfl) ?_
      obtain ⟨r31, hc31, h32⟩ := pp_ob_ex h29
      clear h29
      refine cc_cali (q2 := q) (cc_pgC q 0) (cc_pgC q 0) (mo_crt g (c := 0) (by decide)) X G (x := q) rfl (ctX1_aimOf l g pls q (k := 0) (by decide) (cc_gC q 0) _ hc31) (cwV 1 hts gX10_player_X1_aimOf rfl rfl rfl (by decide +kernel) ⟨Nat.le_of_ble_eq_true rfl, Nat.le_of_ble_eq_true rfl⟩) (rest := []) rfl hl.1 rfl (Nat.le_of_ble_eq_true rfl) dX10_player_109 (fun H locs G => ?_)
      exact cc_iretW cc_id X hr hlk rfl G h32 hQ dX10_player_112
    have h30 := pp_f c28 h25
    clear h25
    by_cases c33 : v2 = (5 : Int32)
    · have h34 := pp_t c33 h30
      clear h30
      refine lv_tableIn (off := 95) (tgt := 113) hx hb dX10_player_18 (by rw [c33]; decide) (by rw [c33]; decide) (by rw [c33]; decide) (by decide) ?_
      refine lv_aload_n hx hb dX10_player_113 rfl (lv_at hl 0 rfl) ?_
      refine cc_get (mo_main g) X G (x := q) rfl hin10 1 (by decide) hf19 (v := .ref (cc_ad g (10 + 20 * 0))) rfl dX10_player_114 ?_
      refine lv_iload_n hx hb dX10_player_117 rfl (lv_at hl 1 rfl) ?_
      obtain ⟨r36, hc36, h37⟩ := pp_ob_ex h34
      clear h34
      refine cc_cali (q2 := q) (cc_pgC q 0) (cc_pgC q 0) (mo_crt g (c := 0) (by decide)) X G (x := q) rfl (ctX1_dodgeOf l g pls q (k := 0) (by decide) (cc_gC q 0) _ hc36) (cwV 1 hts gX10_player_X1_dodgeOf rfl rfl rfl (by decide +kernel) ⟨Nat.le_of_ble_eq_true rfl, Nat.le_of_ble_eq_true rfl⟩) (rest := []) rfl hl.1 rfl (Nat.le_of_ble_eq_true rfl) dX10_player_118 (fun H locs G => ?_)
      exact cc_iretW cc_id X hr hlk rfl G h37 hQ dX10_player_121
    have h35 := pp_f c33 h30
    clear h30
    by_cases c38 : v2 = (6 : Int32)
    · have h39 := pp_t c38 h35
      clear h35
      refine lv_tableIn (off := 104) (tgt := 122) hx hb dX10_player_18 (by rw [c38]; decide) (by rw [c38]; decide) (by rw [c38]; decide) (by decide) ?_
      refine lv_aload_n hx hb dX10_player_122 rfl (lv_at hl 0 rfl) ?_
      refine cc_get (mo_main g) X G (x := q) rfl hin10 1 (by decide) hf19 (v := .ref (cc_ad g (10 + 20 * 0))) rfl dX10_player_123 ?_
      refine lv_iload_n hx hb dX10_player_126 rfl (lv_at hl 1 rfl) ?_
      obtain ⟨r41, hc41, h42⟩ := pp_ob_ex h39
      clear h39
      refine cc_cali (q2 := q) (cc_pgC q 0) (cc_pgC q 0) (mo_crt g (c := 0) (by decide)) X G (x := q) rfl (ctX1_graspOf l g pls q (k := 0) (by decide) (cc_gC q 0) _ hc41) (cwV 1 hts gX10_player_X1_graspOf rfl rfl rfl (by decide +kernel) ⟨Nat.le_of_ble_eq_true rfl, Nat.le_of_ble_eq_true rfl⟩) (rest := []) rfl hl.1 rfl (Nat.le_of_ble_eq_true rfl) dX10_player_127 (fun H locs G => ?_)
      exact cc_iretW cc_id X hr hlk rfl G h42 hQ dX10_player_130
    have h40 := pp_f c38 h35
    clear h35
    refine lv_tableOut (tgt := 131) hx hb dX10_player_18 (by have n0 := lv_neT c5 (a := 0) (by decide); have n1 := lv_neT c10 (a := 1) (by decide); have n2 := lv_neT c15 (a := 2) (by decide); have n3 := lv_neT c23 (a := 3) (by decide); have n4 := lv_neT c28 (a := 4) (by decide); have n5 := lv_neT c33 (a := 5) (by decide); have n6 := lv_neT c38 (a := 6) (by decide); omega) (by decide) ?_
    refine lv_aload_n hx hb dX10_player_131 rfl (lv_at hl 0 rfl) ?_
    refine lv_bipush (v := -2) hx hb dX10_player_132 (by decide) ?_
    obtain ⟨r43, hc43, h44⟩ := pp_ob_ex h40
    clear h40
    refine cc_cali (q2 := r43.2) rfl rfl (mo_main g) X G (x := q) rfl (ctX10_refused l g pls q _ hc43) (cwV 1 hts gX10_player_X10_refused rfl rfl rfl (by decide +kernel) ⟨Nat.le_of_ble_eq_true rfl, Nat.le_of_ble_eq_true rfl⟩) (rest := []) rfl hl.1 rfl (Nat.le_of_ble_eq_true rfl) dX10_player_134 (fun H locs G => ?_)
    exact cc_iretW cc_id X hr hlk rfl G h44 hQ dX10_player_137
  · have h45 := pp_t c3 h2
    clear h2
    refine lv_aload_n hx hb dX10_player_11 rfl (lv_at hl 0 rfl) ?_
    refine lv_iconst (v := -1) hx hb dX10_player_12 (by decide) ?_
    obtain ⟨r46, hc46, h47⟩ := pp_ob_ex h45
    clear h45
    refine cc_cali (q2 := r46.2) rfl rfl (mo_main g) X G (x := q) rfl (ctX10_refused l g pls q _ hc46) (cwV 1 hts gX10_player_X10_refused rfl rfl rfl (by decide +kernel) ⟨Nat.le_of_ble_eq_true rfl, Nat.le_of_ble_eq_true rfl⟩) (rest := []) rfl hl.1 rfl (Nat.le_of_ble_eq_true rfl) dX10_player_13 (fun H locs G => ?_)
    exact cc_iretW cc_id X hr hlk rfl G h47 hQ dX10_player_16
noncomputable def C_ball (q : cc_S) (v1 : Int32) (v2 : Int32) : Option (Int32 × cc_S) := pp_ob (C_isBall v1) (fun r1 => (if r1 = (0 : Int32) then pp_ob (C_refused q (-1 : Int32)) (fun r23 => some (r23.1, r23.2)) else (if v2 = (0 : Int32) then pp_ob (K_holderOf (cc_gC q 0) v1) (fun r8 => some (r8, q)) else (if v2 = (1 : Int32) then pp_ob (K_floorOf (cc_gC q 0) v1) (fun r13 => some (r13, q)) else (if v2 = (2 : Int32) then pp_ob (K_heldOf (cc_gC q 0) v1) (fun r18 => some (r18, q)) else pp_ob (C_refused q (-2 : Int32)) (fun r20 => some (r20.1, r20.2)))))))
abbrev rmX10_ball : Room := { frames := 2, cells := 0, slots := 0, locals := 41 }
set_option maxHeartbeats 4000000 in
set_option maxRecDepth 100000 in
theorem ctX10_ball (l : Launch) (g : cc_G) (pls : va_W) (q : cc_S) (v1 : Int32) (v2 : Int32) {res : (Int32 × cc_S)} (h : C_ball q v1 v2 = some res) : cc_Mi l yX10_ball wsX10_ball rmX10_ball g pls [.ref (cc_ad g 0), .int v1, .int v2] q res.1 res.2 := by
  intro sz A hA
  unfold C_ball at h
  refine cc_ofW hA (own := RX10) (by decide) rfl rfl (Nat.le_of_ble_eq_true rfl) ?_
  intro p e s m args below meth c ls X hr hlk G hl Q hQ
  have hx := X.1.1
  have hb := X.1.2.1
  have hown := X.1.2.2.2.1
  have hts := X.1.2.2.2.2
  refine (fun (key : ∀ (H : Heap) (locs : List Loc), cc_H g A pls q s H locs → W p l e (headSpec wsX10_ball rmX10_ball).room s m args below meth c H locs 0 0 Q (F0 m 0 ls [])) => key _ _ G) ?_
  clear G
  intro H locs G
  have hl : lv_has ls 3 [(0, .ref (cc_ad g 0)), (1, .int v1), (2, .int v2)] := hl
  have hf19 : Cond.fieldLink RX10 19 (TX10 1).1 (TX10 1).2.1 (TX10 1).2.2.1 ∈ wsX10_ball := by decide +kernel
  have hin10 : ∀ y ∈ wsX100, y ∈ wsX10_ball := (fun _ z => List.mem_cons_of_mem _ (List.mem_append_left _ (List.mem_append_right _ z)))
  refine lv_iload_n hx hb dX10_ball_0 rfl (lv_at hl 1 rfl) ?_
  obtain ⟨r1, hc1, h2⟩ := pp_ob_ex h
  clear h
  refine cc_csi X G (ctX10_isBall l _ hc1) (va_cwS 1 hts gX10_ball_X10_isBall rfl rfl rfl (by decide +kernel) ⟨Nat.le_of_ble_eq_true rfl, Nat.le_of_ble_eq_true rfl⟩) (rest := []) rfl hl.1 rfl (Nat.le_of_ble_eq_true rfl) dX10_ball_1 (fun H locs G => ?_)
  refine lv_if_ne (tgt := 13) hx hb dX10_ball_4 (by decide) (fun c3 => ?_) (fun c3 => ?_)
  · have h4 := pp_f c3 h2
    clear h2
    refine lv_iload_n hx hb dX10_ball_13 rfl (lv_at hl 2 rfl) ?_
    by_cases c5 : v2 = (0 : Int32)
    · have h6 := pp_t c5 h4
      clear h4
      refine lv_tableIn (off := 26) (tgt := 40) hx hb dX10_ball_14 (by rw [c5]; decide) (by rw [c5]; decide) (by rw [c5]; decide) (by decide) ?_
      refine lv_aload_n hx hb dX10_ball_40 rfl (lv_at hl 0 rfl) ?_
      refine cc_get (mo_main g) X G (x := q) rfl hin10 1 (by decide) hf19 (v := .ref (cc_ad g (10 + 20 * 0))) rfl dX10_ball_41 ?_
      refine lv_iload_n hx hb dX10_ball_44 rfl (lv_at hl 1 rfl) ?_
      obtain ⟨r8, hc8, h9⟩ := pp_ob_ex h6
      clear h6
      refine cc_cali (q2 := q) (cc_pgC q 0) (cc_pgC q 0) (mo_crt g (c := 0) (by decide)) X G (x := q) rfl (ctX1_holderOf l g pls q (k := 0) (by decide) (cc_gC q 0) _ hc8) (cwV 1 hts gX10_ball_X1_holderOf rfl rfl rfl (by decide +kernel) ⟨Nat.le_of_ble_eq_true rfl, Nat.le_of_ble_eq_true rfl⟩) (rest := []) rfl hl.1 rfl (Nat.le_of_ble_eq_true rfl) dX10_ball_45 (fun H locs G => ?_)
      exact cc_iretW cc_id X hr hlk rfl G h9 hQ dX10_ball_48
    have h7 := pp_f c5 h4
    clear h4
    by_cases c10 : v2 = (1 : Int32)
    · have h11 := pp_t c10 h7
      clear h7
      refine lv_tableIn (off := 35) (tgt := 49) hx hb dX10_ball_14 (by rw [c10]; decide) (by rw [c10]; decide) (by rw [c10]; decide) (by decide) ?_
      refine lv_aload_n hx hb dX10_ball_49 rfl (lv_at hl 0 rfl) ?_
      refine cc_get (mo_main g) X G (x := q) rfl hin10 1 (by decide) hf19 (v := .ref (cc_ad g (10 + 20 * 0))) rfl dX10_ball_50 ?_
      refine lv_iload_n hx hb dX10_ball_53 rfl (lv_at hl 1 rfl) ?_
      obtain ⟨r13, hc13, h14⟩ := pp_ob_ex h11
      clear h11
      refine cc_cali (q2 := q) (cc_pgC q 0) (cc_pgC q 0) (mo_crt g (c := 0) (by decide)) X G (x := q) rfl (ctX1_floorOf l g pls q (k := 0) (by decide) (cc_gC q 0) _ hc13) (cwV 1 hts gX10_ball_X1_floorOf rfl rfl rfl (by decide +kernel) ⟨Nat.le_of_ble_eq_true rfl, Nat.le_of_ble_eq_true rfl⟩) (rest := []) rfl hl.1 rfl (Nat.le_of_ble_eq_true rfl) dX10_ball_54 (fun H locs G => ?_)
      exact cc_iretW cc_id X hr hlk rfl G h14 hQ dX10_ball_57
    have h12 := pp_f c10 h7
    clear h7
    by_cases c15 : v2 = (2 : Int32)
    · have h16 := pp_t c15 h12
      clear h12
      refine lv_tableIn (off := 44) (tgt := 58) hx hb dX10_ball_14 (by rw [c15]; decide) (by rw [c15]; decide) (by rw [c15]; decide) (by decide) ?_
      refine lv_aload_n hx hb dX10_ball_58 rfl (lv_at hl 0 rfl) ?_
      refine cc_get (mo_main g) X G (x := q) rfl hin10 1 (by decide) hf19 (v := .ref (cc_ad g (10 + 20 * 0))) rfl dX10_ball_59 ?_
      refine lv_iload_n hx hb dX10_ball_62 rfl (lv_at hl 1 rfl) ?_
      obtain ⟨r18, hc18, h19⟩ := pp_ob_ex h16
      clear h16
      refine cc_cali (q2 := q) (cc_pgC q 0) (cc_pgC q 0) (mo_crt g (c := 0) (by decide)) X G (x := q) rfl (ctX1_heldOf l g pls q (k := 0) (by decide) (cc_gC q 0) _ hc18) (cwV 1 hts gX10_ball_X1_heldOf rfl rfl rfl (by decide +kernel) ⟨Nat.le_of_ble_eq_true rfl, Nat.le_of_ble_eq_true rfl⟩) (rest := []) rfl hl.1 rfl (Nat.le_of_ble_eq_true rfl) dX10_ball_63 (fun H locs G => ?_)
      exact cc_iretW cc_id X hr hlk rfl G h19 hQ dX10_ball_66
    have h17 := pp_f c15 h12
    clear h12
    refine lv_tableOut (tgt := 67) hx hb dX10_ball_14 (by have n0 := lv_neT c5 (a := 0) (by decide); have n1 := lv_neT c10 (a := 1) (by decide); have n2 := lv_neT c15 (a := 2) (by decide); omega) (by decide) ?_
    refine lv_aload_n hx hb dX10_ball_67 rfl (lv_at hl 0 rfl) ?_
    refine lv_bipush (v := -2) hx hb dX10_ball_68 (by decide) ?_
    obtain ⟨r20, hc20, h21⟩ := pp_ob_ex h17
    clear h17
    refine cc_cali (q2 := r20.2) rfl rfl (mo_main g) X G (x := q) rfl (ctX10_refused l g pls q _ hc20) (cwV 1 hts gX10_ball_X10_refused rfl rfl rfl (by decide +kernel) ⟨Nat.le_of_ble_eq_true rfl, Nat.le_of_ble_eq_true rfl⟩) (rest := []) rfl hl.1 rfl (Nat.le_of_ble_eq_true rfl) dX10_ball_70 (fun H locs G => ?_)
    exact cc_iretW cc_id X hr hlk rfl G h21 hQ dX10_ball_73
  · have h22 := pp_t c3 h2
    clear h2
    refine lv_aload_n hx hb dX10_ball_7 rfl (lv_at hl 0 rfl) ?_
    refine lv_iconst (v := -1) hx hb dX10_ball_8 (by decide) ?_
    obtain ⟨r23, hc23, h24⟩ := pp_ob_ex h22
    clear h22
    refine cc_cali (q2 := r23.2) rfl rfl (mo_main g) X G (x := q) rfl (ctX10_refused l g pls q _ hc23) (cwV 1 hts gX10_ball_X10_refused rfl rfl rfl (by decide +kernel) ⟨Nat.le_of_ble_eq_true rfl, Nat.le_of_ble_eq_true rfl⟩) (rest := []) rfl hl.1 rfl (Nat.le_of_ble_eq_true rfl) dX10_ball_9 (fun H locs G => ?_)
    exact cc_iretW cc_id X hr hlk rfl G h24 hQ dX10_ball_12
noncomputable def C_isEnd (v0 : Int32) : Option Int32 := pp_lj (fun (a1 : Unit) => (some (0 : Int32) : Option Int32)) (fun j1 => (if v0 < (0 : Int32) then j1 () else (if (3 : Int32) ≤ v0 then j1 () else some (1 : Int32))))
abbrev rmX10_isEnd : Room := { frames := 0, cells := 0, slots := 0, locals := 0 }
set_option maxHeartbeats 4000000 in
set_option maxRecDepth 100000 in
theorem ctX10_isEnd (l : Launch) (v0 : Int32) {res : Int32} (h : C_isEnd v0 = some res) : xs_Mi l yX10_isEnd wsX10_isEnd rmX10_isEnd [.int v0] res := by
  intro sz
  unfold C_isEnd at h
  refine xs_ofW (own := RX10) (by decide) rfl rfl (Nat.le_of_ble_eq_true rfl) ?_
  intro p e s m args below meth c ls X hr hlk hl Q hQ
  have hx := X.1
  have hb := X.2.1
  have hown := X.2.2.2.1
  have hts := X.2.2.2.2
  have hl : lv_has ls 1 [(0, .int v0)] := hl
  refine lv_iload_n hx hb dX10_isEnd_0 rfl (lv_at hl 0 rfl) ?_
  obtain ⟨j1, ej1, h2⟩ := pp_lj_ex h
  clear h
  have hj1 : ∀ (a1 : Unit) (ls : Array Slot), j1 a1 = some res → lv_has ls 1 [] → W p l e (headSpec wsX10_isEnd rmX10_isEnd).room s m args below meth c s.heap [] 0 0 Q (F0 m 13 ls []) := by
    intro a1 ls h hl
    have h3 := pp_jmp ej1 h
    clear h h2
    refine lv_iconst (v := 0) hx hb dX10_isEnd_13 (by decide) ?_
    exact xs_iret hx hb hr hlk rfl h3 hQ dX10_isEnd_14
  refine lv_if_lt (tgt := 13) hx hb dX10_isEnd_1 (by decide) (fun c4 => ?_) (fun c4 => ?_)
  · have h5 := pp_t c4 h2
    clear h2
    exact hj1 _ ls h5 (lv_sub hl [] rfl)
  · have h6 := pp_f c4 h2
    clear h2
    refine lv_iload_n hx hb dX10_isEnd_4 rfl (lv_at hl 0 rfl) ?_
    refine lv_iconst (v := 3) hx hb dX10_isEnd_5 (by decide) ?_
    refine lv_icmp_ge (tgt := 13) hx hb dX10_isEnd_6 (by decide) (fun c7 => ?_) (fun c7 => ?_)
    · have h8 := pp_t c7 h6
      clear h6
      exact hj1 _ ls h8 (lv_sub hl [] rfl)
    · have h9 := pp_f c7 h6
      clear h6
      refine lv_iconst (v := 1) hx hb dX10_isEnd_9 (by decide) ?_
      refine lv_goto (tgt := 14) hx hb dX10_isEnd_10 (by decide) ?_
      exact xs_iret hx hb hr hlk rfl h9 hQ dX10_isEnd_14
noncomputable def C_odds (q : cc_S) (v1 : Int32) (v2 : Int32) (v3 : Int32) (v4 : Int32) : Option (Int32 × cc_S) := pp_ob (K_isPlayer (cc_gC q 0) v1) (fun r1 => pp_lj (fun (a3 : Unit) => (pp_ob (C_refused q (-1 : Int32)) (fun r6 => some (r6.1, r6.2)) : Option (Int32 × cc_S))) (fun j3 => (if r1 = (0 : Int32) then j3 () else pp_ob (K_isPlayer (cc_gC q 0) v2) (fun r11 => (if r11 = (0 : Int32) then j3 () else pp_ob (C_isHow v3) (fun r15 => pp_lj (fun (a17 : Unit) => (pp_ob (C_refused q (-2 : Int32)) (fun r20 => some (r20.1, r20.2)) : Option (Int32 × cc_S))) (fun j17 => (if r15 = (0 : Int32) then j17 () else pp_ob (C_isEnd v4) (fun r25 => (if r25 = (0 : Int32) then j17 () else pp_ob (K_areOpposed (cc_gC q 0) v1 v2) (fun r29 => (if r29 = (0 : Int32) then pp_ob (C_refused q (-3 : Int32)) (fun r44 => some (r44.1, r44.2)) else pp_ob (K_hitOf (cc_gC q 0) v1 v2 v3) (fun r33 => pp_ob (K_caughtOf (cc_gC q 0) v2 v3) (fun r35 => (if v4 = (0 : Int32) then some (r33, q) else (if v4 = (1 : Int32) then some (r35, q) else some ((((40 : Int32) - r33) - r35), q)))))))))))))))))
abbrev rmX10_odds : Room := { frames := 5, cells := 0, slots := 0, locals := 107 }
set_option maxHeartbeats 4000000 in
set_option maxRecDepth 100000 in
theorem ctX10_odds (l : Launch) (g : cc_G) (pls : va_W) (q : cc_S) (v1 : Int32) (v2 : Int32) (v3 : Int32) (v4 : Int32) {res : (Int32 × cc_S)} (h : C_odds q v1 v2 v3 v4 = some res) : cc_Mi l yX10_odds wsX10_odds rmX10_odds g pls [.ref (cc_ad g 0), .int v1, .int v2, .int v3, .int v4] q res.1 res.2 := by
  intro sz A hA
  unfold C_odds at h
  refine cc_ofW hA (own := RX10) (by decide) rfl rfl (Nat.le_of_ble_eq_true rfl) ?_
  intro p e s m args below meth c ls X hr hlk G hl Q hQ
  have hx := X.1.1
  have hb := X.1.2.1
  have hown := X.1.2.2.2.1
  have hts := X.1.2.2.2.2
  refine (fun (key : ∀ (H : Heap) (locs : List Loc), cc_H g A pls q s H locs → W p l e (headSpec wsX10_odds rmX10_odds).room s m args below meth c H locs 0 0 Q (F0 m 0 ls [])) => key _ _ G) ?_
  clear G
  intro H locs G
  have hl : lv_has ls 7 [(0, .ref (cc_ad g 0)), (1, .int v1), (2, .int v2), (3, .int v3), (4, .int v4)] := hl
  have hf19 : Cond.fieldLink RX10 19 (TX10 1).1 (TX10 1).2.1 (TX10 1).2.2.1 ∈ wsX10_odds := by decide +kernel
  have hin10 : ∀ y ∈ wsX100, y ∈ wsX10_odds := (fun _ z => List.mem_cons_of_mem _ (List.mem_append_left _ (List.mem_append_left _ (List.mem_append_left _ (List.mem_append_left _ (List.mem_append_left _ (List.mem_append_left _ (List.mem_append_left _ (List.mem_append_left _ (List.mem_append_right _ z))))))))))
  refine lv_aload_n hx hb dX10_odds_0 rfl (lv_at hl 0 rfl) ?_
  refine cc_get (mo_main g) X G (x := q) rfl hin10 1 (by decide) hf19 (v := .ref (cc_ad g (10 + 20 * 0))) rfl dX10_odds_1 ?_
  refine lv_iload_n hx hb dX10_odds_4 rfl (lv_at hl 1 rfl) ?_
  obtain ⟨r1, hc1, h2⟩ := pp_ob_ex h
  clear h
  refine cc_cali (q2 := q) (cc_pgC q 0) (cc_pgC q 0) (mo_crt g (c := 0) (by decide)) X G (x := q) rfl (ctX1_isPlayer l g pls q (k := 0) (by decide) (cc_gC q 0) _ hc1) (cwV 1 hts gX10_odds_X1_isPlayer rfl rfl rfl (by decide +kernel) ⟨Nat.le_of_ble_eq_true rfl, Nat.le_of_ble_eq_true rfl⟩) (rest := []) rfl hl.1 rfl (Nat.le_of_ble_eq_true rfl) dX10_odds_5 (fun H locs G => ?_)
  obtain ⟨j3, ej3, h4⟩ := pp_lj_ex h2
  clear h2
  have hj3 : ∀ (a3 : Unit) (H : Heap) (locs : List Loc) (ls : Array Slot), j3 a3 = some res → cc_H g A pls q s H locs → lv_has ls 7 [(0, .ref (cc_ad g 0))] → W p l e (headSpec wsX10_odds rmX10_odds).room s m args below meth c H locs 0 0 Q (F0 m 22 ls []) := by
    intro a3 H locs ls h G hl
    have h5 := pp_jmp ej3 h
    clear h h4
    refine lv_aload_n hx hb dX10_odds_22 rfl (lv_at hl 0 rfl) ?_
    refine lv_iconst (v := -1) hx hb dX10_odds_23 (by decide) ?_
    obtain ⟨r6, hc6, h7⟩ := pp_ob_ex h5
    clear h5
    refine cc_cali (q2 := r6.2) rfl rfl (mo_main g) X G (x := q) rfl (ctX10_refused l g pls q _ hc6) (cwV 1 hts gX10_odds_X10_refused rfl rfl rfl (by decide +kernel) ⟨Nat.le_of_ble_eq_true rfl, Nat.le_of_ble_eq_true rfl⟩) (rest := []) rfl hl.1 rfl (Nat.le_of_ble_eq_true rfl) dX10_odds_24 (fun H locs G => ?_)
    exact cc_iretW cc_id X hr hlk rfl G h7 hQ dX10_odds_27
  refine lv_if_eq (tgt := 22) hx hb dX10_odds_8 (by decide) (fun c8 => ?_) (fun c8 => ?_)
  · have h9 := pp_t c8 h4
    clear h4
    exact hj3 _ H locs ls h9 G (lv_sub hl [0] rfl)
  · have h10 := pp_f c8 h4
    clear h4
    refine lv_aload_n hx hb dX10_odds_11 rfl (lv_at hl 0 rfl) ?_
    refine cc_get (mo_main g) X G (x := q) rfl hin10 1 (by decide) hf19 (v := .ref (cc_ad g (10 + 20 * 0))) rfl dX10_odds_12 ?_
    refine lv_iload_n hx hb dX10_odds_15 rfl (lv_at hl 2 rfl) ?_
    obtain ⟨r11, hc11, h12⟩ := pp_ob_ex h10
    clear h10
    refine cc_cali (q2 := q) (cc_pgC q 0) (cc_pgC q 0) (mo_crt g (c := 0) (by decide)) X G (x := q) rfl (ctX1_isPlayer l g pls q (k := 0) (by decide) (cc_gC q 0) _ hc11) (cwV 1 hts gX10_odds_X1_isPlayer rfl rfl rfl (by decide +kernel) ⟨Nat.le_of_ble_eq_true rfl, Nat.le_of_ble_eq_true rfl⟩) (rest := []) rfl hl.1 rfl (Nat.le_of_ble_eq_true rfl) dX10_odds_16 (fun H locs G => ?_)
    refine lv_if_ne (tgt := 28) hx hb dX10_odds_19 (by decide) (fun c13 => ?_) (fun c13 => ?_)
    · have h14 := pp_f c13 h12
      clear h12
      refine lv_iload_n hx hb dX10_odds_28 rfl (lv_at hl 3 rfl) ?_
      obtain ⟨r15, hc15, h16⟩ := pp_ob_ex h14
      clear h14
      refine cc_csi X G (ctX10_isHow l _ hc15) (va_cwS 1 hts gX10_odds_X10_isHow rfl rfl rfl (by decide +kernel) ⟨Nat.le_of_ble_eq_true rfl, Nat.le_of_ble_eq_true rfl⟩) (rest := []) rfl hl.1 rfl (Nat.le_of_ble_eq_true rfl) dX10_odds_29 (fun H locs G => ?_)
      obtain ⟨j17, ej17, h18⟩ := pp_lj_ex h16
      clear h16
      have hj17 : ∀ (a17 : Unit) (H : Heap) (locs : List Loc) (ls : Array Slot), j17 a17 = some res → cc_H g A pls q s H locs → lv_has ls 7 [(0, .ref (cc_ad g 0))] → W p l e (headSpec wsX10_odds rmX10_odds).room s m args below meth c H locs 0 0 Q (F0 m 43 ls []) := by
        intro a17 H locs ls h G hl
        have h19 := pp_jmp ej17 h
        clear h h18
        refine lv_aload_n hx hb dX10_odds_43 rfl (lv_at hl 0 rfl) ?_
        refine lv_bipush (v := -2) hx hb dX10_odds_44 (by decide) ?_
        obtain ⟨r20, hc20, h21⟩ := pp_ob_ex h19
        clear h19
        refine cc_cali (q2 := r20.2) rfl rfl (mo_main g) X G (x := q) rfl (ctX10_refused l g pls q _ hc20) (cwV 1 hts gX10_odds_X10_refused rfl rfl rfl (by decide +kernel) ⟨Nat.le_of_ble_eq_true rfl, Nat.le_of_ble_eq_true rfl⟩) (rest := []) rfl hl.1 rfl (Nat.le_of_ble_eq_true rfl) dX10_odds_46 (fun H locs G => ?_)
        exact cc_iretW cc_id X hr hlk rfl G h21 hQ dX10_odds_49
      refine lv_if_eq (tgt := 43) hx hb dX10_odds_32 (by decide) (fun c22 => ?_) (fun c22 => ?_)
      · have h23 := pp_t c22 h18
        clear h18
        exact hj17 _ H locs ls h23 G (lv_sub hl [0] rfl)
      · have h24 := pp_f c22 h18
        clear h18
        refine lv_iload hx hb dX10_odds_35 (lv_at hl 4 rfl) ?_
        obtain ⟨r25, hc25, h26⟩ := pp_ob_ex h24
        clear h24
        refine cc_csi X G (ctX10_isEnd l _ hc25) (va_cwS 1 hts gX10_odds_X10_isEnd rfl rfl rfl (by decide +kernel) ⟨Nat.le_of_ble_eq_true rfl, Nat.le_of_ble_eq_true rfl⟩) (rest := []) rfl hl.1 rfl (Nat.le_of_ble_eq_true rfl) dX10_odds_37 (fun H locs G => ?_)
        refine lv_if_ne (tgt := 50) hx hb dX10_odds_40 (by decide) (fun c27 => ?_) (fun c27 => ?_)
        · have h28 := pp_f c27 h26
          clear h26
          refine lv_aload_n hx hb dX10_odds_50 rfl (lv_at hl 0 rfl) ?_
          refine cc_get (mo_main g) X G (x := q) rfl hin10 1 (by decide) hf19 (v := .ref (cc_ad g (10 + 20 * 0))) rfl dX10_odds_51 ?_
          refine lv_iload_n hx hb dX10_odds_54 rfl (lv_at hl 1 rfl) ?_
          refine lv_iload_n hx hb dX10_odds_55 rfl (lv_at hl 2 rfl) ?_
          obtain ⟨r29, hc29, h30⟩ := pp_ob_ex h28
          clear h28
          refine cc_cali (q2 := q) (cc_pgC q 0) (cc_pgC q 0) (mo_crt g (c := 0) (by decide)) X G (x := q) rfl (ctX1_areOpposed l g pls q (k := 0) (by decide) (cc_gC q 0) _ _ hc29) (cwV 2 hts gX10_odds_X1_areOpposed rfl rfl rfl (by decide +kernel) ⟨Nat.le_of_ble_eq_true rfl, Nat.le_of_ble_eq_true rfl⟩) (rest := []) rfl hl.1 rfl (Nat.le_of_ble_eq_true rfl) dX10_odds_56 (fun H locs G => ?_)
          refine lv_if_ne (tgt := 69) hx hb dX10_odds_59 (by decide) (fun c31 => ?_) (fun c31 => ?_)
          · have h32 := pp_f c31 h30
            clear h30
            refine lv_aload_n hx hb dX10_odds_69 rfl (lv_at hl 0 rfl) ?_
            refine cc_get (mo_main g) X G (x := q) rfl hin10 1 (by decide) hf19 (v := .ref (cc_ad g (10 + 20 * 0))) rfl dX10_odds_70 ?_
            refine lv_iload_n hx hb dX10_odds_73 rfl (lv_at hl 1 rfl) ?_
            refine lv_iload_n hx hb dX10_odds_74 rfl (lv_at hl 2 rfl) ?_
            refine lv_iload_n hx hb dX10_odds_75 rfl (lv_at hl 3 rfl) ?_
            obtain ⟨r33, hc33, h34⟩ := pp_ob_ex h32
            clear h32
            refine cc_cali (q2 := q) (cc_pgC q 0) (cc_pgC q 0) (mo_crt g (c := 0) (by decide)) X G (x := q) rfl (ctX1_hitOf l g pls q (k := 0) (by decide) (cc_gC q 0) _ _ _ hc33) (cwV 3 hts gX10_odds_X1_hitOf rfl rfl rfl (by decide +kernel) ⟨Nat.le_of_ble_eq_true rfl, Nat.le_of_ble_eq_true rfl⟩) (rest := []) rfl hl.1 rfl (Nat.le_of_ble_eq_true rfl) dX10_odds_76 (fun H locs G => ?_)
            refine lv_istore (lv' := [(5, .int r33), (0, .ref (cc_ad g 0)), (1, .int v1), (2, .int v2), (3, .int v3), (4, .int v4)]) hx hb dX10_odds_79 hl (by decide) rfl (fun ls hl => ?_)
            refine lv_aload_n hx hb dX10_odds_81 rfl (lv_at hl 1 rfl) ?_
            refine cc_get (mo_main g) X G (x := q) rfl hin10 1 (by decide) hf19 (v := .ref (cc_ad g (10 + 20 * 0))) rfl dX10_odds_82 ?_
            refine lv_iload_n hx hb dX10_odds_85 rfl (lv_at hl 3 rfl) ?_
            refine lv_iload_n hx hb dX10_odds_86 rfl (lv_at hl 4 rfl) ?_
            obtain ⟨r35, hc35, h36⟩ := pp_ob_ex h34
            clear h34
            refine cc_cali (q2 := q) (cc_pgC q 0) (cc_pgC q 0) (mo_crt g (c := 0) (by decide)) X G (x := q) rfl (ctX1_caughtOf l g pls q (k := 0) (by decide) (cc_gC q 0) _ _ hc35) (cwV 2 hts gX10_odds_X1_caughtOf rfl rfl rfl (by decide +kernel) ⟨Nat.le_of_ble_eq_true rfl, Nat.le_of_ble_eq_true rfl⟩) (rest := []) rfl hl.1 rfl (Nat.le_of_ble_eq_true rfl) dX10_odds_87 (fun H locs G => ?_)
            refine lv_istore (lv' := [(6, .int r35), (5, .int r33), (0, .ref (cc_ad g 0)), (1, .int v1), (2, .int v2), (3, .int v3), (4, .int v4)]) hx hb dX10_odds_90 hl (by decide) rfl (fun ls hl => ?_)
            refine lv_iload hx hb dX10_odds_92 (lv_at hl 6 rfl) ?_
            by_cases c37 : v4 = (0 : Int32)
            · have h38 := pp_t c37 h36
              clear h36
              refine lv_lookup (off := 26) (tgt := 120) hx hb dX10_odds_94 (by decide) (by rw [c37]; decide) (by decide) ?_
              refine lv_iload hx hb dX10_odds_120 (lv_at hl 1 rfl) ?_
              exact cc_iretW cc_id X hr hlk rfl G h38 hQ dX10_odds_122
            have h39 := pp_f c37 h36
            clear h36
            by_cases c40 : v4 = (1 : Int32)
            · have h41 := pp_t c40 h39
              clear h39
              refine lv_lookup (off := 29) (tgt := 123) hx hb dX10_odds_94 (by decide) (by rw [c40]; decide) (by decide) ?_
              refine lv_iload hx hb dX10_odds_123 (lv_at hl 0 rfl) ?_
              exact cc_iretW cc_id X hr hlk rfl G h41 hQ dX10_odds_125
            have h42 := pp_f c40 h39
            clear h39
            refine lv_lookup (off := 32) (tgt := 126) hx hb dX10_odds_94 (by decide) ((lv_osw c37 (by decide)).trans ((lv_osw c40 (by decide)).trans (rfl))) (by decide) ?_
            refine lv_bipush (v := 40) hx hb dX10_odds_126 (by decide) ?_
            refine lv_iload hx hb dX10_odds_128 (lv_at hl 1 rfl) ?_
            refine lv_isub hx hb dX10_odds_130 ?_
            refine lv_iload hx hb dX10_odds_131 (lv_at hl 0 rfl) ?_
            refine lv_isub hx hb dX10_odds_133 ?_
            exact cc_iretW cc_id X hr hlk rfl G h42 hQ dX10_odds_134
          · have h43 := pp_t c31 h30
            clear h30
            refine lv_aload_n hx hb dX10_odds_62 rfl (lv_at hl 0 rfl) ?_
            refine lv_bipush (v := -3) hx hb dX10_odds_63 (by decide) ?_
            obtain ⟨r44, hc44, h45⟩ := pp_ob_ex h43
            clear h43
            refine cc_cali (q2 := r44.2) rfl rfl (mo_main g) X G (x := q) rfl (ctX10_refused l g pls q _ hc44) (cwV 1 hts gX10_odds_X10_refused rfl rfl rfl (by decide +kernel) ⟨Nat.le_of_ble_eq_true rfl, Nat.le_of_ble_eq_true rfl⟩) (rest := []) rfl hl.1 rfl (Nat.le_of_ble_eq_true rfl) dX10_odds_65 (fun H locs G => ?_)
            exact cc_iretW cc_id X hr hlk rfl G h45 hQ dX10_odds_68
        · have h46 := pp_t c27 h26
          clear h26
          exact hj17 _ H locs ls h46 G (lv_sub hl [0] rfl)
    · have h47 := pp_t c13 h12
      clear h12
      exact hj3 _ H locs ls h47 G (lv_sub hl [0] rfl)
noncomputable def C_throwIt (q : cc_S) (v1 : Int32) (v2 : Int32) (v3 : Int32) (v4 : Int32) : Option (Int32 × cc_S) := pp_ob (C_isBall v1) (fun r1 => pp_lj (fun (a3 : Unit) => (pp_ob (C_refused q (-1 : Int32)) (fun r6 => some (r6.1, r6.2)) : Option (Int32 × cc_S))) (fun j3 => (if r1 = (0 : Int32) then j3 () else pp_ob (K_isPlayer (cc_gC q 0) v2) (fun r11 => (if r11 = (0 : Int32) then j3 () else pp_ob (C_isHow v3) (fun r15 => pp_lj (fun (a17 : Unit) => (pp_ob (C_refused q (-2 : Int32)) (fun r20 => some (r20.1, r20.2)) : Option (Int32 × cc_S))) (fun j17 => (if r15 = (0 : Int32) then j17 () else pp_ob (C_isEnd v4) (fun r25 => (if r25 = (0 : Int32) then j17 () else pp_ob (K_canThrow (cc_gC q 0) v1 v2) (fun r29 => (if r29 = (0 : Int32) then pp_ob (C_refused q (-3 : Int32)) (fun r43 => some (r43.1, r43.2)) else (if ((cc_gC q 0).1.1 7) < (9999 : Int32) then pp_ob (K_endThrow (cc_gC q 0) v1 v2 v4) (fun r35 => pp_lj (cc_pC q 0 r35 : cc_S) (fun x37 => some (((cc_gC x37 0).1.1 7), x37))) else pp_ob (C_refused q (-6 : Int32)) (fun r40 => some (r40.1, r40.2)))))))))))))))
abbrev rmX10_throwIt : Room := { frames := 4, cells := 0, slots := 0, locals := 89 }
set_option maxHeartbeats 4000000 in
set_option maxRecDepth 100000 in
theorem ctX10_throwIt (l : Launch) (g : cc_G) (pls : va_W) (q : cc_S) (v1 : Int32) (v2 : Int32) (v3 : Int32) (v4 : Int32) {res : (Int32 × cc_S)} (h : C_throwIt q v1 v2 v3 v4 = some res) : cc_Mi l yX10_throwIt wsX10_throwIt rmX10_throwIt g pls [.ref (cc_ad g 0), .int v1, .int v2, .int v3, .int v4] q res.1 res.2 := by
  intro sz A hA
  unfold C_throwIt at h
  refine cc_ofW hA (own := RX10) (by decide) rfl rfl (Nat.le_of_ble_eq_true rfl) ?_
  intro p e s m args below meth c ls X hr hlk G hl Q hQ
  have hx := X.1.1
  have hb := X.1.2.1
  have hown := X.1.2.2.2.1
  have hts := X.1.2.2.2.2
  refine (fun (key : ∀ (H : Heap) (locs : List Loc), cc_H g A pls q s H locs → W p l e (headSpec wsX10_throwIt rmX10_throwIt).room s m args below meth c H locs 0 0 Q (F0 m 0 ls [])) => key _ _ G) ?_
  clear G
  intro H locs G
  have hl : lv_has ls 5 [(0, .ref (cc_ad g 0)), (1, .int v1), (2, .int v2), (3, .int v3), (4, .int v4)] := hl
  have hf19 : Cond.fieldLink RX10 19 (TX10 1).1 (TX10 1).2.1 (TX10 1).2.2.1 ∈ wsX10_throwIt := by decide +kernel
  have hin1 : ∀ y ∈ wsX10, y ∈ wsX10_throwIt := (fun _ z => List.mem_cons_of_mem _ (List.mem_append_left _ (List.mem_append_left _ (List.mem_append_left _ (List.mem_append_left _ (List.mem_append_left _ (List.mem_append_left _ (List.mem_append_left _ (List.mem_append_right _ z)))))))))
  have hin10 : ∀ y ∈ wsX100, y ∈ wsX10_throwIt := (fun _ z => List.mem_cons_of_mem _ (List.mem_append_left _ (List.mem_append_left _ (List.mem_append_left _ (List.mem_append_left _ (List.mem_append_left _ (List.mem_append_left _ (List.mem_append_left _ (List.mem_append_left _ (List.mem_append_right _ z))))))))))
  refine lv_iload_n hx hb dX10_throwIt_0 rfl (lv_at hl 1 rfl) ?_
  obtain ⟨r1, hc1, h2⟩ := pp_ob_ex h
  clear h
  refine cc_csi X G (ctX10_isBall l _ hc1) (va_cwS 1 hts gX10_throwIt_X10_isBall rfl rfl rfl (by decide +kernel) ⟨Nat.le_of_ble_eq_true rfl, Nat.le_of_ble_eq_true rfl⟩) (rest := []) rfl hl.1 rfl (Nat.le_of_ble_eq_true rfl) dX10_throwIt_1 (fun H locs G => ?_)
  obtain ⟨j3, ej3, h4⟩ := pp_lj_ex h2
  clear h2
  have hj3 : ∀ (a3 : Unit) (H : Heap) (locs : List Loc) (ls : Array Slot), j3 a3 = some res → cc_H g A pls q s H locs → lv_has ls 5 [(0, .ref (cc_ad g 0))] → W p l e (headSpec wsX10_throwIt rmX10_throwIt).room s m args below meth c H locs 0 0 Q (F0 m 18 ls []) := by
    intro a3 H locs ls h G hl
    have h5 := pp_jmp ej3 h
    clear h h4
    refine lv_aload_n hx hb dX10_throwIt_18 rfl (lv_at hl 0 rfl) ?_
    refine lv_iconst (v := -1) hx hb dX10_throwIt_19 (by decide) ?_
    obtain ⟨r6, hc6, h7⟩ := pp_ob_ex h5
    clear h5
    refine cc_cali (q2 := r6.2) rfl rfl (mo_main g) X G (x := q) rfl (ctX10_refused l g pls q _ hc6) (cwV 1 hts gX10_throwIt_X10_refused rfl rfl rfl (by decide +kernel) ⟨Nat.le_of_ble_eq_true rfl, Nat.le_of_ble_eq_true rfl⟩) (rest := []) rfl hl.1 rfl (Nat.le_of_ble_eq_true rfl) dX10_throwIt_20 (fun H locs G => ?_)
    exact cc_iretW cc_id X hr hlk rfl G h7 hQ dX10_throwIt_23
  refine lv_if_eq (tgt := 18) hx hb dX10_throwIt_4 (by decide) (fun c8 => ?_) (fun c8 => ?_)
  · have h9 := pp_t c8 h4
    clear h4
    exact hj3 _ H locs ls h9 G (lv_sub hl [0] rfl)
  · have h10 := pp_f c8 h4
    clear h4
    refine lv_aload_n hx hb dX10_throwIt_7 rfl (lv_at hl 0 rfl) ?_
    refine cc_get (mo_main g) X G (x := q) rfl hin10 1 (by decide) hf19 (v := .ref (cc_ad g (10 + 20 * 0))) rfl dX10_throwIt_8 ?_
    refine lv_iload_n hx hb dX10_throwIt_11 rfl (lv_at hl 2 rfl) ?_
    obtain ⟨r11, hc11, h12⟩ := pp_ob_ex h10
    clear h10
    refine cc_cali (q2 := q) (cc_pgC q 0) (cc_pgC q 0) (mo_crt g (c := 0) (by decide)) X G (x := q) rfl (ctX1_isPlayer l g pls q (k := 0) (by decide) (cc_gC q 0) _ hc11) (cwV 1 hts gX10_throwIt_X1_isPlayer rfl rfl rfl (by decide +kernel) ⟨Nat.le_of_ble_eq_true rfl, Nat.le_of_ble_eq_true rfl⟩) (rest := []) rfl hl.1 rfl (Nat.le_of_ble_eq_true rfl) dX10_throwIt_12 (fun H locs G => ?_)
    refine lv_if_ne (tgt := 24) hx hb dX10_throwIt_15 (by decide) (fun c13 => ?_) (fun c13 => ?_)
    · have h14 := pp_f c13 h12
      clear h12
      refine lv_iload_n hx hb dX10_throwIt_24 rfl (lv_at hl 3 rfl) ?_
      obtain ⟨r15, hc15, h16⟩ := pp_ob_ex h14
      clear h14
      refine cc_csi X G (ctX10_isHow l _ hc15) (va_cwS 1 hts gX10_throwIt_X10_isHow rfl rfl rfl (by decide +kernel) ⟨Nat.le_of_ble_eq_true rfl, Nat.le_of_ble_eq_true rfl⟩) (rest := []) rfl hl.1 rfl (Nat.le_of_ble_eq_true rfl) dX10_throwIt_25 (fun H locs G => ?_)
      obtain ⟨j17, ej17, h18⟩ := pp_lj_ex h16
      clear h16
      have hj17 : ∀ (a17 : Unit) (H : Heap) (locs : List Loc) (ls : Array Slot), j17 a17 = some res → cc_H g A pls q s H locs → lv_has ls 5 [(0, .ref (cc_ad g 0))] → W p l e (headSpec wsX10_throwIt rmX10_throwIt).room s m args below meth c H locs 0 0 Q (F0 m 39 ls []) := by
        intro a17 H locs ls h G hl
        have h19 := pp_jmp ej17 h
        clear h h18
        refine lv_aload_n hx hb dX10_throwIt_39 rfl (lv_at hl 0 rfl) ?_
        refine lv_bipush (v := -2) hx hb dX10_throwIt_40 (by decide) ?_
        obtain ⟨r20, hc20, h21⟩ := pp_ob_ex h19
        clear h19
        refine cc_cali (q2 := r20.2) rfl rfl (mo_main g) X G (x := q) rfl (ctX10_refused l g pls q _ hc20) (cwV 1 hts gX10_throwIt_X10_refused rfl rfl rfl (by decide +kernel) ⟨Nat.le_of_ble_eq_true rfl, Nat.le_of_ble_eq_true rfl⟩) (rest := []) rfl hl.1 rfl (Nat.le_of_ble_eq_true rfl) dX10_throwIt_42 (fun H locs G => ?_)
        exact cc_iretW cc_id X hr hlk rfl G h21 hQ dX10_throwIt_45
      refine lv_if_eq (tgt := 39) hx hb dX10_throwIt_28 (by decide) (fun c22 => ?_) (fun c22 => ?_)
      · have h23 := pp_t c22 h18
        clear h18
        exact hj17 _ H locs ls h23 G (lv_sub hl [0] rfl)
      · have h24 := pp_f c22 h18
        clear h18
        refine lv_iload hx hb dX10_throwIt_31 (lv_at hl 4 rfl) ?_
        obtain ⟨r25, hc25, h26⟩ := pp_ob_ex h24
        clear h24
        refine cc_csi X G (ctX10_isEnd l _ hc25) (va_cwS 1 hts gX10_throwIt_X10_isEnd rfl rfl rfl (by decide +kernel) ⟨Nat.le_of_ble_eq_true rfl, Nat.le_of_ble_eq_true rfl⟩) (rest := []) rfl hl.1 rfl (Nat.le_of_ble_eq_true rfl) dX10_throwIt_33 (fun H locs G => ?_)
        refine lv_if_ne (tgt := 46) hx hb dX10_throwIt_36 (by decide) (fun c27 => ?_) (fun c27 => ?_)
        · have h28 := pp_f c27 h26
          clear h26
          refine lv_aload_n hx hb dX10_throwIt_46 rfl (lv_at hl 0 rfl) ?_
          refine cc_get (mo_main g) X G (x := q) rfl hin10 1 (by decide) hf19 (v := .ref (cc_ad g (10 + 20 * 0))) rfl dX10_throwIt_47 ?_
          refine lv_iload_n hx hb dX10_throwIt_50 rfl (lv_at hl 1 rfl) ?_
          refine lv_iload_n hx hb dX10_throwIt_51 rfl (lv_at hl 2 rfl) ?_
          obtain ⟨r29, hc29, h30⟩ := pp_ob_ex h28
          clear h28
          refine cc_cali (q2 := q) (cc_pgC q 0) (cc_pgC q 0) (mo_crt g (c := 0) (by decide)) X G (x := q) rfl (ctX1_canThrow l g pls q (k := 0) (by decide) (cc_gC q 0) _ _ hc29) (cwV 2 hts gX10_throwIt_X1_canThrow rfl rfl rfl (by decide +kernel) ⟨Nat.le_of_ble_eq_true rfl, Nat.le_of_ble_eq_true rfl⟩) (rest := []) rfl hl.1 rfl (Nat.le_of_ble_eq_true rfl) dX10_throwIt_52 (fun H locs G => ?_)
          refine lv_if_ne (tgt := 65) hx hb dX10_throwIt_55 (by decide) (fun c31 => ?_) (fun c31 => ?_)
          · have h32 := pp_f c31 h30
            clear h30
            refine lv_aload_n hx hb dX10_throwIt_65 rfl (lv_at hl 0 rfl) ?_
            refine cc_get (mo_main g) X G (x := q) rfl hin10 1 (by decide) hf19 (v := .ref (cc_ad g (10 + 20 * 0))) rfl dX10_throwIt_66 ?_
            refine cc_getN (mo_crt g (c := 0) (by decide)) X G (x := q) rfl hin1 7 (by decide) (by decide +kernel) (v := .int ((cc_gC q 0).1.1 7)) rfl dX10_throwIt_69 ?_
            refine lv_sipush (v := 9999) hx hb dX10_throwIt_72 (by decide) ?_
            refine lv_icmp_lt (tgt := 85) hx hb dX10_throwIt_75 (by decide) (fun c33 => ?_) (fun c33 => ?_)
            · have h34 := pp_t c33 h32
              clear h32
              refine lv_aload_n hx hb dX10_throwIt_85 rfl (lv_at hl 0 rfl) ?_
              refine cc_get (mo_main g) X G (x := q) rfl hin10 1 (by decide) hf19 (v := .ref (cc_ad g (10 + 20 * 0))) rfl dX10_throwIt_86 ?_
              refine lv_iload_n hx hb dX10_throwIt_89 rfl (lv_at hl 1 rfl) ?_
              refine lv_iload_n hx hb dX10_throwIt_90 rfl (lv_at hl 2 rfl) ?_
              refine lv_iload hx hb dX10_throwIt_91 (lv_at hl 4 rfl) ?_
              obtain ⟨r35, hc35, h36⟩ := pp_ob_ex h34
              clear h34
              obtain ⟨x37, ex37, h38⟩ := pp_lj_ex h36
              clear h36
              refine cc_calv (q2 := x37) (cc_pgC q 0) ex37.symm (mo_crt g (c := 0) (by decide)) X G (x := q) rfl (ctX1_endThrow l g pls q (k := 0) (by decide) (cc_gC q 0) _ _ _ hc35) (cwV 3 hts gX10_throwIt_X1_endThrow rfl rfl rfl (by decide +kernel) ⟨Nat.le_of_ble_eq_true rfl, Nat.le_of_ble_eq_true rfl⟩) (rest := []) rfl hl.1 rfl (Nat.le_of_ble_eq_true rfl) dX10_throwIt_93 (fun H locs G => ?_)
              refine lv_aload_n hx hb dX10_throwIt_96 rfl (lv_at hl 0 rfl) ?_
              refine cc_get (mo_main g) X G (x := x37) rfl hin10 1 (by decide) hf19 (v := .ref (cc_ad g (10 + 20 * 0))) rfl dX10_throwIt_97 ?_
              refine cc_getN (mo_crt g (c := 0) (by decide)) X G (x := x37) rfl hin1 7 (by decide) (by decide +kernel) (v := .int ((cc_gC x37 0).1.1 7)) rfl dX10_throwIt_100 ?_
              exact cc_iretW cc_id X hr hlk rfl G h38 hQ dX10_throwIt_103
            · have h39 := pp_f c33 h32
              clear h32
              refine lv_aload_n hx hb dX10_throwIt_78 rfl (lv_at hl 0 rfl) ?_
              refine lv_bipush (v := -6) hx hb dX10_throwIt_79 (by decide) ?_
              obtain ⟨r40, hc40, h41⟩ := pp_ob_ex h39
              clear h39
              refine cc_cali (q2 := r40.2) rfl rfl (mo_main g) X G (x := q) rfl (ctX10_refused l g pls q _ hc40) (cwV 1 hts gX10_throwIt_X10_refused rfl rfl rfl (by decide +kernel) ⟨Nat.le_of_ble_eq_true rfl, Nat.le_of_ble_eq_true rfl⟩) (rest := []) rfl hl.1 rfl (Nat.le_of_ble_eq_true rfl) dX10_throwIt_81 (fun H locs G => ?_)
              exact cc_iretW cc_id X hr hlk rfl G h41 hQ dX10_throwIt_84
          · have h42 := pp_t c31 h30
            clear h30
            refine lv_aload_n hx hb dX10_throwIt_58 rfl (lv_at hl 0 rfl) ?_
            refine lv_bipush (v := -3) hx hb dX10_throwIt_59 (by decide) ?_
            obtain ⟨r43, hc43, h44⟩ := pp_ob_ex h42
            clear h42
            refine cc_cali (q2 := r43.2) rfl rfl (mo_main g) X G (x := q) rfl (ctX10_refused l g pls q _ hc43) (cwV 1 hts gX10_throwIt_X10_refused rfl rfl rfl (by decide +kernel) ⟨Nat.le_of_ble_eq_true rfl, Nat.le_of_ble_eq_true rfl⟩) (rest := []) rfl hl.1 rfl (Nat.le_of_ble_eq_true rfl) dX10_throwIt_61 (fun H locs G => ?_)
            exact cc_iretW cc_id X hr hlk rfl G h44 hQ dX10_throwIt_64
        · have h45 := pp_t c27 h26
          clear h26
          exact hj17 _ H locs ls h45 G (lv_sub hl [0] rfl)
    · have h46 := pp_t c13 h12
      clear h12
      exact hj3 _ H locs ls h46 G (lv_sub hl [0] rfl)
noncomputable def C_take (q : cc_S) (v1 : Int32) (v2 : Int32) : Option (Int32 × cc_S) := pp_ob (K_isPlayer (cc_gC q 0) v1) (fun r1 => pp_lj (fun (a3 : Unit) => (pp_ob (C_refused q (-1 : Int32)) (fun r6 => some (r6.1, r6.2)) : Option (Int32 × cc_S))) (fun j3 => (if r1 = (0 : Int32) then j3 () else pp_ob (C_isBall v2) (fun r11 => (if r11 = (0 : Int32) then j3 () else pp_ob (K_canTake (cc_gC q 0) v1 v2) (fun r15 => (if r15 = (0 : Int32) then pp_ob (C_refused q (-3 : Int32)) (fun r33 => some (r33.1, r33.2)) else (if ((cc_gC q 0).1.1 7) < (9999 : Int32) then pp_ob (K_hold (cc_gC q 0) v2 v1) (fun r21 => pp_lj (cc_pC q 0 r21 : cc_S) (fun x23 => pp_ob (K_letTenthGoBy (cc_gC x23 0)) (fun r25 => pp_lj (cc_pC x23 0 r25 : cc_S) (fun x27 => some (((cc_gC x27 0).1.1 7), x27))))) else pp_ob (C_refused q (-6 : Int32)) (fun r30 => some (r30.1, r30.2))))))))))
abbrev rmX10_take : Room := { frames := 4, cells := 0, slots := 0, locals := 87 }
set_option maxHeartbeats 4000000 in
set_option maxRecDepth 100000 in
theorem ctX10_take (l : Launch) (g : cc_G) (pls : va_W) (q : cc_S) (v1 : Int32) (v2 : Int32) {res : (Int32 × cc_S)} (h : C_take q v1 v2 = some res) : cc_Mi l yX10_take wsX10_take rmX10_take g pls [.ref (cc_ad g 0), .int v1, .int v2] q res.1 res.2 := by
  intro sz A hA
  unfold C_take at h
  refine cc_ofW hA (own := RX10) (by decide) rfl rfl (Nat.le_of_ble_eq_true rfl) ?_
  intro p e s m args below meth c ls X hr hlk G hl Q hQ
  have hx := X.1.1
  have hb := X.1.2.1
  have hown := X.1.2.2.2.1
  have hts := X.1.2.2.2.2
  refine (fun (key : ∀ (H : Heap) (locs : List Loc), cc_H g A pls q s H locs → W p l e (headSpec wsX10_take rmX10_take).room s m args below meth c H locs 0 0 Q (F0 m 0 ls [])) => key _ _ G) ?_
  clear G
  intro H locs G
  have hl : lv_has ls 3 [(0, .ref (cc_ad g 0)), (1, .int v1), (2, .int v2)] := hl
  have hf19 : Cond.fieldLink RX10 19 (TX10 1).1 (TX10 1).2.1 (TX10 1).2.2.1 ∈ wsX10_take := by decide +kernel
  have hin1 : ∀ y ∈ wsX10, y ∈ wsX10_take := (fun _ z => List.mem_cons_of_mem _ (List.mem_append_left _ (List.mem_append_left _ (List.mem_append_left _ (List.mem_append_left _ (List.mem_append_left _ (List.mem_append_left _ (List.mem_append_left _ (List.mem_append_right _ z)))))))))
  have hin10 : ∀ y ∈ wsX100, y ∈ wsX10_take := (fun _ z => List.mem_cons_of_mem _ (List.mem_append_left _ (List.mem_append_left _ (List.mem_append_left _ (List.mem_append_left _ (List.mem_append_left _ (List.mem_append_left _ (List.mem_append_left _ (List.mem_append_left _ (List.mem_append_right _ z))))))))))
  refine lv_aload_n hx hb dX10_take_0 rfl (lv_at hl 0 rfl) ?_
  refine cc_get (mo_main g) X G (x := q) rfl hin10 1 (by decide) hf19 (v := .ref (cc_ad g (10 + 20 * 0))) rfl dX10_take_1 ?_
  refine lv_iload_n hx hb dX10_take_4 rfl (lv_at hl 1 rfl) ?_
  obtain ⟨r1, hc1, h2⟩ := pp_ob_ex h
  clear h
  refine cc_cali (q2 := q) (cc_pgC q 0) (cc_pgC q 0) (mo_crt g (c := 0) (by decide)) X G (x := q) rfl (ctX1_isPlayer l g pls q (k := 0) (by decide) (cc_gC q 0) _ hc1) (cwV 1 hts gX10_take_X1_isPlayer rfl rfl rfl (by decide +kernel) ⟨Nat.le_of_ble_eq_true rfl, Nat.le_of_ble_eq_true rfl⟩) (rest := []) rfl hl.1 rfl (Nat.le_of_ble_eq_true rfl) dX10_take_5 (fun H locs G => ?_)
  obtain ⟨j3, ej3, h4⟩ := pp_lj_ex h2
  clear h2
  have hj3 : ∀ (a3 : Unit) (H : Heap) (locs : List Loc) (ls : Array Slot), j3 a3 = some res → cc_H g A pls q s H locs → lv_has ls 3 [(0, .ref (cc_ad g 0))] → W p l e (headSpec wsX10_take rmX10_take).room s m args below meth c H locs 0 0 Q (F0 m 18 ls []) := by
    intro a3 H locs ls h G hl
    have h5 := pp_jmp ej3 h
    clear h h4
    refine lv_aload_n hx hb dX10_take_18 rfl (lv_at hl 0 rfl) ?_
    refine lv_iconst (v := -1) hx hb dX10_take_19 (by decide) ?_
    obtain ⟨r6, hc6, h7⟩ := pp_ob_ex h5
    clear h5
    refine cc_cali (q2 := r6.2) rfl rfl (mo_main g) X G (x := q) rfl (ctX10_refused l g pls q _ hc6) (cwV 1 hts gX10_take_X10_refused rfl rfl rfl (by decide +kernel) ⟨Nat.le_of_ble_eq_true rfl, Nat.le_of_ble_eq_true rfl⟩) (rest := []) rfl hl.1 rfl (Nat.le_of_ble_eq_true rfl) dX10_take_20 (fun H locs G => ?_)
    exact cc_iretW cc_id X hr hlk rfl G h7 hQ dX10_take_23
  refine lv_if_eq (tgt := 18) hx hb dX10_take_8 (by decide) (fun c8 => ?_) (fun c8 => ?_)
  · have h9 := pp_t c8 h4
    clear h4
    exact hj3 _ H locs ls h9 G (lv_sub hl [0] rfl)
  · have h10 := pp_f c8 h4
    clear h4
    refine lv_iload_n hx hb dX10_take_11 rfl (lv_at hl 2 rfl) ?_
    obtain ⟨r11, hc11, h12⟩ := pp_ob_ex h10
    clear h10
    refine cc_csi X G (ctX10_isBall l _ hc11) (va_cwS 1 hts gX10_take_X10_isBall rfl rfl rfl (by decide +kernel) ⟨Nat.le_of_ble_eq_true rfl, Nat.le_of_ble_eq_true rfl⟩) (rest := []) rfl hl.1 rfl (Nat.le_of_ble_eq_true rfl) dX10_take_12 (fun H locs G => ?_)
    refine lv_if_ne (tgt := 24) hx hb dX10_take_15 (by decide) (fun c13 => ?_) (fun c13 => ?_)
    · have h14 := pp_f c13 h12
      clear h12
      refine lv_aload_n hx hb dX10_take_24 rfl (lv_at hl 0 rfl) ?_
      refine cc_get (mo_main g) X G (x := q) rfl hin10 1 (by decide) hf19 (v := .ref (cc_ad g (10 + 20 * 0))) rfl dX10_take_25 ?_
      refine lv_iload_n hx hb dX10_take_28 rfl (lv_at hl 1 rfl) ?_
      refine lv_iload_n hx hb dX10_take_29 rfl (lv_at hl 2 rfl) ?_
      obtain ⟨r15, hc15, h16⟩ := pp_ob_ex h14
      clear h14
      refine cc_cali (q2 := q) (cc_pgC q 0) (cc_pgC q 0) (mo_crt g (c := 0) (by decide)) X G (x := q) rfl (ctX1_canTake l g pls q (k := 0) (by decide) (cc_gC q 0) _ _ hc15) (cwV 2 hts gX10_take_X1_canTake rfl rfl rfl (by decide +kernel) ⟨Nat.le_of_ble_eq_true rfl, Nat.le_of_ble_eq_true rfl⟩) (rest := []) rfl hl.1 rfl (Nat.le_of_ble_eq_true rfl) dX10_take_30 (fun H locs G => ?_)
      refine lv_if_ne (tgt := 43) hx hb dX10_take_33 (by decide) (fun c17 => ?_) (fun c17 => ?_)
      · have h18 := pp_f c17 h16
        clear h16
        refine lv_aload_n hx hb dX10_take_43 rfl (lv_at hl 0 rfl) ?_
        refine cc_get (mo_main g) X G (x := q) rfl hin10 1 (by decide) hf19 (v := .ref (cc_ad g (10 + 20 * 0))) rfl dX10_take_44 ?_
        refine cc_getN (mo_crt g (c := 0) (by decide)) X G (x := q) rfl hin1 7 (by decide) (by decide +kernel) (v := .int ((cc_gC q 0).1.1 7)) rfl dX10_take_47 ?_
        refine lv_sipush (v := 9999) hx hb dX10_take_50 (by decide) ?_
        refine lv_icmp_lt (tgt := 63) hx hb dX10_take_53 (by decide) (fun c19 => ?_) (fun c19 => ?_)
        · have h20 := pp_t c19 h18
          clear h18
          refine lv_aload_n hx hb dX10_take_63 rfl (lv_at hl 0 rfl) ?_
          refine cc_get (mo_main g) X G (x := q) rfl hin10 1 (by decide) hf19 (v := .ref (cc_ad g (10 + 20 * 0))) rfl dX10_take_64 ?_
          refine lv_iload_n hx hb dX10_take_67 rfl (lv_at hl 2 rfl) ?_
          refine lv_iload_n hx hb dX10_take_68 rfl (lv_at hl 1 rfl) ?_
          obtain ⟨r21, hc21, h22⟩ := pp_ob_ex h20
          clear h20
          obtain ⟨x23, ex23, h24⟩ := pp_lj_ex h22
          clear h22
          refine cc_calv (q2 := x23) (cc_pgC q 0) ex23.symm (mo_crt g (c := 0) (by decide)) X G (x := q) rfl (ctX1_hold l g pls q (k := 0) (by decide) (cc_gC q 0) _ _ hc21) (cwV 2 hts gX10_take_X1_hold rfl rfl rfl (by decide +kernel) ⟨Nat.le_of_ble_eq_true rfl, Nat.le_of_ble_eq_true rfl⟩) (rest := []) rfl hl.1 rfl (Nat.le_of_ble_eq_true rfl) dX10_take_69 (fun H locs G => ?_)
          refine lv_aload_n hx hb dX10_take_72 rfl (lv_at hl 0 rfl) ?_
          refine cc_get (mo_main g) X G (x := x23) rfl hin10 1 (by decide) hf19 (v := .ref (cc_ad g (10 + 20 * 0))) rfl dX10_take_73 ?_
          obtain ⟨r25, hc25, h26⟩ := pp_ob_ex h24
          clear h24
          obtain ⟨x27, ex27, h28⟩ := pp_lj_ex h26
          clear h26
          refine cc_calv (q2 := x27) (cc_pgC x23 0) ex27.symm (mo_crt g (c := 0) (by decide)) X G (x := x23) rfl (ctX1_letTenthGoBy l g pls x23 (k := 0) (by decide) (cc_gC x23 0) hc25) (cwV 0 hts gX10_take_X1_letTenthGoBy rfl rfl rfl (by decide +kernel) ⟨Nat.le_of_ble_eq_true rfl, Nat.le_of_ble_eq_true rfl⟩) (rest := []) rfl hl.1 rfl (Nat.le_of_ble_eq_true rfl) dX10_take_76 (fun H locs G => ?_)
          refine lv_aload_n hx hb dX10_take_79 rfl (lv_at hl 0 rfl) ?_
          refine cc_get (mo_main g) X G (x := x27) rfl hin10 1 (by decide) hf19 (v := .ref (cc_ad g (10 + 20 * 0))) rfl dX10_take_80 ?_
          refine cc_getN (mo_crt g (c := 0) (by decide)) X G (x := x27) rfl hin1 7 (by decide) (by decide +kernel) (v := .int ((cc_gC x27 0).1.1 7)) rfl dX10_take_83 ?_
          exact cc_iretW cc_id X hr hlk rfl G h28 hQ dX10_take_86
        · have h29 := pp_f c19 h18
          clear h18
          refine lv_aload_n hx hb dX10_take_56 rfl (lv_at hl 0 rfl) ?_
          refine lv_bipush (v := -6) hx hb dX10_take_57 (by decide) ?_
          obtain ⟨r30, hc30, h31⟩ := pp_ob_ex h29
          clear h29
          refine cc_cali (q2 := r30.2) rfl rfl (mo_main g) X G (x := q) rfl (ctX10_refused l g pls q _ hc30) (cwV 1 hts gX10_take_X10_refused rfl rfl rfl (by decide +kernel) ⟨Nat.le_of_ble_eq_true rfl, Nat.le_of_ble_eq_true rfl⟩) (rest := []) rfl hl.1 rfl (Nat.le_of_ble_eq_true rfl) dX10_take_59 (fun H locs G => ?_)
          exact cc_iretW cc_id X hr hlk rfl G h31 hQ dX10_take_62
      · have h32 := pp_t c17 h16
        clear h16
        refine lv_aload_n hx hb dX10_take_36 rfl (lv_at hl 0 rfl) ?_
        refine lv_bipush (v := -3) hx hb dX10_take_37 (by decide) ?_
        obtain ⟨r33, hc33, h34⟩ := pp_ob_ex h32
        clear h32
        refine cc_cali (q2 := r33.2) rfl rfl (mo_main g) X G (x := q) rfl (ctX10_refused l g pls q _ hc33) (cwV 1 hts gX10_take_X10_refused rfl rfl rfl (by decide +kernel) ⟨Nat.le_of_ble_eq_true rfl, Nat.le_of_ble_eq_true rfl⟩) (rest := []) rfl hl.1 rfl (Nat.le_of_ble_eq_true rfl) dX10_take_39 (fun H locs G => ?_)
        exact cc_iretW cc_id X hr hlk rfl G h34 hQ dX10_take_42
    · have h35 := pp_t c13 h12
      clear h12
      exact hj3 _ H locs ls h35 G (lv_sub hl [0] rfl)
noncomputable def C_pass (q : cc_S) (v1 : Int32) : Option (Int32 × cc_S) := (if (1 : Int32) ≤ v1 then pp_lj (fun (a3 : Unit) => (pp_ob (C_refused q (-6 : Int32)) (fun r6 => some (r6.1, r6.2)) : Option (Int32 × cc_S))) (fun j3 => (if (50 : Int32) < v1 then j3 () else (if (((cc_gC q 0).1.1 7) + v1) ≤ (9999 : Int32) then pp_it (fun (self13 : cc_S × Int32 → Option (Int32 × cc_S)) (a13 : cc_S × Int32) => (if v1 ≤ a13.2 then some (((cc_gC a13.1 0).1.1 7), a13.1) else pp_ob (K_letTenthGoBy (cc_gC a13.1 0)) (fun r17 => pp_lj (cc_pC a13.1 0 r17 : cc_S) (fun x19 => pp_lj (a13.2 + 1 : Int32) (fun x21 => self13 (x19, x21)))))) 200 (q, (0 : Int32)) else j3 ()))) else pp_ob (C_refused q (-4 : Int32)) (fun r25 => some (r25.1, r25.2)))
abbrev rmX10_pass : Room := { frames := 3, cells := 0, slots := 0, locals := 63 }
set_option maxHeartbeats 4000000 in
set_option maxRecDepth 100000 in
theorem ctX10_pass (l : Launch) (g : cc_G) (pls : va_W) (q : cc_S) (v1 : Int32) {res : (Int32 × cc_S)} (h : C_pass q v1 = some res) : cc_Mi l yX10_pass wsX10_pass rmX10_pass g pls [.ref (cc_ad g 0), .int v1] q res.1 res.2 := by
  intro sz A hA
  unfold C_pass at h
  refine cc_ofW hA (own := RX10) (by decide) rfl rfl (Nat.le_of_ble_eq_true rfl) ?_
  intro p e s m args below meth c ls X hr hlk G hl Q hQ
  have hx := X.1.1
  have hb := X.1.2.1
  have hown := X.1.2.2.2.1
  have hts := X.1.2.2.2.2
  refine (fun (key : ∀ (H : Heap) (locs : List Loc), cc_H g A pls q s H locs → W p l e (headSpec wsX10_pass rmX10_pass).room s m args below meth c H locs 0 0 Q (F0 m 0 ls [])) => key _ _ G) ?_
  clear G
  intro H locs G
  have hl : lv_has ls 3 [(0, .ref (cc_ad g 0)), (1, .int v1)] := hl
  have hf19 : Cond.fieldLink RX10 19 (TX10 1).1 (TX10 1).2.1 (TX10 1).2.2.1 ∈ wsX10_pass := by decide +kernel
  have hin1 : ∀ y ∈ wsX10, y ∈ wsX10_pass := (fun _ z => List.mem_cons_of_mem _ (List.mem_append_left _ (List.mem_append_left _ (List.mem_append_left _ (List.mem_append_left _ (List.mem_append_left _ (List.mem_append_left _ (List.mem_append_right _ z))))))))
  have hin10 : ∀ y ∈ wsX100, y ∈ wsX10_pass := (fun _ z => List.mem_cons_of_mem _ (List.mem_append_left _ (List.mem_append_left _ (List.mem_append_left _ (List.mem_append_left _ (List.mem_append_left _ (List.mem_append_left _ (List.mem_append_left _ (List.mem_append_right _ z)))))))))
  refine lv_iload_n hx hb dX10_pass_0 rfl (lv_at hl 1 rfl) ?_
  refine lv_iconst (v := 1) hx hb dX10_pass_1 (by decide) ?_
  refine lv_icmp_ge (tgt := 12) hx hb dX10_pass_2 (by decide) (fun c1 => ?_) (fun c1 => ?_)
  · have h2 := pp_t c1 h
    clear h
    refine lv_iload_n hx hb dX10_pass_12 rfl (lv_at hl 1 rfl) ?_
    refine lv_bipush (v := 50) hx hb dX10_pass_13 (by decide) ?_
    obtain ⟨j3, ej3, h4⟩ := pp_lj_ex h2
    clear h2
    have hj3 : ∀ (a3 : Unit) (H : Heap) (locs : List Loc) (ls : Array Slot), j3 a3 = some res → cc_H g A pls q s H locs → lv_has ls 3 [(0, .ref (cc_ad g 0))] → W p l e (headSpec wsX10_pass rmX10_pass).room s m args below meth c H locs 0 0 Q (F0 m 33 ls []) := by
      intro a3 H locs ls h G hl
      have h5 := pp_jmp ej3 h
      clear h h4
      refine lv_aload_n hx hb dX10_pass_33 rfl (lv_at hl 0 rfl) ?_
      refine lv_bipush (v := -6) hx hb dX10_pass_34 (by decide) ?_
      obtain ⟨r6, hc6, h7⟩ := pp_ob_ex h5
      clear h5
      refine cc_cali (q2 := r6.2) rfl rfl (mo_main g) X G (x := q) rfl (ctX10_refused l g pls q _ hc6) (cwV 1 hts gX10_pass_X10_refused rfl rfl rfl (by decide +kernel) ⟨Nat.le_of_ble_eq_true rfl, Nat.le_of_ble_eq_true rfl⟩) (rest := []) rfl hl.1 rfl (Nat.le_of_ble_eq_true rfl) dX10_pass_36 (fun H locs G => ?_)
      exact cc_iretW cc_id X hr hlk rfl G h7 hQ dX10_pass_39
    refine lv_icmp_gt (tgt := 33) hx hb dX10_pass_15 (by decide) (fun c8 => ?_) (fun c8 => ?_)
    · have h9 := pp_t c8 h4
      clear h4
      exact hj3 _ H locs ls h9 G (lv_sub hl [0] rfl)
    · have h10 := pp_f c8 h4
      clear h4
      refine lv_aload_n hx hb dX10_pass_18 rfl (lv_at hl 0 rfl) ?_
      refine cc_get (mo_main g) X G (x := q) rfl hin10 1 (by decide) hf19 (v := .ref (cc_ad g (10 + 20 * 0))) rfl dX10_pass_19 ?_
      refine cc_getN (mo_crt g (c := 0) (by decide)) X G (x := q) rfl hin1 7 (by decide) (by decide +kernel) (v := .int ((cc_gC q 0).1.1 7)) rfl dX10_pass_22 ?_
      refine lv_iload_n hx hb dX10_pass_25 rfl (lv_at hl 1 rfl) ?_
      refine lv_iadd hx hb dX10_pass_26 ?_
      refine lv_sipush (v := 9999) hx hb dX10_pass_27 (by decide) ?_
      refine lv_icmp_le (tgt := 40) hx hb dX10_pass_30 (by decide) (fun c11 => ?_) (fun c11 => ?_)
      · have h12 := pp_t c11 h10
        clear h10
        refine lv_iconst (v := 0) hx hb dX10_pass_40 (by decide) ?_
        refine lv_istore_n (lv' := [(2, .int (0 : Int32)), (0, .ref (cc_ad g 0)), (1, .int v1)]) hx hb dX10_pass_41 rfl hl (by decide) rfl (fun ls hl => ?_)
        refine pp_loop (I := fun (a13 : cc_S × Int32) => ∀ (H : Heap) (locs : List Loc) (ls : Array Slot), cc_H g A pls a13.1 s H locs → lv_has ls 3 [(0, .ref (cc_ad g 0)), (1, .int v1), (2, .int a13.2)] → W p l e (headSpec wsX10_pass rmX10_pass).room s m args below meth c H locs 0 0 Q (F0 m 42 ls [])) ?_ 200 _ h12 H locs ls G (lv_sub hl [1, 2, 0] rfl)
        clear h12
        intro self13 ih13 a13 h13 H locs ls G hl
        refine lv_iload_n hx hb dX10_pass_42 rfl (lv_at hl 2 rfl) ?_
        refine lv_iload_n hx hb dX10_pass_43 rfl (lv_at hl 1 rfl) ?_
        refine lv_icmp_ge (tgt := 60) hx hb dX10_pass_44 (by decide) (fun c14 => ?_) (fun c14 => ?_)
        · have h15 := pp_t c14 h13
          clear h13
          refine lv_aload_n hx hb dX10_pass_60 rfl (lv_at hl 0 rfl) ?_
          refine cc_get (mo_main g) X G (x := a13.1) rfl hin10 1 (by decide) hf19 (v := .ref (cc_ad g (10 + 20 * 0))) rfl dX10_pass_61 ?_
          refine cc_getN (mo_crt g (c := 0) (by decide)) X G (x := a13.1) rfl hin1 7 (by decide) (by decide +kernel) (v := .int ((cc_gC a13.1 0).1.1 7)) rfl dX10_pass_64 ?_
          exact cc_iretW cc_id X hr hlk rfl G h15 hQ dX10_pass_67
        · have h16 := pp_f c14 h13
          clear h13
          refine lv_aload_n hx hb dX10_pass_47 rfl (lv_at hl 0 rfl) ?_
          refine cc_get (mo_main g) X G (x := a13.1) rfl hin10 1 (by decide) hf19 (v := .ref (cc_ad g (10 + 20 * 0))) rfl dX10_pass_48 ?_
          obtain ⟨r17, hc17, h18⟩ := pp_ob_ex h16
          clear h16
          obtain ⟨x19, ex19, h20⟩ := pp_lj_ex h18
          clear h18
          refine cc_calv (q2 := x19) (cc_pgC a13.1 0) ex19.symm (mo_crt g (c := 0) (by decide)) X G (x := a13.1) rfl (ctX1_letTenthGoBy l g pls a13.1 (k := 0) (by decide) (cc_gC a13.1 0) hc17) (cwV 0 hts gX10_pass_X1_letTenthGoBy rfl rfl rfl (by decide +kernel) ⟨Nat.le_of_ble_eq_true rfl, Nat.le_of_ble_eq_true rfl⟩) (rest := []) rfl hl.1 rfl (Nat.le_of_ble_eq_true rfl) dX10_pass_51 (fun H locs G => ?_)
          obtain ⟨x21, ex21, h22⟩ := pp_lj_ex h20
          clear h20
          refine lv_iinc (v := x21) (lv' := [(2, .int x21), (0, .ref (cc_ad g 0)), (1, .int v1)]) hx hb dX10_pass_54 hl (k := 2) rfl (by rw [ex21]; rfl) (by decide) rfl (fun ls hl => ?_)
          refine lv_goto (tgt := 42) hx hb dX10_pass_57 (by decide) ?_
          exact ih13 _ h22 H locs ls G (lv_sub hl [1, 2, 0] rfl)
      · have h23 := pp_f c11 h10
        clear h10
        exact hj3 _ H locs ls h23 G (lv_sub hl [0] rfl)
  · have h24 := pp_f c1 h
    clear h
    refine lv_aload_n hx hb dX10_pass_5 rfl (lv_at hl 0 rfl) ?_
    refine lv_bipush (v := -4) hx hb dX10_pass_6 (by decide) ?_
    obtain ⟨r25, hc25, h26⟩ := pp_ob_ex h24
    clear h24
    refine cc_cali (q2 := r25.2) rfl rfl (mo_main g) X G (x := q) rfl (ctX10_refused l g pls q _ hc25) (cwV 1 hts gX10_pass_X10_refused rfl rfl rfl (by decide +kernel) ⟨Nat.le_of_ble_eq_true rfl, Nat.le_of_ble_eq_true rfl⟩) (rest := []) rfl hl.1 rfl (Nat.le_of_ble_eq_true rfl) dX10_pass_8 (fun H locs G => ?_)
    exact cc_iretW cc_id X hr hlk rfl G h26 hQ dX10_pass_11
noncomputable def C_bestThrow (q : cc_S) (v1 : Int32) : Option Int32 := pp_it (fun (self1 : Int32 × Int32 × Int32 → Option Int32) (a1 : Int32 × Int32 × Int32) => (if ((cc_gC q 0).1.1 1) ≤ a1.2.2 then some a1.1 else pp_it (fun (self5 : Int32 × Int32 × Int32 → Option Int32) (a5 : Int32 × Int32 × Int32) => pp_lj (fun (a6 : Unit) => (pp_lj (a1.2.2 + 1 : Int32) (fun x9 => self1 (a5.1, a5.2.1, x9)) : Option Int32)) (fun j6 => (if (3 : Int32) ≤ a5.2.2 then j6 () else pp_ob (K_areOpposed (cc_gC q 0) v1 a1.2.2) (fun r14 => (if r14 = (0 : Int32) then j6 () else pp_ob (K_gainOf (cc_gC q 0) v1 a1.2.2 a5.2.2) (fun r19 => pp_lj (fun (a21 : Int32 × Int32) => (pp_lj (a5.2.2 + 1 : Int32) (fun x24 => self5 (a21.1, a21.2, x24)) : Option Int32)) (fun j21 => pp_lj (fun (a26 : Unit) => (pp_lj ((((10 : Int32) * a1.2.2) + a5.2.2) : Int32) (fun x29 => j21 (x29, r19)) : Option Int32)) (fun j26 => (if a5.1 = (-9 : Int32) then j26 () else (if r19 ≤ a5.2.1 then j21 (a5.1, a5.2.1) else j26 ())))))))))) 200 (a1.1, a1.2.1, (0 : Int32)))) 200 ((-9 : Int32), (0 : Int32), (0 : Int32))
abbrev rmX10_bestThrow : Room := { frames := 6, cells := 0, slots := 0, locals := 130 }
set_option maxHeartbeats 4000000 in
set_option maxRecDepth 100000 in
theorem ctX10_bestThrow (l : Launch) (g : cc_G) (pls : va_W) (q : cc_S) (v1 : Int32) {res : Int32} (h : C_bestThrow q v1 = some res) : cc_Mi l yX10_bestThrow wsX10_bestThrow rmX10_bestThrow g pls [.ref (cc_ad g 0), .int v1] q res q := by
  intro sz A hA
  unfold C_bestThrow at h
  refine cc_ofW hA (own := RX10) (by decide) rfl rfl (Nat.le_of_ble_eq_true rfl) ?_
  intro p e s m args below meth c ls X hr hlk G hl Q hQ
  have hx := X.1.1
  have hb := X.1.2.1
  have hown := X.1.2.2.2.1
  have hts := X.1.2.2.2.2
  refine (fun (key : ∀ (H : Heap) (locs : List Loc), cc_H g A pls q s H locs → W p l e (headSpec wsX10_bestThrow rmX10_bestThrow).room s m args below meth c H locs 0 0 Q (F0 m 0 ls [])) => key _ _ G) ?_
  clear G
  intro H locs G
  have hl : lv_has ls 7 [(0, .ref (cc_ad g 0)), (1, .int v1)] := hl
  have hf19 : Cond.fieldLink RX10 19 (TX10 1).1 (TX10 1).2.1 (TX10 1).2.2.1 ∈ wsX10_bestThrow := by decide +kernel
  have hin1 : ∀ y ∈ wsX10, y ∈ wsX10_bestThrow := (fun _ z => List.mem_cons_of_mem _ (List.mem_append_left _ (List.mem_append_left _ (List.mem_append_left _ (List.mem_append_left _ (List.mem_append_left _ (List.mem_append_left _ (List.mem_append_left _ (List.mem_append_right _ z)))))))))
  have hin10 : ∀ y ∈ wsX100, y ∈ wsX10_bestThrow := (fun _ z => List.mem_cons_of_mem _ (List.mem_append_left _ (List.mem_append_left _ (List.mem_append_left _ (List.mem_append_left _ (List.mem_append_left _ (List.mem_append_left _ (List.mem_append_left _ (List.mem_append_left _ (List.mem_append_right _ z))))))))))
  refine lv_bipush (v := -9) hx hb dX10_bestThrow_0 (by decide) ?_
  refine lv_istore_n (lv' := [(2, .int (-9 : Int32)), (0, .ref (cc_ad g 0)), (1, .int v1)]) hx hb dX10_bestThrow_2 rfl hl (by decide) rfl (fun ls hl => ?_)
  refine lv_iconst (v := 0) hx hb dX10_bestThrow_3 (by decide) ?_
  refine lv_istore_n (lv' := [(3, .int (0 : Int32)), (2, .int (-9 : Int32)), (0, .ref (cc_ad g 0)), (1, .int v1)]) hx hb dX10_bestThrow_4 rfl hl (by decide) rfl (fun ls hl => ?_)
  refine lv_iconst (v := 0) hx hb dX10_bestThrow_5 (by decide) ?_
  refine lv_istore (lv' := [(4, .int (0 : Int32)), (3, .int (0 : Int32)), (2, .int (-9 : Int32)), (0, .ref (cc_ad g 0)), (1, .int v1)]) hx hb dX10_bestThrow_6 hl (by decide) rfl (fun ls hl => ?_)
  refine pp_loop (I := fun (a1 : Int32 × Int32 × Int32) => ∀ (H : Heap) (locs : List Loc) (ls : Array Slot), cc_H g A pls q s H locs → lv_has ls 7 [(0, .ref (cc_ad g 0)), (1, .int v1), (2, .int a1.1), (3, .int a1.2.1), (4, .int a1.2.2)] → W p l e (headSpec wsX10_bestThrow rmX10_bestThrow).room s m args below meth c H locs 0 0 Q (F0 m 8 ls [])) ?_ 200 _ h H locs ls G (lv_sub hl [3, 4, 2, 1, 0] rfl)
  clear h
  intro self1 ih1 a1 h1 H locs ls G hl
  refine lv_iload hx hb dX10_bestThrow_8 (lv_at hl 4 rfl) ?_
  refine lv_aload_n hx hb dX10_bestThrow_10 rfl (lv_at hl 0 rfl) ?_
  refine cc_get (mo_main g) X G (x := q) rfl hin10 1 (by decide) hf19 (v := .ref (cc_ad g (10 + 20 * 0))) rfl dX10_bestThrow_11 ?_
  refine cc_getN (mo_crt g (c := 0) (by decide)) X G (x := q) rfl hin1 1 (by decide) (by decide +kernel) (v := .int ((cc_gC q 0).1.1 1)) rfl dX10_bestThrow_14 ?_
  refine lv_icmp_ge (tgt := 92) hx hb dX10_bestThrow_17 (by decide) (fun c2 => ?_) (fun c2 => ?_)
  · have h3 := pp_t c2 h1
    clear h1
    refine lv_iload_n hx hb dX10_bestThrow_92 rfl (lv_at hl 2 rfl) ?_
    exact cc_iret X hr hlk rfl G (Option.some.inj h3) rfl hQ dX10_bestThrow_93
  · have h4 := pp_f c2 h1
    clear h1
    refine lv_iconst (v := 0) hx hb dX10_bestThrow_20 (by decide) ?_
    refine lv_istore (lv' := [(5, .int (0 : Int32)), (0, .ref (cc_ad g 0)), (1, .int v1), (2, .int a1.1), (3, .int a1.2.1), (4, .int a1.2.2)]) hx hb dX10_bestThrow_21 hl (by decide) rfl (fun ls hl => ?_)
    refine pp_loop (I := fun (a5 : Int32 × Int32 × Int32) => ∀ (H : Heap) (locs : List Loc) (ls : Array Slot), cc_H g A pls q s H locs → lv_has ls 7 [(0, .ref (cc_ad g 0)), (1, .int v1), (2, .int a5.1), (3, .int a5.2.1), (4, .int a1.2.2), (5, .int a5.2.2)] → W p l e (headSpec wsX10_bestThrow rmX10_bestThrow).room s m args below meth c H locs 0 0 Q (F0 m 23 ls [])) ?_ 200 _ h4 H locs ls G (lv_sub hl [1, 2, 3, 4, 5, 0] rfl)
    clear h4
    intro self5 ih5 a5 h5 H locs ls G hl
    refine lv_iload hx hb dX10_bestThrow_23 (lv_at hl 5 rfl) ?_
    refine lv_iconst (v := 3) hx hb dX10_bestThrow_25 (by decide) ?_
    obtain ⟨j6, ej6, h7⟩ := pp_lj_ex h5
    clear h5
    have hj6 : ∀ (a6 : Unit) (H : Heap) (locs : List Loc) (ls : Array Slot), j6 a6 = some res → cc_H g A pls q s H locs → lv_has ls 7 [(0, .ref (cc_ad g 0)), (1, .int v1), (2, .int a5.1), (3, .int a5.2.1), (4, .int a1.2.2)] → W p l e (headSpec wsX10_bestThrow rmX10_bestThrow).room s m args below meth c H locs 0 0 Q (F0 m 86 ls []) := by
      intro a6 H locs ls h G hl
      have h8 := pp_jmp ej6 h
      clear h h7
      obtain ⟨x9, ex9, h10⟩ := pp_lj_ex h8
      clear h8
      refine lv_iinc (v := x9) (lv' := [(4, .int x9), (0, .ref (cc_ad g 0)), (1, .int v1), (2, .int a5.1), (3, .int a5.2.1)]) hx hb dX10_bestThrow_86 hl (k := 4) rfl (by rw [ex9]; rfl) (by decide) rfl (fun ls hl => ?_)
      refine lv_goto (tgt := 8) hx hb dX10_bestThrow_89 (by decide) ?_
      exact ih1 _ h10 H locs ls G (lv_sub hl [1, 2, 3, 4, 0] rfl)
    refine lv_icmp_ge (tgt := 86) hx hb dX10_bestThrow_26 (by decide) (fun c11 => ?_) (fun c11 => ?_)
    · have h12 := pp_t c11 h7
      clear h7
      exact hj6 _ H locs ls h12 G (lv_sub hl [0, 1, 2, 3, 4] rfl)
    · have h13 := pp_f c11 h7
      clear h7
      refine lv_aload_n hx hb dX10_bestThrow_29 rfl (lv_at hl 0 rfl) ?_
      refine cc_get (mo_main g) X G (x := q) rfl hin10 1 (by decide) hf19 (v := .ref (cc_ad g (10 + 20 * 0))) rfl dX10_bestThrow_30 ?_
      refine lv_iload_n hx hb dX10_bestThrow_33 rfl (lv_at hl 1 rfl) ?_
      refine lv_iload hx hb dX10_bestThrow_34 (lv_at hl 4 rfl) ?_
      obtain ⟨r14, hc14, h15⟩ := pp_ob_ex h13
      clear h13
      refine cc_cali (q2 := q) (cc_pgC q 0) (cc_pgC q 0) (mo_crt g (c := 0) (by decide)) X G (x := q) rfl (ctX1_areOpposed l g pls q (k := 0) (by decide) (cc_gC q 0) _ _ hc14) (cwV 2 hts gX10_bestThrow_X1_areOpposed rfl rfl rfl (by decide +kernel) ⟨Nat.le_of_ble_eq_true rfl, Nat.le_of_ble_eq_true rfl⟩) (rest := []) rfl hl.1 rfl (Nat.le_of_ble_eq_true rfl) dX10_bestThrow_36 (fun H locs G => ?_)
      refine lv_if_eq (tgt := 86) hx hb dX10_bestThrow_39 (by decide) (fun c16 => ?_) (fun c16 => ?_)
      · have h17 := pp_t c16 h15
        clear h15
        exact hj6 _ H locs ls h17 G (lv_sub hl [0, 1, 2, 3, 4] rfl)
      · have h18 := pp_f c16 h15
        clear h15
        refine lv_aload_n hx hb dX10_bestThrow_42 rfl (lv_at hl 0 rfl) ?_
        refine cc_get (mo_main g) X G (x := q) rfl hin10 1 (by decide) hf19 (v := .ref (cc_ad g (10 + 20 * 0))) rfl dX10_bestThrow_43 ?_
        refine lv_iload_n hx hb dX10_bestThrow_46 rfl (lv_at hl 1 rfl) ?_
        refine lv_iload hx hb dX10_bestThrow_47 (lv_at hl 4 rfl) ?_
        refine lv_iload hx hb dX10_bestThrow_49 (lv_at hl 5 rfl) ?_
        obtain ⟨r19, hc19, h20⟩ := pp_ob_ex h18
        clear h18
        refine cc_cali (q2 := q) (cc_pgC q 0) (cc_pgC q 0) (mo_crt g (c := 0) (by decide)) X G (x := q) rfl (ctX1_gainOf l g pls q (k := 0) (by decide) (cc_gC q 0) _ _ _ hc19) (cwV 3 hts gX10_bestThrow_X1_gainOf rfl rfl rfl (by decide +kernel) ⟨Nat.le_of_ble_eq_true rfl, Nat.le_of_ble_eq_true rfl⟩) (rest := []) rfl hl.1 rfl (Nat.le_of_ble_eq_true rfl) dX10_bestThrow_51 (fun H locs G => ?_)
        refine lv_istore (lv' := [(6, .int r19), (0, .ref (cc_ad g 0)), (1, .int v1), (2, .int a5.1), (3, .int a5.2.1), (4, .int a1.2.2), (5, .int a5.2.2)]) hx hb dX10_bestThrow_54 hl (by decide) rfl (fun ls hl => ?_)
        refine lv_iload_n hx hb dX10_bestThrow_56 rfl (lv_at hl 3 rfl) ?_
        refine lv_bipush (v := -9) hx hb dX10_bestThrow_57 (by decide) ?_
        obtain ⟨j21, ej21, h22⟩ := pp_lj_ex h20
        clear h20
        have hj21 : ∀ (a21 : Int32 × Int32) (H : Heap) (locs : List Loc) (ls : Array Slot), j21 a21 = some res → cc_H g A pls q s H locs → lv_has ls 7 [(0, .ref (cc_ad g 0)), (1, .int v1), (2, .int a21.1), (3, .int a21.2), (4, .int a1.2.2), (5, .int a5.2.2)] → W p l e (headSpec wsX10_bestThrow rmX10_bestThrow).room s m args below meth c H locs 0 0 Q (F0 m 80 ls []) := by
          intro a21 H locs ls h G hl
          have h23 := pp_jmp ej21 h
          clear h h22
          obtain ⟨x24, ex24, h25⟩ := pp_lj_ex h23
          clear h23
          refine lv_iinc (v := x24) (lv' := [(5, .int x24), (0, .ref (cc_ad g 0)), (1, .int v1), (2, .int a21.1), (3, .int a21.2), (4, .int a1.2.2)]) hx hb dX10_bestThrow_80 hl (k := 5) rfl (by rw [ex24]; rfl) (by decide) rfl (fun ls hl => ?_)
          refine lv_goto (tgt := 23) hx hb dX10_bestThrow_83 (by decide) ?_
          exact ih5 _ h25 H locs ls G (lv_sub hl [1, 2, 3, 4, 5, 0] rfl)
        obtain ⟨j26, ej26, h27⟩ := pp_lj_ex h22
        clear h22
        have hj26 : ∀ (a26 : Unit) (H : Heap) (locs : List Loc) (ls : Array Slot), j26 a26 = some res → cc_H g A pls q s H locs → lv_has ls 7 [(0, .ref (cc_ad g 0)), (1, .int v1), (4, .int a1.2.2), (5, .int a5.2.2), (6, .int r19)] → W p l e (headSpec wsX10_bestThrow rmX10_bestThrow).room s m args below meth c H locs 0 0 Q (F0 m 68 ls []) := by
          intro a26 H locs ls h G hl
          have h28 := pp_jmp ej26 h
          clear h h27
          refine lv_bipush (v := 10) hx hb dX10_bestThrow_68 (by decide) ?_
          refine lv_iload hx hb dX10_bestThrow_70 (lv_at hl 2 rfl) ?_
          refine lv_imul hx hb dX10_bestThrow_72 ?_
          refine lv_iload hx hb dX10_bestThrow_73 (lv_at hl 3 rfl) ?_
          refine lv_iadd hx hb dX10_bestThrow_75 ?_
          obtain ⟨x29, ex29, h30⟩ := pp_lj_ex h28
          clear h28
          refine lv_nmi ex29 ?_
          refine lv_istore_n (lv' := [(2, .int x29), (0, .ref (cc_ad g 0)), (1, .int v1), (4, .int a1.2.2), (5, .int a5.2.2), (6, .int r19)]) hx hb dX10_bestThrow_76 rfl hl (by decide) rfl (fun ls hl => ?_)
          refine lv_iload hx hb dX10_bestThrow_77 (lv_at hl 5 rfl) ?_
          refine lv_istore_n (lv' := [(3, .int r19), (2, .int x29), (0, .ref (cc_ad g 0)), (1, .int v1), (4, .int a1.2.2), (5, .int a5.2.2), (6, .int r19)]) hx hb dX10_bestThrow_79 rfl hl (by decide) rfl (fun ls hl => ?_)
          exact hj21 _ H locs ls h30 G (lv_sub hl [2, 3, 1, 0, 4, 5] rfl)
        refine lv_icmp_eq (tgt := 68) hx hb dX10_bestThrow_59 (by decide) (fun c31 => ?_) (fun c31 => ?_)
        · have h32 := pp_t c31 h27
          clear h27
          exact hj26 _ H locs ls h32 G (lv_sub hl [1, 2, 5, 6, 0] rfl)
        · have h33 := pp_f c31 h27
          clear h27
          refine lv_iload hx hb dX10_bestThrow_62 (lv_at hl 0 rfl) ?_
          refine lv_iload_n hx hb dX10_bestThrow_64 rfl (lv_at hl 4 rfl) ?_
          refine lv_icmp_le (tgt := 80) hx hb dX10_bestThrow_65 (by decide) (fun c34 => ?_) (fun c34 => ?_)
          · have h35 := pp_t c34 h33
            clear h33
            exact hj21 _ H locs ls h35 G (lv_sub hl [1, 2, 3, 4, 5, 6] rfl)
          · have h36 := pp_f c34 h33
            clear h33
            exact hj26 _ H locs ls h36 G (lv_sub hl [1, 2, 5, 6, 0] rfl)
noncomputable def C_best (q : cc_S) (v1 : Int32) (v2 : Int32) : Option (Int32 × cc_S) := pp_ob (K_isPlayer (cc_gC q 0) v1) (fun r1 => (if r1 = (0 : Int32) then pp_ob (C_refused q (-1 : Int32)) (fun r37 => some (((1000000000 : Int32) - r37.1), r37.2)) else pp_lj (fun (a5 : Unit) => (pp_ob (K_ballsOf (cc_gC q 0) v1) (fun r8 => (if r8 = (0 : Int32) then pp_ob (C_refused q (-3 : Int32)) (fun r26 => some (((1000000000 : Int32) - r26.1), r26.2)) else pp_ob (C_bestThrow q v1) (fun r12 => pp_lj (fun (a14 : Unit) => (some (r12, q) : Option (Int32 × cc_S))) (fun j14 => (if r12 = (-9 : Int32) then j14 () else (if v2 = (0 : Int32) then j14 () else pp_ob (K_gainOf (cc_gC q 0) v1 (r12 / (10 : Int32)) (r12 - (r12 / (10 : Int32)) * (10 : Int32))) (fun r22 => some (r22, q)))))))) : Option (Int32 × cc_S))) (fun j5 => (if v2 = (0 : Int32) then j5 () else (if v2 = (1 : Int32) then j5 () else pp_ob (C_refused q (-2 : Int32)) (fun r34 => some (((1000000000 : Int32) - r34.1), r34.2)))))))
abbrev rmX10_best : Room := { frames := 7, cells := 0, slots := 0, locals := 156 }
set_option maxHeartbeats 4000000 in
set_option maxRecDepth 100000 in
theorem ctX10_best (l : Launch) (g : cc_G) (pls : va_W) (q : cc_S) (v1 : Int32) (v2 : Int32) {res : (Int32 × cc_S)} (h : C_best q v1 v2 = some res) : cc_Mi l yX10_best wsX10_best rmX10_best g pls [.ref (cc_ad g 0), .int v1, .int v2] q res.1 res.2 := by
  intro sz A hA
  unfold C_best at h
  refine cc_ofW hA (own := RX10) (by decide) rfl rfl (Nat.le_of_ble_eq_true rfl) ?_
  intro p e s m args below meth c ls X hr hlk G hl Q hQ
  have hx := X.1.1
  have hb := X.1.2.1
  have hown := X.1.2.2.2.1
  have hts := X.1.2.2.2.2
  refine (fun (key : ∀ (H : Heap) (locs : List Loc), cc_H g A pls q s H locs → W p l e (headSpec wsX10_best rmX10_best).room s m args below meth c H locs 0 0 Q (F0 m 0 ls [])) => key _ _ G) ?_
  clear G
  intro H locs G
  have hl : lv_has ls 4 [(0, .ref (cc_ad g 0)), (1, .int v1), (2, .int v2)] := hl
  have hf19 : Cond.fieldLink RX10 19 (TX10 1).1 (TX10 1).2.1 (TX10 1).2.2.1 ∈ wsX10_best := by decide +kernel
  have hin10 : ∀ y ∈ wsX100, y ∈ wsX10_best := (fun _ z => List.mem_cons_of_mem _ (List.mem_append_left _ (List.mem_append_left _ (List.mem_append_left _ (List.mem_append_left _ (List.mem_append_left _ (List.mem_append_left _ (List.mem_append_left _ (List.mem_append_left _ (List.mem_append_right _ z))))))))))
  refine lv_aload_n hx hb dX10_best_0 rfl (lv_at hl 0 rfl) ?_
  refine cc_get (mo_main g) X G (x := q) rfl hin10 1 (by decide) hf19 (v := .ref (cc_ad g (10 + 20 * 0))) rfl dX10_best_1 ?_
  refine lv_iload_n hx hb dX10_best_4 rfl (lv_at hl 1 rfl) ?_
  obtain ⟨r1, hc1, h2⟩ := pp_ob_ex h
  clear h
  refine cc_cali (q2 := q) (cc_pgC q 0) (cc_pgC q 0) (mo_crt g (c := 0) (by decide)) X G (x := q) rfl (ctX1_isPlayer l g pls q (k := 0) (by decide) (cc_gC q 0) _ hc1) (cwV 1 hts gX10_best_X1_isPlayer rfl rfl rfl (by decide +kernel) ⟨Nat.le_of_ble_eq_true rfl, Nat.le_of_ble_eq_true rfl⟩) (rest := []) rfl hl.1 rfl (Nat.le_of_ble_eq_true rfl) dX10_best_5 (fun H locs G => ?_)
  refine lv_if_ne (tgt := 20) hx hb dX10_best_8 (by decide) (fun c3 => ?_) (fun c3 => ?_)
  · have h4 := pp_f c3 h2
    clear h2
    refine lv_iload_n hx hb dX10_best_20 rfl (lv_at hl 2 rfl) ?_
    obtain ⟨j5, ej5, h6⟩ := pp_lj_ex h4
    clear h4
    have hj5 : ∀ (a5 : Unit) (H : Heap) (locs : List Loc) (ls : Array Slot), j5 a5 = some res → cc_H g A pls q s H locs → lv_has ls 4 [(0, .ref (cc_ad g 0)), (1, .int v1), (2, .int v2)] → W p l e (headSpec wsX10_best rmX10_best).room s m args below meth c H locs 0 0 Q (F0 m 39 ls []) := by
      intro a5 H locs ls h G hl
      have h7 := pp_jmp ej5 h
      clear h h6
      refine lv_aload_n hx hb dX10_best_39 rfl (lv_at hl 0 rfl) ?_
      refine cc_get (mo_main g) X G (x := q) rfl hin10 1 (by decide) hf19 (v := .ref (cc_ad g (10 + 20 * 0))) rfl dX10_best_40 ?_
      refine lv_iload_n hx hb dX10_best_43 rfl (lv_at hl 1 rfl) ?_
      obtain ⟨r8, hc8, h9⟩ := pp_ob_ex h7
      clear h7
      refine cc_cali (q2 := q) (cc_pgC q 0) (cc_pgC q 0) (mo_crt g (c := 0) (by decide)) X G (x := q) rfl (ctX1_ballsOf l g pls q (k := 0) (by decide) (cc_gC q 0) _ hc8) (cwV 1 hts gX10_best_X1_ballsOf rfl rfl rfl (by decide +kernel) ⟨Nat.le_of_ble_eq_true rfl, Nat.le_of_ble_eq_true rfl⟩) (rest := []) rfl hl.1 rfl (Nat.le_of_ble_eq_true rfl) dX10_best_44 (fun H locs G => ?_)
      refine lv_if_ne (tgt := 60) hx hb dX10_best_47 (by decide) (fun c10 => ?_) (fun c10 => ?_)
      · have h11 := pp_f c10 h9
        clear h9
        refine lv_aload_n hx hb dX10_best_60 rfl (lv_at hl 0 rfl) ?_
        refine lv_iload_n hx hb dX10_best_61 rfl (lv_at hl 1 rfl) ?_
        obtain ⟨r12, hc12, h13⟩ := pp_ob_ex h11
        clear h11
        refine cc_cali (q2 := q) rfl rfl (mo_main g) X G (x := q) rfl (ctX10_bestThrow l g pls q _ hc12) (cwV 1 hts gX10_best_X10_bestThrow rfl rfl rfl (by decide +kernel) ⟨Nat.le_of_ble_eq_true rfl, Nat.le_of_ble_eq_true rfl⟩) (rest := []) rfl hl.1 rfl (Nat.le_of_ble_eq_true rfl) dX10_best_62 (fun H locs G => ?_)
        refine lv_istore_n (lv' := [(3, .int r12), (0, .ref (cc_ad g 0)), (1, .int v1), (2, .int v2)]) hx hb dX10_best_65 rfl hl (by decide) rfl (fun ls hl => ?_)
        refine lv_iload_n hx hb dX10_best_66 rfl (lv_at hl 0 rfl) ?_
        refine lv_bipush (v := -9) hx hb dX10_best_67 (by decide) ?_
        obtain ⟨j14, ej14, h15⟩ := pp_lj_ex h13
        clear h13
        have hj14 : ∀ (a14 : Unit) (H : Heap) (locs : List Loc) (ls : Array Slot), j14 a14 = some res → cc_H g A pls q s H locs → lv_has ls 4 [(3, .int r12)] → W p l e (headSpec wsX10_best rmX10_best).room s m args below meth c H locs 0 0 Q (F0 m 76 ls []) := by
          intro a14 H locs ls h G hl
          have h16 := pp_jmp ej14 h
          clear h h15
          refine lv_iload_n hx hb dX10_best_76 rfl (lv_at hl 0 rfl) ?_
          exact cc_iretW cc_id X hr hlk rfl G h16 hQ dX10_best_77
        refine lv_icmp_eq (tgt := 76) hx hb dX10_best_69 (by decide) (fun c17 => ?_) (fun c17 => ?_)
        · have h18 := pp_t c17 h15
          clear h15
          exact hj14 _ H locs ls h18 G (lv_sub hl [0] rfl)
        · have h19 := pp_f c17 h15
          clear h15
          refine lv_iload_n hx hb dX10_best_72 rfl (lv_at hl 3 rfl) ?_
          refine lv_if_ne (tgt := 78) hx hb dX10_best_73 (by decide) (fun c20 => ?_) (fun c20 => ?_)
          · have h21 := pp_f c20 h19
            clear h19
            refine lv_aload_n hx hb dX10_best_78 rfl (lv_at hl 1 rfl) ?_
            refine cc_get (mo_main g) X G (x := q) rfl hin10 1 (by decide) hf19 (v := .ref (cc_ad g (10 + 20 * 0))) rfl dX10_best_79 ?_
            refine lv_iload_n hx hb dX10_best_82 rfl (lv_at hl 2 rfl) ?_
            refine lv_iload_n hx hb dX10_best_83 rfl (lv_at hl 0 rfl) ?_
            refine lv_bipush (v := 10) hx hb dX10_best_84 (by decide) ?_
            refine lv_idiv hx hb dX10_best_86 (by decide) ?_
            refine lv_iload_n hx hb dX10_best_87 rfl (lv_at hl 0 rfl) ?_
            refine lv_bipush (v := 10) hx hb dX10_best_88 (by decide) ?_
            refine lv_irem hx hb dX10_best_90 (by decide) ?_
            obtain ⟨r22, hc22, h23⟩ := pp_ob_ex h21
            clear h21
            refine cc_cali (q2 := q) (cc_pgC q 0) (cc_pgC q 0) (mo_crt g (c := 0) (by decide)) X G (x := q) rfl (ctX1_gainOf l g pls q (k := 0) (by decide) (cc_gC q 0) _ _ _ hc22) (cwV 3 hts gX10_best_X1_gainOf rfl rfl rfl (by decide +kernel) ⟨Nat.le_of_ble_eq_true rfl, Nat.le_of_ble_eq_true rfl⟩) (rest := []) rfl hl.1 rfl (Nat.le_of_ble_eq_true rfl) dX10_best_91 (fun H locs G => ?_)
            exact cc_iretW cc_id X hr hlk rfl G h23 hQ dX10_best_94
          · have h24 := pp_t c20 h19
            clear h19
            exact hj14 _ H locs ls h24 G (lv_sub hl [0] rfl)
      · have h25 := pp_t c10 h9
        clear h9
        refine lv_ldc (v := 1000000000) hx hb hown (hts (.constant RX10 149 (1000000000)) (by decide +kernel)) dX10_best_50 ?_
        refine lv_aload_n hx hb dX10_best_52 rfl (lv_at hl 0 rfl) ?_
        refine lv_bipush (v := -3) hx hb dX10_best_53 (by decide) ?_
        obtain ⟨r26, hc26, h27⟩ := pp_ob_ex h25
        clear h25
        refine cc_cali (q2 := r26.2) rfl rfl (mo_main g) X G (x := q) rfl (ctX10_refused l g pls q _ hc26) (cwV 1 hts gX10_best_X10_refused rfl rfl rfl (by decide +kernel) ⟨Nat.le_of_ble_eq_true rfl, Nat.le_of_ble_eq_true rfl⟩) (rest := [.int (1000000000 : Int32)]) rfl hl.1 rfl (Nat.le_of_ble_eq_true rfl) dX10_best_55 (fun H locs G => ?_)
        refine lv_isub hx hb dX10_best_58 ?_
        exact cc_iretW cc_id X hr hlk rfl G h27 hQ dX10_best_59
    refine lv_if_eq (tgt := 39) hx hb dX10_best_21 (by decide) (fun c28 => ?_) (fun c28 => ?_)
    · have h29 := pp_t c28 h6
      clear h6
      exact hj5 _ H locs ls h29 G hl
    · have h30 := pp_f c28 h6
      clear h6
      refine lv_iload_n hx hb dX10_best_24 rfl (lv_at hl 2 rfl) ?_
      refine lv_iconst (v := 1) hx hb dX10_best_25 (by decide) ?_
      refine lv_icmp_eq (tgt := 39) hx hb dX10_best_26 (by decide) (fun c31 => ?_) (fun c31 => ?_)
      · have h32 := pp_t c31 h30
        clear h30
        exact hj5 _ H locs ls h32 G hl
      · have h33 := pp_f c31 h30
        clear h30
        refine lv_ldc (v := 1000000000) hx hb hown (hts (.constant RX10 149 (1000000000)) (by decide +kernel)) dX10_best_29 ?_
        refine lv_aload_n hx hb dX10_best_31 rfl (lv_at hl 0 rfl) ?_
        refine lv_bipush (v := -2) hx hb dX10_best_32 (by decide) ?_
        obtain ⟨r34, hc34, h35⟩ := pp_ob_ex h33
        clear h33
        refine cc_cali (q2 := r34.2) rfl rfl (mo_main g) X G (x := q) rfl (ctX10_refused l g pls q _ hc34) (cwV 1 hts gX10_best_X10_refused rfl rfl rfl (by decide +kernel) ⟨Nat.le_of_ble_eq_true rfl, Nat.le_of_ble_eq_true rfl⟩) (rest := [.int (1000000000 : Int32)]) rfl hl.1 rfl (Nat.le_of_ble_eq_true rfl) dX10_best_34 (fun H locs G => ?_)
        refine lv_isub hx hb dX10_best_37 ?_
        exact cc_iretW cc_id X hr hlk rfl G h35 hQ dX10_best_38
  · have h36 := pp_t c3 h2
    clear h2
    refine lv_ldc (v := 1000000000) hx hb hown (hts (.constant RX10 149 (1000000000)) (by decide +kernel)) dX10_best_11 ?_
    refine lv_aload_n hx hb dX10_best_13 rfl (lv_at hl 0 rfl) ?_
    refine lv_iconst (v := -1) hx hb dX10_best_14 (by decide) ?_
    obtain ⟨r37, hc37, h38⟩ := pp_ob_ex h36
    clear h36
    refine cc_cali (q2 := r37.2) rfl rfl (mo_main g) X G (x := q) rfl (ctX10_refused l g pls q _ hc37) (cwV 1 hts gX10_best_X10_refused rfl rfl rfl (by decide +kernel) ⟨Nat.le_of_ble_eq_true rfl, Nat.le_of_ble_eq_true rfl⟩) (rest := [.int (1000000000 : Int32)]) rfl hl.1 rfl (Nat.le_of_ble_eq_true rfl) dX10_best_15 (fun H locs G => ?_)
    refine lv_isub hx hb dX10_best_18 ?_
    exact cc_iretW cc_id X hr hlk rfl G h38 hQ dX10_best_19
noncomputable def C_isOneTwice (v0 : Int32) (v1 : Int32) (v2 : Int32) : Option Int32 := pp_lj (fun (a1 : Unit) => (some (1 : Int32) : Option Int32)) (fun j1 => (if v0 = v1 then j1 () else (if v0 = v2 then j1 () else (if v1 = v2 then j1 () else some (0 : Int32)))))
abbrev rmX10_isOneTwice : Room := { frames := 0, cells := 0, slots := 0, locals := 0 }
set_option maxHeartbeats 4000000 in
set_option maxRecDepth 100000 in
theorem ctX10_isOneTwice (l : Launch) (v0 : Int32) (v1 : Int32) (v2 : Int32) {res : Int32} (h : C_isOneTwice v0 v1 v2 = some res) : xs_Mi l yX10_isOneTwice wsX10_isOneTwice rmX10_isOneTwice [.int v0, .int v1, .int v2] res := by
  intro sz
  unfold C_isOneTwice at h
  refine xs_ofW (own := RX10) (by decide) rfl rfl (Nat.le_of_ble_eq_true rfl) ?_
  intro p e s m args below meth c ls X hr hlk hl Q hQ
  have hx := X.1
  have hb := X.2.1
  have hown := X.2.2.2.1
  have hts := X.2.2.2.2
  have hl : lv_has ls 3 [(0, .int v0), (1, .int v1), (2, .int v2)] := hl
  refine lv_iload_n hx hb dX10_isOneTwice_0 rfl (lv_at hl 0 rfl) ?_
  refine lv_iload_n hx hb dX10_isOneTwice_1 rfl (lv_at hl 1 rfl) ?_
  obtain ⟨j1, ej1, h2⟩ := pp_lj_ex h
  clear h
  have hj1 : ∀ (a1 : Unit) (ls : Array Slot), j1 a1 = some res → lv_has ls 3 [] → W p l e (headSpec wsX10_isOneTwice rmX10_isOneTwice).room s m args below meth c s.heap [] 0 0 Q (F0 m 15 ls []) := by
    intro a1 ls h hl
    have h3 := pp_jmp ej1 h
    clear h h2
    refine lv_iconst (v := 1) hx hb dX10_isOneTwice_15 (by decide) ?_
    refine lv_goto (tgt := 20) hx hb dX10_isOneTwice_16 (by decide) ?_
    exact xs_iret hx hb hr hlk rfl h3 hQ dX10_isOneTwice_20
  refine lv_icmp_eq (tgt := 15) hx hb dX10_isOneTwice_2 (by decide) (fun c4 => ?_) (fun c4 => ?_)
  · have h5 := pp_t c4 h2
    clear h2
    exact hj1 _ ls h5 (lv_sub hl [] rfl)
  · have h6 := pp_f c4 h2
    clear h2
    refine lv_iload_n hx hb dX10_isOneTwice_5 rfl (lv_at hl 0 rfl) ?_
    refine lv_iload_n hx hb dX10_isOneTwice_6 rfl (lv_at hl 2 rfl) ?_
    refine lv_icmp_eq (tgt := 15) hx hb dX10_isOneTwice_7 (by decide) (fun c7 => ?_) (fun c7 => ?_)
    · have h8 := pp_t c7 h6
      clear h6
      exact hj1 _ ls h8 (lv_sub hl [] rfl)
    · have h9 := pp_f c7 h6
      clear h6
      refine lv_iload_n hx hb dX10_isOneTwice_10 rfl (lv_at hl 1 rfl) ?_
      refine lv_iload_n hx hb dX10_isOneTwice_11 rfl (lv_at hl 2 rfl) ?_
      refine lv_icmp_ne (tgt := 19) hx hb dX10_isOneTwice_12 (by decide) (fun c10 => ?_) (fun c10 => ?_)
      · have h11 := pp_f c10 h9
        clear h9
        refine lv_iconst (v := 0) hx hb dX10_isOneTwice_19 (by decide) ?_
        exact xs_iret hx hb hr hlk rfl h11 hQ dX10_isOneTwice_20
      · have h12 := pp_t c10 h9
        clear h9
        exact hj1 _ ls h12 (lv_sub hl [] rfl)
noncomputable def C_two (q : cc_S) (v1 : Int32) (v2 : Int32) (v3 : Int32) (v4 : Int32) : Option (Int32 × cc_S) := pp_ob (K_isPlayer (cc_gC q 0) v1) (fun r1 => pp_lj (fun (a3 : Unit) => (pp_ob (C_refused q (-1 : Int32)) (fun r6 => some (r6.1, r6.2)) : Option (Int32 × cc_S))) (fun j3 => (if r1 = (0 : Int32) then j3 () else pp_ob (K_isPlayer (cc_gC q 0) v2) (fun r11 => (if r11 = (0 : Int32) then j3 () else pp_ob (K_isPlayer (cc_gC q 0) v3) (fun r16 => (if r16 = (0 : Int32) then j3 () else pp_ob (C_isOneTwice v1 v2 v3) (fun r21 => (if r21 = (0 : Int32) then pp_ob (C_isHow v4) (fun r25 => (if r25 = (0 : Int32) then pp_ob (C_refused q (-2 : Int32)) (fun r51 => some (r51.1, r51.2)) else pp_ob (K_couldThrowAt (cc_gC q 0) v1 v3) (fun r29 => pp_lj (fun (a31 : Unit) => (pp_ob (C_refused q (-3 : Int32)) (fun r34 => some (r34.1, r34.2)) : Option (Int32 × cc_S))) (fun j31 => (if r29 = (0 : Int32) then j31 () else pp_ob (K_couldThrowAt (cc_gC q 0) v2 v3) (fun r39 => (if r39 = (0 : Int32) then j31 () else pp_ob (K_hitOf (cc_gC q 0) v1 v3 v4) (fun r43 => pp_ob (K_hitOf (cc_gC q 0) v2 v3 v4) (fun r45 => pp_lj ((((40 : Int32) - r43) * ((40 : Int32) - r45)) : Int32) (fun x47 => some (((1600 : Int32) - x47), q))))))))))) else j3 ())))))))))
abbrev rmX10_two : Room := { frames := 5, cells := 0, slots := 0, locals := 107 }
set_option maxHeartbeats 4000000 in
set_option maxRecDepth 100000 in
theorem ctX10_two (l : Launch) (g : cc_G) (pls : va_W) (q : cc_S) (v1 : Int32) (v2 : Int32) (v3 : Int32) (v4 : Int32) {res : (Int32 × cc_S)} (h : C_two q v1 v2 v3 v4 = some res) : cc_Mi l yX10_two wsX10_two rmX10_two g pls [.ref (cc_ad g 0), .int v1, .int v2, .int v3, .int v4] q res.1 res.2 := by
  intro sz A hA
  unfold C_two at h
  refine cc_ofW hA (own := RX10) (by decide) rfl rfl (Nat.le_of_ble_eq_true rfl) ?_
  intro p e s m args below meth c ls X hr hlk G hl Q hQ
  have hx := X.1.1
  have hb := X.1.2.1
  have hown := X.1.2.2.2.1
  have hts := X.1.2.2.2.2
  refine (fun (key : ∀ (H : Heap) (locs : List Loc), cc_H g A pls q s H locs → W p l e (headSpec wsX10_two rmX10_two).room s m args below meth c H locs 0 0 Q (F0 m 0 ls [])) => key _ _ G) ?_
  clear G
  intro H locs G
  have hl : lv_has ls 6 [(0, .ref (cc_ad g 0)), (1, .int v1), (2, .int v2), (3, .int v3), (4, .int v4)] := hl
  have hf19 : Cond.fieldLink RX10 19 (TX10 1).1 (TX10 1).2.1 (TX10 1).2.2.1 ∈ wsX10_two := by decide +kernel
  have hin10 : ∀ y ∈ wsX100, y ∈ wsX10_two := (fun _ z => List.mem_cons_of_mem _ (List.mem_append_left _ (List.mem_append_left _ (List.mem_append_left _ (List.mem_append_left _ (List.mem_append_left _ (List.mem_append_left _ (List.mem_append_left _ (List.mem_append_left _ (List.mem_append_right _ z))))))))))
  refine lv_aload_n hx hb dX10_two_0 rfl (lv_at hl 0 rfl) ?_
  refine cc_get (mo_main g) X G (x := q) rfl hin10 1 (by decide) hf19 (v := .ref (cc_ad g (10 + 20 * 0))) rfl dX10_two_1 ?_
  refine lv_iload_n hx hb dX10_two_4 rfl (lv_at hl 1 rfl) ?_
  obtain ⟨r1, hc1, h2⟩ := pp_ob_ex h
  clear h
  refine cc_cali (q2 := q) (cc_pgC q 0) (cc_pgC q 0) (mo_crt g (c := 0) (by decide)) X G (x := q) rfl (ctX1_isPlayer l g pls q (k := 0) (by decide) (cc_gC q 0) _ hc1) (cwV 1 hts gX10_two_X1_isPlayer rfl rfl rfl (by decide +kernel) ⟨Nat.le_of_ble_eq_true rfl, Nat.le_of_ble_eq_true rfl⟩) (rest := []) rfl hl.1 rfl (Nat.le_of_ble_eq_true rfl) dX10_two_5 (fun H locs G => ?_)
  obtain ⟨j3, ej3, h4⟩ := pp_lj_ex h2
  clear h2
  have hj3 : ∀ (a3 : Unit) (H : Heap) (locs : List Loc) (ls : Array Slot), j3 a3 = some res → cc_H g A pls q s H locs → lv_has ls 6 [(0, .ref (cc_ad g 0))] → W p l e (headSpec wsX10_two rmX10_two).room s m args below meth c H locs 0 0 Q (F0 m 42 ls []) := by
    intro a3 H locs ls h G hl
    have h5 := pp_jmp ej3 h
    clear h h4
    refine lv_aload_n hx hb dX10_two_42 rfl (lv_at hl 0 rfl) ?_
    refine lv_iconst (v := -1) hx hb dX10_two_43 (by decide) ?_
    obtain ⟨r6, hc6, h7⟩ := pp_ob_ex h5
    clear h5
    refine cc_cali (q2 := r6.2) rfl rfl (mo_main g) X G (x := q) rfl (ctX10_refused l g pls q _ hc6) (cwV 1 hts gX10_two_X10_refused rfl rfl rfl (by decide +kernel) ⟨Nat.le_of_ble_eq_true rfl, Nat.le_of_ble_eq_true rfl⟩) (rest := []) rfl hl.1 rfl (Nat.le_of_ble_eq_true rfl) dX10_two_44 (fun H locs G => ?_)
    exact cc_iretW cc_id X hr hlk rfl G h7 hQ dX10_two_47
  refine lv_if_eq (tgt := 42) hx hb dX10_two_8 (by decide) (fun c8 => ?_) (fun c8 => ?_)
  · have h9 := pp_t c8 h4
    clear h4
    exact hj3 _ H locs ls h9 G (lv_sub hl [0] rfl)
  · have h10 := pp_f c8 h4
    clear h4
    refine lv_aload_n hx hb dX10_two_11 rfl (lv_at hl 0 rfl) ?_
    refine cc_get (mo_main g) X G (x := q) rfl hin10 1 (by decide) hf19 (v := .ref (cc_ad g (10 + 20 * 0))) rfl dX10_two_12 ?_
    refine lv_iload_n hx hb dX10_two_15 rfl (lv_at hl 2 rfl) ?_
    obtain ⟨r11, hc11, h12⟩ := pp_ob_ex h10
    clear h10
    refine cc_cali (q2 := q) (cc_pgC q 0) (cc_pgC q 0) (mo_crt g (c := 0) (by decide)) X G (x := q) rfl (ctX1_isPlayer l g pls q (k := 0) (by decide) (cc_gC q 0) _ hc11) (cwV 1 hts gX10_two_X1_isPlayer rfl rfl rfl (by decide +kernel) ⟨Nat.le_of_ble_eq_true rfl, Nat.le_of_ble_eq_true rfl⟩) (rest := []) rfl hl.1 rfl (Nat.le_of_ble_eq_true rfl) dX10_two_16 (fun H locs G => ?_)
    refine lv_if_eq (tgt := 42) hx hb dX10_two_19 (by decide) (fun c13 => ?_) (fun c13 => ?_)
    · have h14 := pp_t c13 h12
      clear h12
      exact hj3 _ H locs ls h14 G (lv_sub hl [0] rfl)
    · have h15 := pp_f c13 h12
      clear h12
      refine lv_aload_n hx hb dX10_two_22 rfl (lv_at hl 0 rfl) ?_
      refine cc_get (mo_main g) X G (x := q) rfl hin10 1 (by decide) hf19 (v := .ref (cc_ad g (10 + 20 * 0))) rfl dX10_two_23 ?_
      refine lv_iload_n hx hb dX10_two_26 rfl (lv_at hl 3 rfl) ?_
      obtain ⟨r16, hc16, h17⟩ := pp_ob_ex h15
      clear h15
      refine cc_cali (q2 := q) (cc_pgC q 0) (cc_pgC q 0) (mo_crt g (c := 0) (by decide)) X G (x := q) rfl (ctX1_isPlayer l g pls q (k := 0) (by decide) (cc_gC q 0) _ hc16) (cwV 1 hts gX10_two_X1_isPlayer rfl rfl rfl (by decide +kernel) ⟨Nat.le_of_ble_eq_true rfl, Nat.le_of_ble_eq_true rfl⟩) (rest := []) rfl hl.1 rfl (Nat.le_of_ble_eq_true rfl) dX10_two_27 (fun H locs G => ?_)
      refine lv_if_eq (tgt := 42) hx hb dX10_two_30 (by decide) (fun c18 => ?_) (fun c18 => ?_)
      · have h19 := pp_t c18 h17
        clear h17
        exact hj3 _ H locs ls h19 G (lv_sub hl [0] rfl)
      · have h20 := pp_f c18 h17
        clear h17
        refine lv_iload_n hx hb dX10_two_33 rfl (lv_at hl 1 rfl) ?_
        refine lv_iload_n hx hb dX10_two_34 rfl (lv_at hl 2 rfl) ?_
        refine lv_iload_n hx hb dX10_two_35 rfl (lv_at hl 3 rfl) ?_
        obtain ⟨r21, hc21, h22⟩ := pp_ob_ex h20
        clear h20
        refine cc_csi X G (ctX10_isOneTwice l _ _ _ hc21) (va_cwS 3 hts gX10_two_X10_isOneTwice rfl rfl rfl (by decide +kernel) ⟨Nat.le_of_ble_eq_true rfl, Nat.le_of_ble_eq_true rfl⟩) (rest := []) rfl hl.1 rfl (Nat.le_of_ble_eq_true rfl) dX10_two_36 (fun H locs G => ?_)
        refine lv_if_eq (tgt := 48) hx hb dX10_two_39 (by decide) (fun c23 => ?_) (fun c23 => ?_)
        · have h24 := pp_t c23 h22
          clear h22
          refine lv_iload hx hb dX10_two_48 (lv_at hl 4 rfl) ?_
          obtain ⟨r25, hc25, h26⟩ := pp_ob_ex h24
          clear h24
          refine cc_csi X G (ctX10_isHow l _ hc25) (va_cwS 1 hts gX10_two_X10_isHow rfl rfl rfl (by decide +kernel) ⟨Nat.le_of_ble_eq_true rfl, Nat.le_of_ble_eq_true rfl⟩) (rest := []) rfl hl.1 rfl (Nat.le_of_ble_eq_true rfl) dX10_two_50 (fun H locs G => ?_)
          refine lv_if_ne (tgt := 63) hx hb dX10_two_53 (by decide) (fun c27 => ?_) (fun c27 => ?_)
          · have h28 := pp_f c27 h26
            clear h26
            refine lv_aload_n hx hb dX10_two_63 rfl (lv_at hl 0 rfl) ?_
            refine cc_get (mo_main g) X G (x := q) rfl hin10 1 (by decide) hf19 (v := .ref (cc_ad g (10 + 20 * 0))) rfl dX10_two_64 ?_
            refine lv_iload_n hx hb dX10_two_67 rfl (lv_at hl 1 rfl) ?_
            refine lv_iload_n hx hb dX10_two_68 rfl (lv_at hl 3 rfl) ?_
            obtain ⟨r29, hc29, h30⟩ := pp_ob_ex h28
            clear h28
            refine cc_cali (q2 := q) (cc_pgC q 0) (cc_pgC q 0) (mo_crt g (c := 0) (by decide)) X G (x := q) rfl (ctX1_couldThrowAt l g pls q (k := 0) (by decide) (cc_gC q 0) _ _ hc29) (cwV 2 hts gX10_two_X1_couldThrowAt rfl rfl rfl (by decide +kernel) ⟨Nat.le_of_ble_eq_true rfl, Nat.le_of_ble_eq_true rfl⟩) (rest := []) rfl hl.1 rfl (Nat.le_of_ble_eq_true rfl) dX10_two_69 (fun H locs G => ?_)
            obtain ⟨j31, ej31, h32⟩ := pp_lj_ex h30
            clear h30
            have hj31 : ∀ (a31 : Unit) (H : Heap) (locs : List Loc) (ls : Array Slot), j31 a31 = some res → cc_H g A pls q s H locs → lv_has ls 6 [(0, .ref (cc_ad g 0))] → W p l e (headSpec wsX10_two rmX10_two).room s m args below meth c H locs 0 0 Q (F0 m 87 ls []) := by
              intro a31 H locs ls h G hl
              have h33 := pp_jmp ej31 h
              clear h h32
              refine lv_aload_n hx hb dX10_two_87 rfl (lv_at hl 0 rfl) ?_
              refine lv_bipush (v := -3) hx hb dX10_two_88 (by decide) ?_
              obtain ⟨r34, hc34, h35⟩ := pp_ob_ex h33
              clear h33
              refine cc_cali (q2 := r34.2) rfl rfl (mo_main g) X G (x := q) rfl (ctX10_refused l g pls q _ hc34) (cwV 1 hts gX10_two_X10_refused rfl rfl rfl (by decide +kernel) ⟨Nat.le_of_ble_eq_true rfl, Nat.le_of_ble_eq_true rfl⟩) (rest := []) rfl hl.1 rfl (Nat.le_of_ble_eq_true rfl) dX10_two_90 (fun H locs G => ?_)
              exact cc_iretW cc_id X hr hlk rfl G h35 hQ dX10_two_93
            refine lv_if_eq (tgt := 87) hx hb dX10_two_72 (by decide) (fun c36 => ?_) (fun c36 => ?_)
            · have h37 := pp_t c36 h32
              clear h32
              exact hj31 _ H locs ls h37 G (lv_sub hl [0] rfl)
            · have h38 := pp_f c36 h32
              clear h32
              refine lv_aload_n hx hb dX10_two_75 rfl (lv_at hl 0 rfl) ?_
              refine cc_get (mo_main g) X G (x := q) rfl hin10 1 (by decide) hf19 (v := .ref (cc_ad g (10 + 20 * 0))) rfl dX10_two_76 ?_
              refine lv_iload_n hx hb dX10_two_79 rfl (lv_at hl 2 rfl) ?_
              refine lv_iload_n hx hb dX10_two_80 rfl (lv_at hl 3 rfl) ?_
              obtain ⟨r39, hc39, h40⟩ := pp_ob_ex h38
              clear h38
              refine cc_cali (q2 := q) (cc_pgC q 0) (cc_pgC q 0) (mo_crt g (c := 0) (by decide)) X G (x := q) rfl (ctX1_couldThrowAt l g pls q (k := 0) (by decide) (cc_gC q 0) _ _ hc39) (cwV 2 hts gX10_two_X1_couldThrowAt rfl rfl rfl (by decide +kernel) ⟨Nat.le_of_ble_eq_true rfl, Nat.le_of_ble_eq_true rfl⟩) (rest := []) rfl hl.1 rfl (Nat.le_of_ble_eq_true rfl) dX10_two_81 (fun H locs G => ?_)
              refine lv_if_ne (tgt := 94) hx hb dX10_two_84 (by decide) (fun c41 => ?_) (fun c41 => ?_)
              · have h42 := pp_f c41 h40
                clear h40
                refine lv_bipush (v := 40) hx hb dX10_two_94 (by decide) ?_
                refine lv_aload_n hx hb dX10_two_96 rfl (lv_at hl 0 rfl) ?_
                refine cc_get (mo_main g) X G (x := q) rfl hin10 1 (by decide) hf19 (v := .ref (cc_ad g (10 + 20 * 0))) rfl dX10_two_97 ?_
                refine lv_iload_n hx hb dX10_two_100 rfl (lv_at hl 1 rfl) ?_
                refine lv_iload_n hx hb dX10_two_101 rfl (lv_at hl 3 rfl) ?_
                refine lv_iload hx hb dX10_two_102 (lv_at hl 4 rfl) ?_
                obtain ⟨r43, hc43, h44⟩ := pp_ob_ex h42
                clear h42
                refine cc_cali (q2 := q) (cc_pgC q 0) (cc_pgC q 0) (mo_crt g (c := 0) (by decide)) X G (x := q) rfl (ctX1_hitOf l g pls q (k := 0) (by decide) (cc_gC q 0) _ _ _ hc43) (cwV 3 hts gX10_two_X1_hitOf rfl rfl rfl (by decide +kernel) ⟨Nat.le_of_ble_eq_true rfl, Nat.le_of_ble_eq_true rfl⟩) (rest := [.int (40 : Int32)]) rfl hl.1 rfl (Nat.le_of_ble_eq_true rfl) dX10_two_104 (fun H locs G => ?_)
                refine lv_isub hx hb dX10_two_107 ?_
                refine lv_bipush (v := 40) hx hb dX10_two_108 (by decide) ?_
                refine lv_aload_n hx hb dX10_two_110 rfl (lv_at hl 0 rfl) ?_
                refine cc_get (mo_main g) X G (x := q) rfl hin10 1 (by decide) hf19 (v := .ref (cc_ad g (10 + 20 * 0))) rfl dX10_two_111 ?_
                refine lv_iload_n hx hb dX10_two_114 rfl (lv_at hl 2 rfl) ?_
                refine lv_iload_n hx hb dX10_two_115 rfl (lv_at hl 3 rfl) ?_
                refine lv_iload hx hb dX10_two_116 (lv_at hl 4 rfl) ?_
                obtain ⟨r45, hc45, h46⟩ := pp_ob_ex h44
                clear h44
                refine cc_cali (q2 := q) (cc_pgC q 0) (cc_pgC q 0) (mo_crt g (c := 0) (by decide)) X G (x := q) rfl (ctX1_hitOf l g pls q (k := 0) (by decide) (cc_gC q 0) _ _ _ hc45) (cwV 3 hts gX10_two_X1_hitOf rfl rfl rfl (by decide +kernel) ⟨Nat.le_of_ble_eq_true rfl, Nat.le_of_ble_eq_true rfl⟩) (rest := [.int (40 : Int32), .int ((40 : Int32) - r43)]) rfl hl.1 rfl (Nat.le_of_ble_eq_true rfl) dX10_two_118 (fun H locs G => ?_)
                refine lv_isub hx hb dX10_two_121 ?_
                refine lv_imul hx hb dX10_two_122 ?_
                obtain ⟨x47, ex47, h48⟩ := pp_lj_ex h46
                clear h46
                refine lv_nmi ex47 ?_
                refine lv_istore (lv' := [(5, .int x47), (0, .ref (cc_ad g 0)), (1, .int v1), (2, .int v2), (3, .int v3), (4, .int v4)]) hx hb dX10_two_123 hl (by decide) rfl (fun ls hl => ?_)
                refine lv_sipush (v := 1600) hx hb dX10_two_125 (by decide) ?_
                refine lv_iload hx hb dX10_two_128 (lv_at hl 0 rfl) ?_
                refine lv_isub hx hb dX10_two_130 ?_
                exact cc_iretW cc_id X hr hlk rfl G h48 hQ dX10_two_131
              · have h49 := pp_t c41 h40
                clear h40
                exact hj31 _ H locs ls h49 G (lv_sub hl [0] rfl)
          · have h50 := pp_t c27 h26
            clear h26
            refine lv_aload_n hx hb dX10_two_56 rfl (lv_at hl 0 rfl) ?_
            refine lv_bipush (v := -2) hx hb dX10_two_57 (by decide) ?_
            obtain ⟨r51, hc51, h52⟩ := pp_ob_ex h50
            clear h50
            refine cc_cali (q2 := r51.2) rfl rfl (mo_main g) X G (x := q) rfl (ctX10_refused l g pls q _ hc51) (cwV 1 hts gX10_two_X10_refused rfl rfl rfl (by decide +kernel) ⟨Nat.le_of_ble_eq_true rfl, Nat.le_of_ble_eq_true rfl⟩) (rest := []) rfl hl.1 rfl (Nat.le_of_ble_eq_true rfl) dX10_two_59 (fun H locs G => ?_)
            exact cc_iretW cc_id X hr hlk rfl G h52 hQ dX10_two_62
        · have h53 := pp_f c23 h22
          clear h22
          exact hj3 _ H locs ls h53 G (lv_sub hl [0] rfl)
noncomputable def C_commonDivisor (v0 : Int64) (v2 : Int64) : Option Int64 := pp_it (fun (self1 : Int64 × Int64 × Int32 → Option Int64) (a1 : Int64 × Int64 × Int32) => pp_lj (fun (a2 : Unit) => (some a1.1 : Option Int64)) (fun j2 => (if (100 : Int32) ≤ a1.2.2 then j2 () else (if (lg_cmp a1.2.1 (0 : Int64)) = (0 : Int32) then j2 () else pp_dl a1.2.1 (pp_lj ((a1.1 - (a1.1 / a1.2.1) * a1.2.1) : Int64) (fun x13 => pp_lj (a1.2.2 + 1 : Int32) (fun x15 => self1 (a1.2.1, x13, x15)))))))) 200 (v0, v2, (0 : Int32))
abbrev rmX10_commonDivisor : Room := { frames := 0, cells := 0, slots := 0, locals := 0 }
set_option maxHeartbeats 4000000 in
set_option maxRecDepth 100000 in
theorem ctX10_commonDivisor (l : Launch) (v0 : Int64) (v2 : Int64) {res : Int64} (h : C_commonDivisor v0 v2 = some res) : xs_Ml l yX10_commonDivisor wsX10_commonDivisor rmX10_commonDivisor [.long v0, .long v2] res := by
  intro sz
  unfold C_commonDivisor at h
  refine xs_ofW (own := RX10) (by decide) rfl rfl (Nat.le_of_ble_eq_true rfl) ?_
  intro p e s m args below meth c ls X hr hlk hl Q hQ
  have hx := X.1
  have hb := X.2.1
  have hown := X.2.2.2.1
  have hts := X.2.2.2.2
  have hl : lv_has ls 7 [(0, .long v0), (2, .long v2)] := hl
  refine lv_iconst (v := 0) hx hb dX10_commonDivisor_0 (by decide) ?_
  refine lv_istore (lv' := [(4, .int (0 : Int32)), (0, .long v0), (2, .long v2)]) hx hb dX10_commonDivisor_1 hl (by decide) rfl (fun ls hl => ?_)
  refine pp_loop (I := fun (a1 : Int64 × Int64 × Int32) => ∀ (ls : Array Slot), lv_has ls 7 [(0, .long a1.1), (2, .long a1.2.1), (4, .int a1.2.2)] → W p l e (headSpec wsX10_commonDivisor rmX10_commonDivisor).room s m args below meth c s.heap [] 0 0 Q (F0 m 3 ls [])) ?_ 200 _ h ls (lv_sub hl [1, 2, 0] rfl)
  clear h
  intro self1 ih1 a1 h1 ls hl
  refine lv_iload hx hb dX10_commonDivisor_3 (lv_at hl 2 rfl) ?_
  refine lv_bipush (v := 100) hx hb dX10_commonDivisor_5 (by decide) ?_
  obtain ⟨j2, ej2, h3⟩ := pp_lj_ex h1
  clear h1
  have hj2 : ∀ (a2 : Unit) (ls : Array Slot), j2 a2 = some res → lv_has ls 7 [(0, .long a1.1)] → W p l e (headSpec wsX10_commonDivisor rmX10_commonDivisor).room s m args below meth c s.heap [] 0 0 Q (F0 m 32 ls []) := by
    intro a2 ls h hl
    have h4 := pp_jmp ej2 h
    clear h h3
    refine lv_lload_n hx hb dX10_commonDivisor_32 rfl (lv_at hl 0 rfl) ?_
    exact xs_lret hx hb hr hlk h4 hQ dX10_commonDivisor_33
  refine lv_icmp_ge (tgt := 32) hx hb dX10_commonDivisor_7 (by decide) (fun c5 => ?_) (fun c5 => ?_)
  · have h6 := pp_t c5 h3
    clear h3
    exact hj2 _ ls h6 (lv_sub hl [0] rfl)
  · have h7 := pp_f c5 h3
    clear h3
    refine lv_lload_n hx hb dX10_commonDivisor_10 rfl (lv_at hl 1 rfl) ?_
    refine lv_lconst (v := 0) hx hb dX10_commonDivisor_11 (by decide) ?_
    refine W.lcmp hx hb dX10_commonDivisor_12 ?_
    refine lv_if_eq (tgt := 32) hx hb dX10_commonDivisor_13 (by decide) (fun c8 => ?_) (fun c8 => ?_)
    · have h9 := pp_t c8 h7
      clear h7
      exact hj2 _ ls h9 (lv_sub hl [0] rfl)
    · have h10 := pp_f c8 h7
      clear h7
      refine lv_lload_n hx hb dX10_commonDivisor_16 rfl (lv_at hl 0 rfl) ?_
      refine lv_lload_n hx hb dX10_commonDivisor_17 rfl (lv_at hl 1 rfl) ?_
      obtain ⟨hz11, h12⟩ := pp_dl_ex h10
      clear h10
      refine lv_lrem hx hb dX10_commonDivisor_18 hz11 ?_
      obtain ⟨x13, ex13, h14⟩ := pp_lj_ex h12
      clear h12
      refine lv_nml ex13 ?_
      refine lv_lstore (lv' := [(5, .long x13), (0, .long a1.1), (2, .long a1.2.1), (4, .int a1.2.2)]) hx hb dX10_commonDivisor_19 hl (by decide) rfl (fun ls hl => ?_)
      refine lv_lload_n hx hb dX10_commonDivisor_21 rfl (lv_at hl 2 rfl) ?_
      refine lv_lstore_n (lv' := [(0, .long a1.2.1), (5, .long x13), (2, .long a1.2.1), (4, .int a1.2.2)]) hx hb dX10_commonDivisor_22 rfl hl (by decide) rfl (fun ls hl => ?_)
      refine lv_lload hx hb dX10_commonDivisor_23 (lv_at hl 1 rfl) ?_
      refine lv_lstore_n (lv' := [(2, .long x13), (0, .long a1.2.1), (5, .long x13), (4, .int a1.2.2)]) hx hb dX10_commonDivisor_25 rfl hl (by decide) rfl (fun ls hl => ?_)
      obtain ⟨x15, ex15, h16⟩ := pp_lj_ex h14
      clear h14
      refine lv_iinc (v := x15) (lv' := [(4, .int x15), (2, .long x13), (0, .long a1.2.1), (5, .long x13)]) hx hb dX10_commonDivisor_26 hl (k := 3) rfl (by rw [ex15]; rfl) (by decide) rfl (fun ls hl => ?_)
      refine lv_goto (tgt := 3) hx hb dX10_commonDivisor_29 (by decide) ?_
      exact ih1 _ h16 ls (lv_sub hl [2, 1, 0] rfl)
noncomputable def C_catchOrDodge (q : cc_S) (v1 : Int32) (v2 : Int32) : Option Int32 := pp_ob (K_hitOf (cc_gC q 0) v1 v2 (0 : Int32)) (fun r1 => pp_ob (K_caughtOf (cc_gC q 0) v2 (0 : Int32)) (fun r3 => pp_lj (((r1 + (6 : Int32)) - ((2 : Int32) * r3)) : Int32) (fun x5 => some (if x5 < r1 then x5 else r1))))
abbrev rmX10_catchOrDodge : Room := { frames := 5, cells := 0, slots := 0, locals := 107 }
set_option maxHeartbeats 4000000 in
set_option maxRecDepth 100000 in
theorem ctX10_catchOrDodge (l : Launch) (g : cc_G) (pls : va_W) (q : cc_S) (v1 : Int32) (v2 : Int32) {res : Int32} (h : C_catchOrDodge q v1 v2 = some res) : cc_Mi l yX10_catchOrDodge wsX10_catchOrDodge rmX10_catchOrDodge g pls [.ref (cc_ad g 0), .int v1, .int v2] q res q := by
  intro sz A hA
  unfold C_catchOrDodge at h
  refine cc_ofW hA (own := RX10) (by decide) rfl rfl (Nat.le_of_ble_eq_true rfl) ?_
  intro p e s m args below meth c ls X hr hlk G hl Q hQ
  have hx := X.1.1
  have hb := X.1.2.1
  have hown := X.1.2.2.2.1
  have hts := X.1.2.2.2.2
  refine (fun (key : ∀ (H : Heap) (locs : List Loc), cc_H g A pls q s H locs → W p l e (headSpec wsX10_catchOrDodge rmX10_catchOrDodge).room s m args below meth c H locs 0 0 Q (F0 m 0 ls [])) => key _ _ G) ?_
  clear G
  intro H locs G
  have hl : lv_has ls 5 [(0, .ref (cc_ad g 0)), (1, .int v1), (2, .int v2)] := hl
  have hf19 : Cond.fieldLink RX10 19 (TX10 1).1 (TX10 1).2.1 (TX10 1).2.2.1 ∈ wsX10_catchOrDodge := by decide +kernel
  have hin10 : ∀ y ∈ wsX100, y ∈ wsX10_catchOrDodge := (fun _ z => List.mem_cons_of_mem _ (List.mem_append_left _ (List.mem_append_left _ (List.mem_append_left _ (List.mem_append_left _ (List.mem_append_left _ (List.mem_append_left _ (List.mem_append_left _ (List.mem_append_left _ (List.mem_append_right _ z))))))))))
  refine lv_aload_n hx hb dX10_catchOrDodge_0 rfl (lv_at hl 0 rfl) ?_
  refine cc_get (mo_main g) X G (x := q) rfl hin10 1 (by decide) hf19 (v := .ref (cc_ad g (10 + 20 * 0))) rfl dX10_catchOrDodge_1 ?_
  refine lv_iload_n hx hb dX10_catchOrDodge_4 rfl (lv_at hl 1 rfl) ?_
  refine lv_iload_n hx hb dX10_catchOrDodge_5 rfl (lv_at hl 2 rfl) ?_
  refine lv_iconst (v := 0) hx hb dX10_catchOrDodge_6 (by decide) ?_
  obtain ⟨r1, hc1, h2⟩ := pp_ob_ex h
  clear h
  refine cc_cali (q2 := q) (cc_pgC q 0) (cc_pgC q 0) (mo_crt g (c := 0) (by decide)) X G (x := q) rfl (ctX1_hitOf l g pls q (k := 0) (by decide) (cc_gC q 0) _ _ _ hc1) (cwV 3 hts gX10_catchOrDodge_X1_hitOf rfl rfl rfl (by decide +kernel) ⟨Nat.le_of_ble_eq_true rfl, Nat.le_of_ble_eq_true rfl⟩) (rest := []) rfl hl.1 rfl (Nat.le_of_ble_eq_true rfl) dX10_catchOrDodge_7 (fun H locs G => ?_)
  refine lv_istore_n (lv' := [(3, .int r1), (0, .ref (cc_ad g 0)), (1, .int v1), (2, .int v2)]) hx hb dX10_catchOrDodge_10 rfl hl (by decide) rfl (fun ls hl => ?_)
  refine lv_iload_n hx hb dX10_catchOrDodge_11 rfl (lv_at hl 0 rfl) ?_
  refine lv_bipush (v := 6) hx hb dX10_catchOrDodge_12 (by decide) ?_
  refine lv_iadd hx hb dX10_catchOrDodge_14 ?_
  refine lv_iconst (v := 2) hx hb dX10_catchOrDodge_15 (by decide) ?_
  refine lv_aload_n hx hb dX10_catchOrDodge_16 rfl (lv_at hl 1 rfl) ?_
  refine cc_get (mo_main g) X G (x := q) rfl hin10 1 (by decide) hf19 (v := .ref (cc_ad g (10 + 20 * 0))) rfl dX10_catchOrDodge_17 ?_
  refine lv_iload_n hx hb dX10_catchOrDodge_20 rfl (lv_at hl 3 rfl) ?_
  refine lv_iconst (v := 0) hx hb dX10_catchOrDodge_21 (by decide) ?_
  obtain ⟨r3, hc3, h4⟩ := pp_ob_ex h2
  clear h2
  refine cc_cali (q2 := q) (cc_pgC q 0) (cc_pgC q 0) (mo_crt g (c := 0) (by decide)) X G (x := q) rfl (ctX1_caughtOf l g pls q (k := 0) (by decide) (cc_gC q 0) _ _ hc3) (cwV 2 hts gX10_catchOrDodge_X1_caughtOf rfl rfl rfl (by decide +kernel) ⟨Nat.le_of_ble_eq_true rfl, Nat.le_of_ble_eq_true rfl⟩) (rest := [.int (2 : Int32), .int (r1 + (6 : Int32))]) rfl hl.1 rfl (Nat.le_of_ble_eq_true rfl) dX10_catchOrDodge_22 (fun H locs G => ?_)
  refine lv_imul hx hb dX10_catchOrDodge_25 ?_
  refine lv_isub hx hb dX10_catchOrDodge_26 ?_
  obtain ⟨x5, ex5, h6⟩ := pp_lj_ex h4
  clear h4
  refine lv_nmi ex5 ?_
  refine lv_istore (lv' := [(4, .int x5), (3, .int r1), (0, .ref (cc_ad g 0)), (1, .int v1), (2, .int v2)]) hx hb dX10_catchOrDodge_27 hl (by decide) rfl (fun ls hl => ?_)
  refine lv_iload_n hx hb dX10_catchOrDodge_29 rfl (lv_at hl 1 rfl) ?_
  refine lv_iload hx hb dX10_catchOrDodge_30 (lv_at hl 0 rfl) ?_
  refine va_mmin hx hb (X.1.2.2.1.trans hl.1.symm) hown (hts (.methodLink RX10 236 Lib.Math.min.name) (by decide +kernel)) (hts (.static Lib.Math.min.name) (by decide +kernel)) (hts (.initialized "java/lang/Math") (by decide +kernel)) (hts (.code Lib.Math.min.name Lib.Math.min.code 2 (some .int)) (by decide +kernel)) (Nat.le_of_ble_eq_true rfl) (Nat.le_of_ble_eq_true rfl) (Nat.zero_le _) (Nat.zero_le _) dX10_catchOrDodge_32 ?_
  exact cc_iret X hr hlk rfl G (Option.some.inj h6) rfl hQ dX10_catchOrDodge_35
noncomputable def C_game (q : cc_S) (v1 : Int32) (v2 : Int32) (v3 : Int32) : Option (Int64 × cc_S) := pp_ob (K_isPlayer (cc_gC q 0) v1) (fun r1 => pp_lj (fun (a3 : Unit) => (pp_ob (C_refused q (-1 : Int32)) (fun r6 => some (((4000000000000000000 : Int64) - (Int32.toInt64 r6.1)), r6.2)) : Option (Int64 × cc_S))) (fun j3 => (if r1 = (0 : Int32) then j3 () else pp_ob (K_isPlayer (cc_gC q 0) v2) (fun r11 => (if r11 = (0 : Int32) then j3 () else pp_lj (fun (a15 : Unit) => (pp_ob (K_areOpposed (cc_gC q 0) v1 v2) (fun r18 => (if r18 = (0 : Int32) then pp_ob (C_refused q (-3 : Int32)) (fun r28 => some (((4000000000000000000 : Int64) - (Int32.toInt64 r28.1)), r28.2)) else (if v3 = (0 : Int32) then pp_ob (C_catchOrDodge q v1 v2) (fun r25 => some ((Int32.toInt64 r25), q)) else some ((1 : Int64), q)))) : Option (Int64 × cc_S))) (fun j15 => (if v3 = (0 : Int32) then j15 () else (if v3 = (1 : Int32) then j15 () else pp_ob (C_refused q (-2 : Int32)) (fun r36 => some (((4000000000000000000 : Int64) - (Int32.toInt64 r36.1)), r36.2))))))))))
abbrev rmX10_game : Room := { frames := 6, cells := 0, slots := 0, locals := 131 }
set_option maxHeartbeats 4000000 in
set_option maxRecDepth 100000 in
theorem ctX10_game (l : Launch) (g : cc_G) (pls : va_W) (q : cc_S) (v1 : Int32) (v2 : Int32) (v3 : Int32) {res : (Int64 × cc_S)} (h : C_game q v1 v2 v3 = some res) : cc_Ml l yX10_game wsX10_game rmX10_game g pls [.ref (cc_ad g 0), .int v1, .int v2, .int v3] q res.1 res.2 := by
  intro sz A hA
  unfold C_game at h
  refine cc_ofW hA (own := RX10) (by decide) rfl rfl (Nat.le_of_ble_eq_true rfl) ?_
  intro p e s m args below meth c ls X hr hlk G hl Q hQ
  have hx := X.1.1
  have hb := X.1.2.1
  have hown := X.1.2.2.2.1
  have hts := X.1.2.2.2.2
  refine (fun (key : ∀ (H : Heap) (locs : List Loc), cc_H g A pls q s H locs → W p l e (headSpec wsX10_game rmX10_game).room s m args below meth c H locs 0 0 Q (F0 m 0 ls [])) => key _ _ G) ?_
  clear G
  intro H locs G
  have hl : lv_has ls 4 [(0, .ref (cc_ad g 0)), (1, .int v1), (2, .int v2), (3, .int v3)] := hl
  have hf19 : Cond.fieldLink RX10 19 (TX10 1).1 (TX10 1).2.1 (TX10 1).2.2.1 ∈ wsX10_game := by decide +kernel
  have hin10 : ∀ y ∈ wsX100, y ∈ wsX10_game := (fun _ z => List.mem_cons_of_mem _ (List.mem_append_left _ (List.mem_append_left _ (List.mem_append_left _ (List.mem_append_left _ (List.mem_append_left _ (List.mem_append_left _ (List.mem_append_left _ (List.mem_append_left _ (List.mem_append_right _ z))))))))))
  refine lv_aload_n hx hb dX10_game_0 rfl (lv_at hl 0 rfl) ?_
  refine cc_get (mo_main g) X G (x := q) rfl hin10 1 (by decide) hf19 (v := .ref (cc_ad g (10 + 20 * 0))) rfl dX10_game_1 ?_
  refine lv_iload_n hx hb dX10_game_4 rfl (lv_at hl 1 rfl) ?_
  obtain ⟨r1, hc1, h2⟩ := pp_ob_ex h
  clear h
  refine cc_cali (q2 := q) (cc_pgC q 0) (cc_pgC q 0) (mo_crt g (c := 0) (by decide)) X G (x := q) rfl (ctX1_isPlayer l g pls q (k := 0) (by decide) (cc_gC q 0) _ hc1) (cwV 1 hts gX10_game_X1_isPlayer rfl rfl rfl (by decide +kernel) ⟨Nat.le_of_ble_eq_true rfl, Nat.le_of_ble_eq_true rfl⟩) (rest := []) rfl hl.1 rfl (Nat.le_of_ble_eq_true rfl) dX10_game_5 (fun H locs G => ?_)
  obtain ⟨j3, ej3, h4⟩ := pp_lj_ex h2
  clear h2
  have hj3 : ∀ (a3 : Unit) (H : Heap) (locs : List Loc) (ls : Array Slot), j3 a3 = some res → cc_H g A pls q s H locs → lv_has ls 4 [(0, .ref (cc_ad g 0))] → W p l e (headSpec wsX10_game rmX10_game).room s m args below meth c H locs 0 0 Q (F0 m 22 ls []) := by
    intro a3 H locs ls h G hl
    have h5 := pp_jmp ej3 h
    clear h h4
    refine lv_ldc2 (v := 4000000000000000000) hx hb hown (hts (.constantLong RX10 169 (4000000000000000000)) (by decide +kernel)) dX10_game_22 ?_
    refine lv_aload_n hx hb dX10_game_25 rfl (lv_at hl 0 rfl) ?_
    refine lv_iconst (v := -1) hx hb dX10_game_26 (by decide) ?_
    obtain ⟨r6, hc6, h7⟩ := pp_ob_ex h5
    clear h5
    refine cc_cali (q2 := r6.2) rfl rfl (mo_main g) X G (x := q) rfl (ctX10_refused l g pls q _ hc6) (cwV 1 hts gX10_game_X10_refused rfl rfl rfl (by decide +kernel) ⟨Nat.le_of_ble_eq_true rfl, Nat.le_of_ble_eq_true rfl⟩) (rest := [.long (4000000000000000000 : Int64)]) rfl hl.1 rfl (Nat.le_of_ble_eq_true rfl) dX10_game_27 (fun H locs G => ?_)
    refine lv_i2l hx hb dX10_game_30 rfl ?_
    refine lv_lsub hx hb dX10_game_31 ?_
    exact cc_lretW cc_id X hr hlk G h7 hQ dX10_game_32
  refine lv_if_eq (tgt := 22) hx hb dX10_game_8 (by decide) (fun c8 => ?_) (fun c8 => ?_)
  · have h9 := pp_t c8 h4
    clear h4
    exact hj3 _ H locs ls h9 G (lv_sub hl [0] rfl)
  · have h10 := pp_f c8 h4
    clear h4
    refine lv_aload_n hx hb dX10_game_11 rfl (lv_at hl 0 rfl) ?_
    refine cc_get (mo_main g) X G (x := q) rfl hin10 1 (by decide) hf19 (v := .ref (cc_ad g (10 + 20 * 0))) rfl dX10_game_12 ?_
    refine lv_iload_n hx hb dX10_game_15 rfl (lv_at hl 2 rfl) ?_
    obtain ⟨r11, hc11, h12⟩ := pp_ob_ex h10
    clear h10
    refine cc_cali (q2 := q) (cc_pgC q 0) (cc_pgC q 0) (mo_crt g (c := 0) (by decide)) X G (x := q) rfl (ctX1_isPlayer l g pls q (k := 0) (by decide) (cc_gC q 0) _ hc11) (cwV 1 hts gX10_game_X1_isPlayer rfl rfl rfl (by decide +kernel) ⟨Nat.le_of_ble_eq_true rfl, Nat.le_of_ble_eq_true rfl⟩) (rest := []) rfl hl.1 rfl (Nat.le_of_ble_eq_true rfl) dX10_game_16 (fun H locs G => ?_)
    refine lv_if_ne (tgt := 33) hx hb dX10_game_19 (by decide) (fun c13 => ?_) (fun c13 => ?_)
    · have h14 := pp_f c13 h12
      clear h12
      refine lv_iload_n hx hb dX10_game_33 rfl (lv_at hl 3 rfl) ?_
      obtain ⟨j15, ej15, h16⟩ := pp_lj_ex h14
      clear h14
      have hj15 : ∀ (a15 : Unit) (H : Heap) (locs : List Loc) (ls : Array Slot), j15 a15 = some res → cc_H g A pls q s H locs → lv_has ls 4 [(0, .ref (cc_ad g 0)), (1, .int v1), (2, .int v2), (3, .int v3)] → W p l e (headSpec wsX10_game rmX10_game).room s m args below meth c H locs 0 0 Q (F0 m 54 ls []) := by
        intro a15 H locs ls h G hl
        have h17 := pp_jmp ej15 h
        clear h h16
        refine lv_aload_n hx hb dX10_game_54 rfl (lv_at hl 0 rfl) ?_
        refine cc_get (mo_main g) X G (x := q) rfl hin10 1 (by decide) hf19 (v := .ref (cc_ad g (10 + 20 * 0))) rfl dX10_game_55 ?_
        refine lv_iload_n hx hb dX10_game_58 rfl (lv_at hl 1 rfl) ?_
        refine lv_iload_n hx hb dX10_game_59 rfl (lv_at hl 2 rfl) ?_
        obtain ⟨r18, hc18, h19⟩ := pp_ob_ex h17
        clear h17
        refine cc_cali (q2 := q) (cc_pgC q 0) (cc_pgC q 0) (mo_crt g (c := 0) (by decide)) X G (x := q) rfl (ctX1_areOpposed l g pls q (k := 0) (by decide) (cc_gC q 0) _ _ hc18) (cwV 2 hts gX10_game_X1_areOpposed rfl rfl rfl (by decide +kernel) ⟨Nat.le_of_ble_eq_true rfl, Nat.le_of_ble_eq_true rfl⟩) (rest := []) rfl hl.1 rfl (Nat.le_of_ble_eq_true rfl) dX10_game_60 (fun H locs G => ?_)
        refine lv_if_ne (tgt := 78) hx hb dX10_game_63 (by decide) (fun c20 => ?_) (fun c20 => ?_)
        · have h21 := pp_f c20 h19
          clear h19
          refine lv_iload_n hx hb dX10_game_78 rfl (lv_at hl 3 rfl) ?_
          refine lv_if_ne (tgt := 92) hx hb dX10_game_79 (by decide) (fun c22 => ?_) (fun c22 => ?_)
          · have h23 := pp_f c22 h21
            clear h21
            refine lv_lconst (v := 1) hx hb dX10_game_92 (by decide) ?_
            exact cc_lretW cc_id X hr hlk G h23 hQ dX10_game_93
          · have h24 := pp_t c22 h21
            clear h21
            refine lv_aload_n hx hb dX10_game_82 rfl (lv_at hl 0 rfl) ?_
            refine lv_iload_n hx hb dX10_game_83 rfl (lv_at hl 1 rfl) ?_
            refine lv_iload_n hx hb dX10_game_84 rfl (lv_at hl 2 rfl) ?_
            obtain ⟨r25, hc25, h26⟩ := pp_ob_ex h24
            clear h24
            refine cc_cali (q2 := q) rfl rfl (mo_main g) X G (x := q) rfl (ctX10_catchOrDodge l g pls q _ _ hc25) (cwV 2 hts gX10_game_X10_catchOrDodge rfl rfl rfl (by decide +kernel) ⟨Nat.le_of_ble_eq_true rfl, Nat.le_of_ble_eq_true rfl⟩) (rest := []) rfl hl.1 rfl (Nat.le_of_ble_eq_true rfl) dX10_game_85 (fun H locs G => ?_)
            refine lv_i2l hx hb dX10_game_88 rfl ?_
            refine lv_goto (tgt := 93) hx hb dX10_game_89 (by decide) ?_
            exact cc_lretW cc_id X hr hlk G h26 hQ dX10_game_93
        · have h27 := pp_t c20 h19
          clear h19
          refine lv_ldc2 (v := 4000000000000000000) hx hb hown (hts (.constantLong RX10 169 (4000000000000000000)) (by decide +kernel)) dX10_game_66 ?_
          refine lv_aload_n hx hb dX10_game_69 rfl (lv_at hl 0 rfl) ?_
          refine lv_bipush (v := -3) hx hb dX10_game_70 (by decide) ?_
          obtain ⟨r28, hc28, h29⟩ := pp_ob_ex h27
          clear h27
          refine cc_cali (q2 := r28.2) rfl rfl (mo_main g) X G (x := q) rfl (ctX10_refused l g pls q _ hc28) (cwV 1 hts gX10_game_X10_refused rfl rfl rfl (by decide +kernel) ⟨Nat.le_of_ble_eq_true rfl, Nat.le_of_ble_eq_true rfl⟩) (rest := [.long (4000000000000000000 : Int64)]) rfl hl.1 rfl (Nat.le_of_ble_eq_true rfl) dX10_game_72 (fun H locs G => ?_)
          refine lv_i2l hx hb dX10_game_75 rfl ?_
          refine lv_lsub hx hb dX10_game_76 ?_
          exact cc_lretW cc_id X hr hlk G h29 hQ dX10_game_77
      refine lv_if_eq (tgt := 54) hx hb dX10_game_34 (by decide) (fun c30 => ?_) (fun c30 => ?_)
      · have h31 := pp_t c30 h16
        clear h16
        exact hj15 _ H locs ls h31 G hl
      · have h32 := pp_f c30 h16
        clear h16
        refine lv_iload_n hx hb dX10_game_37 rfl (lv_at hl 3 rfl) ?_
        refine lv_iconst (v := 1) hx hb dX10_game_38 (by decide) ?_
        refine lv_icmp_eq (tgt := 54) hx hb dX10_game_39 (by decide) (fun c33 => ?_) (fun c33 => ?_)
        · have h34 := pp_t c33 h32
          clear h32
          exact hj15 _ H locs ls h34 G hl
        · have h35 := pp_f c33 h32
          clear h32
          refine lv_ldc2 (v := 4000000000000000000) hx hb hown (hts (.constantLong RX10 169 (4000000000000000000)) (by decide +kernel)) dX10_game_42 ?_
          refine lv_aload_n hx hb dX10_game_45 rfl (lv_at hl 0 rfl) ?_
          refine lv_bipush (v := -2) hx hb dX10_game_46 (by decide) ?_
          obtain ⟨r36, hc36, h37⟩ := pp_ob_ex h35
          clear h35
          refine cc_cali (q2 := r36.2) rfl rfl (mo_main g) X G (x := q) rfl (ctX10_refused l g pls q _ hc36) (cwV 1 hts gX10_game_X10_refused rfl rfl rfl (by decide +kernel) ⟨Nat.le_of_ble_eq_true rfl, Nat.le_of_ble_eq_true rfl⟩) (rest := [.long (4000000000000000000 : Int64)]) rfl hl.1 rfl (Nat.le_of_ble_eq_true rfl) dX10_game_48 (fun H locs G => ?_)
          refine lv_i2l hx hb dX10_game_51 rfl ?_
          refine lv_lsub hx hb dX10_game_52 ?_
          exact cc_lretW cc_id X hr hlk G h37 hQ dX10_game_53
    · have h38 := pp_t c13 h12
      clear h12
      exact hj3 _ H locs ls h38 G (lv_sub hl [0] rfl)
noncomputable def C_row (q : cc_S) (v1 : Int32) : Option (Int32 × cc_S) := (if (0 : Int32) ≤ v1 then pp_lj (fun (a3 : Unit) => (pp_ob (C_refused q (-6 : Int32)) (fun r6 => some (r6.1, r6.2)) : Option (Int32 × cc_S))) (fun j3 => (if (9999 : Int32) < v1 then j3 () else (if (q.1.1 7) < (12 : Int32) then pp_ix (q.1.1 7) 12 (pp_lj (cc_ma q 6 (Int32.toNatClampNeg (q.1.1 7)) v1 : cc_S) (fun x15 => pp_lj (cc_mi x15 7 ((x15.1.1 7) + (1 : Int32)) : cc_S) (fun x17 => some ((x17.1.1 7), x17)))) else j3 ()))) else pp_ob (C_refused q (-4 : Int32)) (fun r21 => some (r21.1, r21.2)))
abbrev rmX10_row : Room := { frames := 1, cells := 0, slots := 0, locals := 22 }
set_option maxHeartbeats 4000000 in
set_option maxRecDepth 100000 in
theorem ctX10_row (l : Launch) (g : cc_G) (pls : va_W) (q : cc_S) (v1 : Int32) {res : (Int32 × cc_S)} (h : C_row q v1 = some res) : cc_Mi l yX10_row wsX10_row rmX10_row g pls [.ref (cc_ad g 0), .int v1] q res.1 res.2 := by
  intro sz A hA
  unfold C_row at h
  refine cc_ofW hA (own := RX10) (by decide) rfl rfl (Nat.le_of_ble_eq_true rfl) ?_
  intro p e s m args below meth c ls X hr hlk G hl Q hQ
  have hx := X.1.1
  have hb := X.1.2.1
  have hown := X.1.2.2.2.1
  have hts := X.1.2.2.2.2
  refine (fun (key : ∀ (H : Heap) (locs : List Loc), cc_H g A pls q s H locs → W p l e (headSpec wsX10_row rmX10_row).room s m args below meth c H locs 0 0 Q (F0 m 0 ls [])) => key _ _ G) ?_
  clear G
  intro H locs G
  have hl : lv_has ls 2 [(0, .ref (cc_ad g 0)), (1, .int v1)] := hl
  have hf36 : Cond.fieldLink RX10 36 (TX10 6).1 (TX10 6).2.1 (TX10 6).2.2.1 ∈ wsX10_row := by decide +kernel
  have hf193 : Cond.fieldLink RX10 193 (TX10 7).1 (TX10 7).2.1 (TX10 7).2.2.1 ∈ wsX10_row := by decide +kernel
  have hin10 : ∀ y ∈ wsX100, y ∈ wsX10_row := (fun _ z => List.mem_cons_of_mem _ (List.mem_append_right _ z))
  refine lv_iload_n hx hb dX10_row_0 rfl (lv_at hl 1 rfl) ?_
  refine lv_if_ge (tgt := 11) hx hb dX10_row_1 (by decide) (fun c1 => ?_) (fun c1 => ?_)
  · have h2 := pp_t c1 h
    clear h
    refine lv_iload_n hx hb dX10_row_11 rfl (lv_at hl 1 rfl) ?_
    refine lv_sipush (v := 9999) hx hb dX10_row_12 (by decide) ?_
    obtain ⟨j3, ej3, h4⟩ := pp_lj_ex h2
    clear h2
    have hj3 : ∀ (a3 : Unit) (H : Heap) (locs : List Loc) (ls : Array Slot), j3 a3 = some res → cc_H g A pls q s H locs → lv_has ls 2 [(0, .ref (cc_ad g 0))] → W p l e (headSpec wsX10_row rmX10_row).room s m args below meth c H locs 0 0 Q (F0 m 27 ls []) := by
      intro a3 H locs ls h G hl
      have h5 := pp_jmp ej3 h
      clear h h4
      refine lv_aload_n hx hb dX10_row_27 rfl (lv_at hl 0 rfl) ?_
      refine lv_bipush (v := -6) hx hb dX10_row_28 (by decide) ?_
      obtain ⟨r6, hc6, h7⟩ := pp_ob_ex h5
      clear h5
      refine cc_cali (q2 := r6.2) rfl rfl (mo_main g) X G (x := q) rfl (ctX10_refused l g pls q _ hc6) (cwV 1 hts gX10_row_X10_refused rfl rfl rfl (by decide +kernel) ⟨Nat.le_of_ble_eq_true rfl, Nat.le_of_ble_eq_true rfl⟩) (rest := []) rfl hl.1 rfl (Nat.le_of_ble_eq_true rfl) dX10_row_30 (fun H locs G => ?_)
      exact cc_iretW cc_id X hr hlk rfl G h7 hQ dX10_row_33
    refine lv_icmp_gt (tgt := 27) hx hb dX10_row_15 (by decide) (fun c8 => ?_) (fun c8 => ?_)
    · have h9 := pp_t c8 h4
      clear h4
      exact hj3 _ H locs ls h9 G (lv_sub hl [0] rfl)
    · have h10 := pp_f c8 h4
      clear h4
      refine lv_aload_n hx hb dX10_row_18 rfl (lv_at hl 0 rfl) ?_
      refine cc_get (mo_main g) X G (x := q) rfl hin10 7 (by decide) hf193 (v := .int (q.1.1 7)) rfl dX10_row_19 ?_
      refine lv_bipush (v := 12) hx hb dX10_row_22 (by decide) ?_
      refine lv_icmp_lt (tgt := 34) hx hb dX10_row_24 (by decide) (fun c11 => ?_) (fun c11 => ?_)
      · have h12 := pp_t c11 h10
        clear h10
        refine lv_aload_n hx hb dX10_row_34 rfl (lv_at hl 0 rfl) ?_
        refine cc_get (mo_main g) X G (x := q) rfl hin10 6 (by decide) hf36 (v := .ref (cc_ad g 6)) rfl dX10_row_35 ?_
        refine lv_aload_n hx hb dX10_row_38 rfl (lv_at hl 0 rfl) ?_
        refine cc_get (mo_main g) X G (x := q) rfl hin10 7 (by decide) hf193 (v := .int (q.1.1 7)) rfl dX10_row_39 ?_
        refine lv_iload_n hx hb dX10_row_42 rfl (lv_at hl 1 rfl) ?_
        obtain ⟨hi13, h14⟩ := pp_ix_ex h12
        clear h12
        obtain ⟨x15, ex15, h16⟩ := pp_lj_ex h14
        clear h14
        refine cc_iast (ma_6 g) X G (x := q) hi13 ex15 dX10_row_43 (fun H locs G => ?_)
        refine lv_aload_n hx hb dX10_row_44 rfl (lv_at hl 0 rfl) ?_
        refine lv_dup hx hb dX10_row_45 rfl ?_
        refine cc_get (mo_main g) X G (x := x15) rfl hin10 7 (by decide) hf193 (v := .int (x15.1.1 7)) rfl dX10_row_46 ?_
        refine lv_iconst (v := 1) hx hb dX10_row_49 (by decide) ?_
        refine lv_iadd hx hb dX10_row_50 ?_
        obtain ⟨x17, ex17, h18⟩ := pp_lj_ex h16
        clear h16
        refine cc_put (mi_7 g) X G (x := x15) rfl hin10 tyX10 tyX10_ok nmX10 (by decide) hf193 rfl (ty := .int) (by decide +kernel) rfl rfl ex17 dX10_row_51 (fun H locs G => ?_)
        refine lv_aload_n hx hb dX10_row_54 rfl (lv_at hl 0 rfl) ?_
        refine cc_get (mo_main g) X G (x := x17) rfl hin10 7 (by decide) hf193 (v := .int (x17.1.1 7)) rfl dX10_row_55 ?_
        exact cc_iretW cc_id X hr hlk rfl G h18 hQ dX10_row_58
      · have h19 := pp_f c11 h10
        clear h10
        exact hj3 _ H locs ls h19 G (lv_sub hl [0] rfl)
  · have h20 := pp_f c1 h
    clear h
    refine lv_aload_n hx hb dX10_row_4 rfl (lv_at hl 0 rfl) ?_
    refine lv_bipush (v := -4) hx hb dX10_row_5 (by decide) ?_
    obtain ⟨r21, hc21, h22⟩ := pp_ob_ex h20
    clear h20
    refine cc_cali (q2 := r21.2) rfl rfl (mo_main g) X G (x := q) rfl (ctX10_refused l g pls q _ hc21) (cwV 1 hts gX10_row_X10_refused rfl rfl rfl (by decide +kernel) ⟨Nat.le_of_ble_eq_true rfl, Nat.le_of_ble_eq_true rfl⟩) (rest := []) rfl hl.1 rfl (Nat.le_of_ble_eq_true rfl) dX10_row_7 (fun H locs G => ?_)
    exact cc_iretW cc_id X hr hlk rfl G h22 hQ dX10_row_10
noncomputable def C_throwInMind (q : cc_S) (v1 : Int32) : Option (Int32 × cc_S) := pp_ob (K_leastBallOf (cc_gC q 1) (v1 / (1000 : Int32))) (fun r1 => pp_lj (((v1 / (100 : Int32)) - ((v1 / (100 : Int32)) / (10 : Int32)) * (10 : Int32)) : Int32) (fun x3 => pp_lj (((v1 / (10 : Int32)) - ((v1 / (10 : Int32)) / (10 : Int32)) * (10 : Int32)) : Int32) (fun x5 => pp_lj ((v1 - (v1 / (10 : Int32)) * (10 : Int32)) : Int32) (fun x7 => pp_ob (C_isHow x5) (fun r9 => (if r9 = (0 : Int32) then some ((0 : Int32), q) else pp_ob (C_isEnd x7) (fun r14 => (if r14 = (0 : Int32) then some ((0 : Int32), q) else pp_ob (K_canThrow (cc_gC q 1) r1 x3) (fun r19 => (if r19 = (0 : Int32) then some ((0 : Int32), q) else pp_ob (K_endThrow (cc_gC q 1) r1 x3 x7) (fun r23 => pp_lj (cc_pC q 1 r23 : cc_S) (fun x25 => some ((1 : Int32), x25)))))))))))))
abbrev rmX10_throwInMind : Room := { frames := 4, cells := 0, slots := 0, locals := 89 }
set_option maxHeartbeats 4000000 in
set_option maxRecDepth 100000 in
theorem ctX10_throwInMind (l : Launch) (g : cc_G) (pls : va_W) (q : cc_S) (v1 : Int32) {res : (Int32 × cc_S)} (h : C_throwInMind q v1 = some res) : cc_Mi l yX10_throwInMind wsX10_throwInMind rmX10_throwInMind g pls [.ref (cc_ad g 0), .int v1] q res.1 res.2 := by
  intro sz A hA
  unfold C_throwInMind at h
  refine cc_ofW hA (own := RX10) (by decide) rfl rfl (Nat.le_of_ble_eq_true rfl) ?_
  intro p e s m args below meth c ls X hr hlk G hl Q hQ
  have hx := X.1.1
  have hb := X.1.2.1
  have hown := X.1.2.2.2.1
  have hts := X.1.2.2.2.2
  refine (fun (key : ∀ (H : Heap) (locs : List Loc), cc_H g A pls q s H locs → W p l e (headSpec wsX10_throwInMind rmX10_throwInMind).room s m args below meth c H locs 0 0 Q (F0 m 0 ls [])) => key _ _ G) ?_
  clear G
  intro H locs G
  have hl : lv_has ls 6 [(0, .ref (cc_ad g 0)), (1, .int v1)] := hl
  have hf23 : Cond.fieldLink RX10 23 (TX10 2).1 (TX10 2).2.1 (TX10 2).2.2.1 ∈ wsX10_throwInMind := by decide +kernel
  have hin10 : ∀ y ∈ wsX100, y ∈ wsX10_throwInMind := (fun _ z => List.mem_cons_of_mem _ (List.mem_append_left _ (List.mem_append_left _ (List.mem_append_left _ (List.mem_append_left _ (List.mem_append_left _ (List.mem_append_left _ (List.mem_append_left _ (List.mem_append_left _ (List.mem_append_right _ z))))))))))
  refine lv_aload_n hx hb dX10_throwInMind_0 rfl (lv_at hl 0 rfl) ?_
  refine cc_get (mo_main g) X G (x := q) rfl hin10 2 (by decide) hf23 (v := .ref (cc_ad g (10 + 20 * 1))) rfl dX10_throwInMind_1 ?_
  refine lv_iload_n hx hb dX10_throwInMind_4 rfl (lv_at hl 1 rfl) ?_
  refine lv_sipush (v := 1000) hx hb dX10_throwInMind_5 (by decide) ?_
  refine lv_idiv hx hb dX10_throwInMind_8 (by decide) ?_
  obtain ⟨r1, hc1, h2⟩ := pp_ob_ex h
  clear h
  refine cc_cali (q2 := q) (cc_pgC q 1) (cc_pgC q 1) (mo_crt g (c := 1) (by decide)) X G (x := q) rfl (ctX1_leastBallOf l g pls q (k := 1) (by decide) (cc_gC q 1) _ hc1) (cwV 1 hts gX10_throwInMind_X1_leastBallOf rfl rfl rfl (by decide +kernel) ⟨Nat.le_of_ble_eq_true rfl, Nat.le_of_ble_eq_true rfl⟩) (rest := []) rfl hl.1 rfl (Nat.le_of_ble_eq_true rfl) dX10_throwInMind_9 (fun H locs G => ?_)
  refine lv_istore_n (lv' := [(2, .int r1), (0, .ref (cc_ad g 0)), (1, .int v1)]) hx hb dX10_throwInMind_12 rfl hl (by decide) rfl (fun ls hl => ?_)
  refine lv_iload_n hx hb dX10_throwInMind_13 rfl (lv_at hl 2 rfl) ?_
  refine lv_bipush (v := 100) hx hb dX10_throwInMind_14 (by decide) ?_
  refine lv_idiv hx hb dX10_throwInMind_16 (by decide) ?_
  refine lv_bipush (v := 10) hx hb dX10_throwInMind_17 (by decide) ?_
  refine lv_irem hx hb dX10_throwInMind_19 (by decide) ?_
  obtain ⟨x3, ex3, h4⟩ := pp_lj_ex h2
  clear h2
  refine lv_nmi ex3 ?_
  refine lv_istore_n (lv' := [(3, .int x3), (2, .int r1), (0, .ref (cc_ad g 0)), (1, .int v1)]) hx hb dX10_throwInMind_20 rfl hl (by decide) rfl (fun ls hl => ?_)
  refine lv_iload_n hx hb dX10_throwInMind_21 rfl (lv_at hl 3 rfl) ?_
  refine lv_bipush (v := 10) hx hb dX10_throwInMind_22 (by decide) ?_
  refine lv_idiv hx hb dX10_throwInMind_24 (by decide) ?_
  refine lv_bipush (v := 10) hx hb dX10_throwInMind_25 (by decide) ?_
  refine lv_irem hx hb dX10_throwInMind_27 (by decide) ?_
  obtain ⟨x5, ex5, h6⟩ := pp_lj_ex h4
  clear h4
  refine lv_nmi ex5 ?_
  refine lv_istore (lv' := [(4, .int x5), (3, .int x3), (2, .int r1), (0, .ref (cc_ad g 0)), (1, .int v1)]) hx hb dX10_throwInMind_28 hl (by decide) rfl (fun ls hl => ?_)
  refine lv_iload_n hx hb dX10_throwInMind_30 rfl (lv_at hl 4 rfl) ?_
  refine lv_bipush (v := 10) hx hb dX10_throwInMind_31 (by decide) ?_
  refine lv_irem hx hb dX10_throwInMind_33 (by decide) ?_
  obtain ⟨x7, ex7, h8⟩ := pp_lj_ex h6
  clear h6
  refine lv_nmi ex7 ?_
  refine lv_istore (lv' := [(5, .int x7), (4, .int x5), (3, .int x3), (2, .int r1), (0, .ref (cc_ad g 0)), (1, .int v1)]) hx hb dX10_throwInMind_34 hl (by decide) rfl (fun ls hl => ?_)
  refine lv_iload hx hb dX10_throwInMind_36 (lv_at hl 1 rfl) ?_
  obtain ⟨r9, hc9, h10⟩ := pp_ob_ex h8
  clear h8
  refine cc_csi X G (ctX10_isHow l _ hc9) (va_cwS 1 hts gX10_throwInMind_X10_isHow rfl rfl rfl (by decide +kernel) ⟨Nat.le_of_ble_eq_true rfl, Nat.le_of_ble_eq_true rfl⟩) (rest := []) rfl hl.1 rfl (Nat.le_of_ble_eq_true rfl) dX10_throwInMind_38 (fun H locs G => ?_)
  refine lv_if_eq (tgt := 64) hx hb dX10_throwInMind_41 (by decide) (fun c11 => ?_) (fun c11 => ?_)
  · have h12 := pp_t c11 h10
    clear h10
    refine lv_iconst (v := 0) hx hb dX10_throwInMind_64 (by decide) ?_
    exact cc_iretW cc_id X hr hlk rfl G h12 hQ dX10_throwInMind_65
  · have h13 := pp_f c11 h10
    clear h10
    refine lv_iload hx hb dX10_throwInMind_44 (lv_at hl 0 rfl) ?_
    obtain ⟨r14, hc14, h15⟩ := pp_ob_ex h13
    clear h13
    refine cc_csi X G (ctX10_isEnd l _ hc14) (va_cwS 1 hts gX10_throwInMind_X10_isEnd rfl rfl rfl (by decide +kernel) ⟨Nat.le_of_ble_eq_true rfl, Nat.le_of_ble_eq_true rfl⟩) (rest := []) rfl hl.1 rfl (Nat.le_of_ble_eq_true rfl) dX10_throwInMind_46 (fun H locs G => ?_)
    refine lv_if_eq (tgt := 64) hx hb dX10_throwInMind_49 (by decide) (fun c16 => ?_) (fun c16 => ?_)
    · have h17 := pp_t c16 h15
      clear h15
      refine lv_iconst (v := 0) hx hb dX10_throwInMind_64 (by decide) ?_
      exact cc_iretW cc_id X hr hlk rfl G h17 hQ dX10_throwInMind_65
    · have h18 := pp_f c16 h15
      clear h15
      refine lv_aload_n hx hb dX10_throwInMind_52 rfl (lv_at hl 4 rfl) ?_
      refine cc_get (mo_main g) X G (x := q) rfl hin10 2 (by decide) hf23 (v := .ref (cc_ad g (10 + 20 * 1))) rfl dX10_throwInMind_53 ?_
      refine lv_iload_n hx hb dX10_throwInMind_56 rfl (lv_at hl 3 rfl) ?_
      refine lv_iload_n hx hb dX10_throwInMind_57 rfl (lv_at hl 2 rfl) ?_
      obtain ⟨r19, hc19, h20⟩ := pp_ob_ex h18
      clear h18
      refine cc_cali (q2 := q) (cc_pgC q 1) (cc_pgC q 1) (mo_crt g (c := 1) (by decide)) X G (x := q) rfl (ctX1_canThrow l g pls q (k := 1) (by decide) (cc_gC q 1) _ _ hc19) (cwV 2 hts gX10_throwInMind_X1_canThrow rfl rfl rfl (by decide +kernel) ⟨Nat.le_of_ble_eq_true rfl, Nat.le_of_ble_eq_true rfl⟩) (rest := []) rfl hl.1 rfl (Nat.le_of_ble_eq_true rfl) dX10_throwInMind_58 (fun H locs G => ?_)
      refine lv_if_ne (tgt := 66) hx hb dX10_throwInMind_61 (by decide) (fun c21 => ?_) (fun c21 => ?_)
      · have h22 := pp_f c21 h20
        clear h20
        refine lv_aload_n hx hb dX10_throwInMind_66 rfl (lv_at hl 4 rfl) ?_
        refine cc_get (mo_main g) X G (x := q) rfl hin10 2 (by decide) hf23 (v := .ref (cc_ad g (10 + 20 * 1))) rfl dX10_throwInMind_67 ?_
        refine lv_iload_n hx hb dX10_throwInMind_70 rfl (lv_at hl 3 rfl) ?_
        refine lv_iload_n hx hb dX10_throwInMind_71 rfl (lv_at hl 2 rfl) ?_
        refine lv_iload hx hb dX10_throwInMind_72 (lv_at hl 0 rfl) ?_
        obtain ⟨r23, hc23, h24⟩ := pp_ob_ex h22
        clear h22
        obtain ⟨x25, ex25, h26⟩ := pp_lj_ex h24
        clear h24
        refine cc_calv (q2 := x25) (cc_pgC q 1) ex25.symm (mo_crt g (c := 1) (by decide)) X G (x := q) rfl (ctX1_endThrow l g pls q (k := 1) (by decide) (cc_gC q 1) _ _ _ hc23) (cwV 3 hts gX10_throwInMind_X1_endThrow rfl rfl rfl (by decide +kernel) ⟨Nat.le_of_ble_eq_true rfl, Nat.le_of_ble_eq_true rfl⟩) (rest := []) rfl hl.1 rfl (Nat.le_of_ble_eq_true rfl) dX10_throwInMind_74 (fun H locs G => ?_)
        refine lv_iconst (v := 1) hx hb dX10_throwInMind_77 (by decide) ?_
        exact cc_iretW cc_id X hr hlk rfl G h26 hQ dX10_throwInMind_78
      · have h27 := pp_t c21 h20
        clear h20
        refine lv_iconst (v := 0) hx hb dX10_throwInMind_64 (by decide) ?_
        exact cc_iretW cc_id X hr hlk rfl G h27 hQ dX10_throwInMind_65
noncomputable def C_clear (q : cc_S) : Option (Int32 × cc_S) := pp_lj ((q.1.1 7) : Int32) (fun x1 => pp_lj (cc_mi q 7 (0 : Int32) : cc_S) (fun x3 => some (x1, x3)))
abbrev rmX10_clear : Room := { frames := 0, cells := 0, slots := 0, locals := 0 }
set_option maxHeartbeats 4000000 in
set_option maxRecDepth 100000 in
theorem ctX10_clear (l : Launch) (g : cc_G) (pls : va_W) (q : cc_S) {res : (Int32 × cc_S)} (h : C_clear q = some res) : cc_Mi l yX10_clear wsX10_clear rmX10_clear g pls [.ref (cc_ad g 0)] q res.1 res.2 := by
  intro sz A hA
  unfold C_clear at h
  refine cc_ofW hA (own := RX10) (by decide) rfl rfl (Nat.le_of_ble_eq_true rfl) ?_
  intro p e s m args below meth c ls X hr hlk G hl Q hQ
  have hx := X.1.1
  have hb := X.1.2.1
  have hown := X.1.2.2.2.1
  have hts := X.1.2.2.2.2
  refine (fun (key : ∀ (H : Heap) (locs : List Loc), cc_H g A pls q s H locs → W p l e (headSpec wsX10_clear rmX10_clear).room s m args below meth c H locs 0 0 Q (F0 m 0 ls [])) => key _ _ G) ?_
  clear G
  intro H locs G
  have hl : lv_has ls 2 [(0, .ref (cc_ad g 0))] := hl
  have hf193 : Cond.fieldLink RX10 193 (TX10 7).1 (TX10 7).2.1 (TX10 7).2.2.1 ∈ wsX10_clear := by decide +kernel
  have hin10 : ∀ y ∈ wsX100, y ∈ wsX10_clear := (fun _ z => List.mem_cons_of_mem _ (List.mem_append_right _ z))
  refine lv_aload_n hx hb dX10_clear_0 rfl (lv_at hl 0 rfl) ?_
  refine cc_get (mo_main g) X G (x := q) rfl hin10 7 (by decide) hf193 (v := .int (q.1.1 7)) rfl dX10_clear_1 ?_
  obtain ⟨x1, ex1, h2⟩ := pp_lj_ex h
  clear h
  refine lv_nmi ex1 ?_
  refine lv_istore_n (lv' := [(1, .int x1), (0, .ref (cc_ad g 0))]) hx hb dX10_clear_4 rfl hl (by decide) rfl (fun ls hl => ?_)
  refine lv_aload_n hx hb dX10_clear_5 rfl (lv_at hl 1 rfl) ?_
  refine lv_iconst (v := 0) hx hb dX10_clear_6 (by decide) ?_
  obtain ⟨x3, ex3, h4⟩ := pp_lj_ex h2
  clear h2
  refine cc_put (mi_7 g) X G (x := q) rfl hin10 tyX10 tyX10_ok nmX10 (by decide) hf193 rfl (ty := .int) (by decide +kernel) rfl rfl ex3 dX10_clear_7 (fun H locs G => ?_)
  refine lv_iload_n hx hb dX10_clear_10 rfl (lv_at hl 0 rfl) ?_
  exact cc_iretW cc_id X hr hlk rfl G h4 hQ dX10_clear_11
noncomputable def C_whose (q : cc_S) (v1 : Int32) : Option (Int32 × cc_S) := pp_ob (K_isPlayer (cc_gC q 0) v1) (fun r1 => (if r1 = (0 : Int32) then pp_ob (C_refused q (-1 : Int32)) (fun r29 => some (r29.1, r29.2)) else pp_ob (K_isIn (cc_gC q 0) v1) (fun r5 => (if r5 = (0 : Int32) then pp_ob (C_refused q (-3 : Int32)) (fun r26 => some (r26.1, r26.2)) else pp_it (fun (self9 : Int32 × Int32 → Option (Int32 × cc_S)) (a9 : Int32 × Int32) => (if ((cc_gC q 0).1.1 1) ≤ a9.2 then some (a9.1, q) else pp_ob (K_couldThrowAt (cc_gC q 0) a9.2 v1) (fun r13 => pp_lj (fun (a15 : Int32) => (pp_lj (a9.2 + 1 : Int32) (fun x18 => self9 (a15, x18)) : Option (Int32 × cc_S))) (fun j15 => (if r13 = (0 : Int32) then j15 a9.1 else pp_lj ((a9.1 ||| ((1 : Int32) <<< (a9.2 &&& 31))) : Int32) (fun x23 => j15 x23)))))) 200 ((0 : Int32), (0 : Int32))))))
abbrev rmX10_whose : Room := { frames := 4, cells := 0, slots := 0, locals := 86 }
set_option maxHeartbeats 4000000 in
set_option maxRecDepth 100000 in
theorem ctX10_whose (l : Launch) (g : cc_G) (pls : va_W) (q : cc_S) (v1 : Int32) {res : (Int32 × cc_S)} (h : C_whose q v1 = some res) : cc_Mi l yX10_whose wsX10_whose rmX10_whose g pls [.ref (cc_ad g 0), .int v1] q res.1 res.2 := by
  intro sz A hA
  unfold C_whose at h
  refine cc_ofW hA (own := RX10) (by decide) rfl rfl (Nat.le_of_ble_eq_true rfl) ?_
  intro p e s m args below meth c ls X hr hlk G hl Q hQ
  have hx := X.1.1
  have hb := X.1.2.1
  have hown := X.1.2.2.2.1
  have hts := X.1.2.2.2.2
  refine (fun (key : ∀ (H : Heap) (locs : List Loc), cc_H g A pls q s H locs → W p l e (headSpec wsX10_whose rmX10_whose).room s m args below meth c H locs 0 0 Q (F0 m 0 ls [])) => key _ _ G) ?_
  clear G
  intro H locs G
  have hl : lv_has ls 4 [(0, .ref (cc_ad g 0)), (1, .int v1)] := hl
  have hf19 : Cond.fieldLink RX10 19 (TX10 1).1 (TX10 1).2.1 (TX10 1).2.2.1 ∈ wsX10_whose := by decide +kernel
  have hin1 : ∀ y ∈ wsX10, y ∈ wsX10_whose := (fun _ z => List.mem_cons_of_mem _ (List.mem_append_left _ (List.mem_append_left _ (List.mem_append_left _ (List.mem_append_left _ (List.mem_append_left _ (List.mem_append_left _ (List.mem_append_left _ (List.mem_append_right _ z)))))))))
  have hin10 : ∀ y ∈ wsX100, y ∈ wsX10_whose := (fun _ z => List.mem_cons_of_mem _ (List.mem_append_left _ (List.mem_append_left _ (List.mem_append_left _ (List.mem_append_left _ (List.mem_append_left _ (List.mem_append_left _ (List.mem_append_left _ (List.mem_append_left _ (List.mem_append_right _ z))))))))))
  refine lv_aload_n hx hb dX10_whose_0 rfl (lv_at hl 0 rfl) ?_
  refine cc_get (mo_main g) X G (x := q) rfl hin10 1 (by decide) hf19 (v := .ref (cc_ad g (10 + 20 * 0))) rfl dX10_whose_1 ?_
  refine lv_iload_n hx hb dX10_whose_4 rfl (lv_at hl 1 rfl) ?_
  obtain ⟨r1, hc1, h2⟩ := pp_ob_ex h
  clear h
  refine cc_cali (q2 := q) (cc_pgC q 0) (cc_pgC q 0) (mo_crt g (c := 0) (by decide)) X G (x := q) rfl (ctX1_isPlayer l g pls q (k := 0) (by decide) (cc_gC q 0) _ hc1) (cwV 1 hts gX10_whose_X1_isPlayer rfl rfl rfl (by decide +kernel) ⟨Nat.le_of_ble_eq_true rfl, Nat.le_of_ble_eq_true rfl⟩) (rest := []) rfl hl.1 rfl (Nat.le_of_ble_eq_true rfl) dX10_whose_5 (fun H locs G => ?_)
  refine lv_if_ne (tgt := 17) hx hb dX10_whose_8 (by decide) (fun c3 => ?_) (fun c3 => ?_)
  · have h4 := pp_f c3 h2
    clear h2
    refine lv_aload_n hx hb dX10_whose_17 rfl (lv_at hl 0 rfl) ?_
    refine cc_get (mo_main g) X G (x := q) rfl hin10 1 (by decide) hf19 (v := .ref (cc_ad g (10 + 20 * 0))) rfl dX10_whose_18 ?_
    refine lv_iload_n hx hb dX10_whose_21 rfl (lv_at hl 1 rfl) ?_
    obtain ⟨r5, hc5, h6⟩ := pp_ob_ex h4
    clear h4
    refine cc_cali (q2 := q) (cc_pgC q 0) (cc_pgC q 0) (mo_crt g (c := 0) (by decide)) X G (x := q) rfl (ctX1_isIn l g pls q (k := 0) (by decide) (cc_gC q 0) _ hc5) (cwV 1 hts gX10_whose_X1_isIn rfl rfl rfl (by decide +kernel) ⟨Nat.le_of_ble_eq_true rfl, Nat.le_of_ble_eq_true rfl⟩) (rest := []) rfl hl.1 rfl (Nat.le_of_ble_eq_true rfl) dX10_whose_22 (fun H locs G => ?_)
    refine lv_if_ne (tgt := 35) hx hb dX10_whose_25 (by decide) (fun c7 => ?_) (fun c7 => ?_)
    · have h8 := pp_f c7 h6
      clear h6
      refine lv_iconst (v := 0) hx hb dX10_whose_35 (by decide) ?_
      refine lv_istore_n (lv' := [(2, .int (0 : Int32)), (0, .ref (cc_ad g 0)), (1, .int v1)]) hx hb dX10_whose_36 rfl hl (by decide) rfl (fun ls hl => ?_)
      refine lv_iconst (v := 0) hx hb dX10_whose_37 (by decide) ?_
      refine lv_istore_n (lv' := [(3, .int (0 : Int32)), (2, .int (0 : Int32)), (0, .ref (cc_ad g 0)), (1, .int v1)]) hx hb dX10_whose_38 rfl hl (by decide) rfl (fun ls hl => ?_)
      refine pp_loop (I := fun (a9 : Int32 × Int32) => ∀ (H : Heap) (locs : List Loc) (ls : Array Slot), cc_H g A pls q s H locs → lv_has ls 4 [(0, .ref (cc_ad g 0)), (1, .int v1), (2, .int a9.1), (3, .int a9.2)] → W p l e (headSpec wsX10_whose rmX10_whose).room s m args below meth c H locs 0 0 Q (F0 m 39 ls [])) ?_ 200 _ h8 H locs ls G (lv_sub hl [2, 3, 1, 0] rfl)
      clear h8
      intro self9 ih9 a9 h9 H locs ls G hl
      refine lv_iload_n hx hb dX10_whose_39 rfl (lv_at hl 3 rfl) ?_
      refine lv_aload_n hx hb dX10_whose_40 rfl (lv_at hl 0 rfl) ?_
      refine cc_get (mo_main g) X G (x := q) rfl hin10 1 (by decide) hf19 (v := .ref (cc_ad g (10 + 20 * 0))) rfl dX10_whose_41 ?_
      refine cc_getN (mo_crt g (c := 0) (by decide)) X G (x := q) rfl hin1 1 (by decide) (by decide +kernel) (v := .int ((cc_gC q 0).1.1 1)) rfl dX10_whose_44 ?_
      refine lv_icmp_ge (tgt := 74) hx hb dX10_whose_47 (by decide) (fun c10 => ?_) (fun c10 => ?_)
      · have h11 := pp_t c10 h9
        clear h9
        refine lv_iload_n hx hb dX10_whose_74 rfl (lv_at hl 2 rfl) ?_
        exact cc_iretW cc_id X hr hlk rfl G h11 hQ dX10_whose_75
      · have h12 := pp_f c10 h9
        clear h9
        refine lv_aload_n hx hb dX10_whose_50 rfl (lv_at hl 0 rfl) ?_
        refine cc_get (mo_main g) X G (x := q) rfl hin10 1 (by decide) hf19 (v := .ref (cc_ad g (10 + 20 * 0))) rfl dX10_whose_51 ?_
        refine lv_iload_n hx hb dX10_whose_54 rfl (lv_at hl 3 rfl) ?_
        refine lv_iload_n hx hb dX10_whose_55 rfl (lv_at hl 1 rfl) ?_
        obtain ⟨r13, hc13, h14⟩ := pp_ob_ex h12
        clear h12
        refine cc_cali (q2 := q) (cc_pgC q 0) (cc_pgC q 0) (mo_crt g (c := 0) (by decide)) X G (x := q) rfl (ctX1_couldThrowAt l g pls q (k := 0) (by decide) (cc_gC q 0) _ _ hc13) (cwV 2 hts gX10_whose_X1_couldThrowAt rfl rfl rfl (by decide +kernel) ⟨Nat.le_of_ble_eq_true rfl, Nat.le_of_ble_eq_true rfl⟩) (rest := []) rfl hl.1 rfl (Nat.le_of_ble_eq_true rfl) dX10_whose_56 (fun H locs G => ?_)
        obtain ⟨j15, ej15, h16⟩ := pp_lj_ex h14
        clear h14
        have hj15 : ∀ (a15 : Int32) (H : Heap) (locs : List Loc) (ls : Array Slot), j15 a15 = some res → cc_H g A pls q s H locs → lv_has ls 4 [(0, .ref (cc_ad g 0)), (1, .int v1), (2, .int a15), (3, .int a9.2)] → W p l e (headSpec wsX10_whose rmX10_whose).room s m args below meth c H locs 0 0 Q (F0 m 68 ls []) := by
          intro a15 H locs ls h G hl
          have h17 := pp_jmp ej15 h
          clear h h16
          obtain ⟨x18, ex18, h19⟩ := pp_lj_ex h17
          clear h17
          refine lv_iinc (v := x18) (lv' := [(3, .int x18), (0, .ref (cc_ad g 0)), (1, .int v1), (2, .int a15)]) hx hb dX10_whose_68 hl (k := 3) rfl (by rw [ex18]; rfl) (by decide) rfl (fun ls hl => ?_)
          refine lv_goto (tgt := 39) hx hb dX10_whose_71 (by decide) ?_
          exact ih9 _ h19 H locs ls G (lv_sub hl [1, 2, 3, 0] rfl)
        refine lv_if_eq (tgt := 68) hx hb dX10_whose_59 (by decide) (fun c20 => ?_) (fun c20 => ?_)
        · have h21 := pp_t c20 h16
          clear h16
          exact hj15 _ H locs ls h21 G hl
        · have h22 := pp_f c20 h16
          clear h16
          refine lv_iload_n hx hb dX10_whose_62 rfl (lv_at hl 2 rfl) ?_
          refine lv_iconst (v := 1) hx hb dX10_whose_63 (by decide) ?_
          refine lv_iload_n hx hb dX10_whose_64 rfl (lv_at hl 3 rfl) ?_
          refine lv_ishl hx hb dX10_whose_65 ?_
          refine lv_ior hx hb dX10_whose_66 ?_
          obtain ⟨x23, ex23, h24⟩ := pp_lj_ex h22
          clear h22
          refine lv_nmi ex23 ?_
          refine lv_istore_n (lv' := [(2, .int x23), (0, .ref (cc_ad g 0)), (1, .int v1), (3, .int a9.2)]) hx hb dX10_whose_67 rfl hl (by decide) rfl (fun ls hl => ?_)
          exact hj15 _ H locs ls h24 G (lv_sub hl [1, 2, 0, 3] rfl)
    · have h25 := pp_t c7 h6
      clear h6
      refine lv_aload_n hx hb dX10_whose_28 rfl (lv_at hl 0 rfl) ?_
      refine lv_bipush (v := -3) hx hb dX10_whose_29 (by decide) ?_
      obtain ⟨r26, hc26, h27⟩ := pp_ob_ex h25
      clear h25
      refine cc_cali (q2 := r26.2) rfl rfl (mo_main g) X G (x := q) rfl (ctX10_refused l g pls q _ hc26) (cwV 1 hts gX10_whose_X10_refused rfl rfl rfl (by decide +kernel) ⟨Nat.le_of_ble_eq_true rfl, Nat.le_of_ble_eq_true rfl⟩) (rest := []) rfl hl.1 rfl (Nat.le_of_ble_eq_true rfl) dX10_whose_31 (fun H locs G => ?_)
      exact cc_iretW cc_id X hr hlk rfl G h27 hQ dX10_whose_34
  · have h28 := pp_t c3 h2
    clear h2
    refine lv_aload_n hx hb dX10_whose_11 rfl (lv_at hl 0 rfl) ?_
    refine lv_iconst (v := -1) hx hb dX10_whose_12 (by decide) ?_
    obtain ⟨r29, hc29, h30⟩ := pp_ob_ex h28
    clear h28
    refine cc_cali (q2 := r29.2) rfl rfl (mo_main g) X G (x := q) rfl (ctX10_refused l g pls q _ hc29) (cwV 1 hts gX10_whose_X10_refused rfl rfl rfl (by decide +kernel) ⟨Nat.le_of_ble_eq_true rfl, Nat.le_of_ble_eq_true rfl⟩) (rest := []) rfl hl.1 rfl (Nat.le_of_ble_eq_true rfl) dX10_whose_13 (fun H locs G => ?_)
    exact cc_iretW cc_id X hr hlk rfl G h30 hQ dX10_whose_16
noncomputable def C_waits (q : cc_S) (v1 : Int32) (v2 : Int32) : Option (Int32 × cc_S) := pp_ob (C_isSide v1) (fun r1 => (if r1 = (0 : Int32) then pp_ob (C_refused q (-1 : Int32)) (fun r21 => some (r21.1, r21.2)) else (if (0 : Int32) ≤ v2 then (if v2 < (8 : Int32) then pp_ob (K_sideAt (cc_gC q 0) v1) (fun r9 => pp_l2 r9 (pp_ob (S_waitsAt (cc_gS (cc_gC q 0) r9) v2) (fun r12 => some (r12, q)))) else pp_ob (C_refused q (-6 : Int32)) (fun r15 => some (r15.1, r15.2))) else pp_ob (C_refused q (-4 : Int32)) (fun r18 => some (r18.1, r18.2)))))
abbrev rmX10_waits : Room := { frames := 1, cells := 0, slots := 0, locals := 22 }
set_option maxHeartbeats 4000000 in
set_option maxRecDepth 100000 in
theorem ctX10_waits (l : Launch) (g : cc_G) (pls : va_W) (q : cc_S) (v1 : Int32) (v2 : Int32) {res : (Int32 × cc_S)} (h : C_waits q v1 v2 = some res) : cc_Mi l yX10_waits wsX10_waits rmX10_waits g pls [.ref (cc_ad g 0), .int v1, .int v2] q res.1 res.2 := by
  intro sz A hA
  unfold C_waits at h
  refine cc_ofW hA (own := RX10) (by decide) rfl rfl (Nat.le_of_ble_eq_true rfl) ?_
  intro p e s m args below meth c ls X hr hlk G hl Q hQ
  have hx := X.1.1
  have hb := X.1.2.1
  have hown := X.1.2.2.2.1
  have hts := X.1.2.2.2.2
  refine (fun (key : ∀ (H : Heap) (locs : List Loc), cc_H g A pls q s H locs → W p l e (headSpec wsX10_waits rmX10_waits).room s m args below meth c H locs 0 0 Q (F0 m 0 ls [])) => key _ _ G) ?_
  clear G
  intro H locs G
  have hl : lv_has ls 3 [(0, .ref (cc_ad g 0)), (1, .int v1), (2, .int v2)] := hl
  have hf19 : Cond.fieldLink RX10 19 (TX10 1).1 (TX10 1).2.1 (TX10 1).2.2.1 ∈ wsX10_waits := by decide +kernel
  have hin10 : ∀ y ∈ wsX100, y ∈ wsX10_waits := (fun _ z => List.mem_cons_of_mem _ (List.mem_append_left _ (List.mem_append_left _ (List.mem_append_right _ z))))
  refine lv_iload_n hx hb dX10_waits_0 rfl (lv_at hl 1 rfl) ?_
  obtain ⟨r1, hc1, h2⟩ := pp_ob_ex h
  clear h
  refine cc_csi X G (ctX10_isSide l _ hc1) (va_cwS 1 hts gX10_waits_X10_isSide rfl rfl rfl (by decide +kernel) ⟨Nat.le_of_ble_eq_true rfl, Nat.le_of_ble_eq_true rfl⟩) (rest := []) rfl hl.1 rfl (Nat.le_of_ble_eq_true rfl) dX10_waits_1 (fun H locs G => ?_)
  refine lv_if_ne (tgt := 13) hx hb dX10_waits_4 (by decide) (fun c3 => ?_) (fun c3 => ?_)
  · have h4 := pp_f c3 h2
    clear h2
    refine lv_iload_n hx hb dX10_waits_13 rfl (lv_at hl 2 rfl) ?_
    refine lv_if_ge (tgt := 24) hx hb dX10_waits_14 (by decide) (fun c5 => ?_) (fun c5 => ?_)
    · have h6 := pp_t c5 h4
      clear h4
      refine lv_iload_n hx hb dX10_waits_24 rfl (lv_at hl 2 rfl) ?_
      refine lv_bipush (v := 8) hx hb dX10_waits_25 (by decide) ?_
      refine lv_icmp_lt (tgt := 37) hx hb dX10_waits_27 (by decide) (fun c7 => ?_) (fun c7 => ?_)
      · have h8 := pp_t c7 h6
        clear h6
        refine lv_aload_n hx hb dX10_waits_37 rfl (lv_at hl 0 rfl) ?_
        refine cc_get (mo_main g) X G (x := q) rfl hin10 1 (by decide) hf19 (v := .ref (cc_ad g (10 + 20 * 0))) rfl dX10_waits_38 ?_
        refine lv_iload_n hx hb dX10_waits_41 rfl (lv_at hl 1 rfl) ?_
        obtain ⟨r9, hc9, h10⟩ := pp_ob_ex h8
        clear h8
        refine cc_calo (q2 := q) (cc_pgC q 0) (cc_pgC q 0) (mo_crt g (c := 0) (by decide)) X G (x := q) rfl (ctX1_sideAt l g pls q (k := 0) (by decide) (cc_gC q 0) _ hc9) (cwV 1 hts gX10_waits_X1_sideAt rfl rfl rfl (by decide +kernel) ⟨Nat.le_of_ble_eq_true rfl, Nat.le_of_ble_eq_true rfl⟩) (rest := []) rfl hl.1 rfl (Nat.le_of_ble_eq_true rfl) dX10_waits_42 (fun H locs G => ?_)
        obtain ⟨hs9, h11⟩ := pp_l2_ex h10
        clear h10
        refine lv_iload_n hx hb dX10_waits_45 rfl (lv_at hl 2 rfl) ?_
        obtain ⟨r12, hc12, h13⟩ := pp_ob_ex h11
        clear h11
        refine cc_cali (q2 := q) (cc_pgS0 q 0 r9) (cc_pgS0 q 0 r9) (mo_side g (c := 0) (sd := r9) (by decide) hs9) X G (x := q) rfl (ctX6_waitsAt l g pls q (k := 0) (sd := r9) (by decide) hs9 (cc_gC q 0) (cc_gS (cc_gC q 0) r9) _ hc12) (cwV 1 hts gX10_waits_X6_waitsAt rfl rfl rfl (by decide +kernel) ⟨Nat.le_of_ble_eq_true rfl, Nat.le_of_ble_eq_true rfl⟩) (rest := []) rfl hl.1 rfl (Nat.le_of_ble_eq_true rfl) dX10_waits_46 (fun H locs G => ?_)
        exact cc_iretW cc_id X hr hlk rfl G h13 hQ dX10_waits_49
      · have h14 := pp_f c7 h6
        clear h6
        refine lv_aload_n hx hb dX10_waits_30 rfl (lv_at hl 0 rfl) ?_
        refine lv_bipush (v := -6) hx hb dX10_waits_31 (by decide) ?_
        obtain ⟨r15, hc15, h16⟩ := pp_ob_ex h14
        clear h14
        refine cc_cali (q2 := r15.2) rfl rfl (mo_main g) X G (x := q) rfl (ctX10_refused l g pls q _ hc15) (cwV 1 hts gX10_waits_X10_refused rfl rfl rfl (by decide +kernel) ⟨Nat.le_of_ble_eq_true rfl, Nat.le_of_ble_eq_true rfl⟩) (rest := []) rfl hl.1 rfl (Nat.le_of_ble_eq_true rfl) dX10_waits_33 (fun H locs G => ?_)
        exact cc_iretW cc_id X hr hlk rfl G h16 hQ dX10_waits_36
    · have h17 := pp_f c5 h4
      clear h4
      refine lv_aload_n hx hb dX10_waits_17 rfl (lv_at hl 0 rfl) ?_
      refine lv_bipush (v := -4) hx hb dX10_waits_18 (by decide) ?_
      obtain ⟨r18, hc18, h19⟩ := pp_ob_ex h17
      clear h17
      refine cc_cali (q2 := r18.2) rfl rfl (mo_main g) X G (x := q) rfl (ctX10_refused l g pls q _ hc18) (cwV 1 hts gX10_waits_X10_refused rfl rfl rfl (by decide +kernel) ⟨Nat.le_of_ble_eq_true rfl, Nat.le_of_ble_eq_true rfl⟩) (rest := []) rfl hl.1 rfl (Nat.le_of_ble_eq_true rfl) dX10_waits_20 (fun H locs G => ?_)
      exact cc_iretW cc_id X hr hlk rfl G h19 hQ dX10_waits_23
  · have h20 := pp_t c3 h2
    clear h2
    refine lv_aload_n hx hb dX10_waits_7 rfl (lv_at hl 0 rfl) ?_
    refine lv_iconst (v := -1) hx hb dX10_waits_8 (by decide) ?_
    obtain ⟨r21, hc21, h22⟩ := pp_ob_ex h20
    clear h20
    refine cc_cali (q2 := r21.2) rfl rfl (mo_main g) X G (x := q) rfl (ctX10_refused l g pls q _ hc21) (cwV 1 hts gX10_waits_X10_refused rfl rfl rfl (by decide +kernel) ⟨Nat.le_of_ble_eq_true rfl, Nat.le_of_ble_eq_true rfl⟩) (rest := []) rfl hl.1 rfl (Nat.le_of_ble_eq_true rfl) dX10_waits_9 (fun H locs G => ?_)
    exact cc_iretW cc_id X hr hlk rfl G h22 hQ dX10_waits_12
noncomputable def C_draw (q : cc_S) (v1 : Int32) : Option (Int32 × cc_S) := pp_lj (cc_mi q 9 (((q.1.1 9) * (1664525 : Int32)) + (1013904223 : Int32)) : cc_S) (fun x1 => (if (1 : Int32) ≤ v1 then pp_dz v1 (some (((((x1.1.1 9) &&& (2147483647 : Int32)) / (256 : Int32)) - ((((x1.1.1 9) &&& (2147483647 : Int32)) / (256 : Int32)) / v1) * v1), x1)) else some ((0 : Int32), x1)))
abbrev rmX10_draw : Room := { frames := 0, cells := 0, slots := 0, locals := 0 }
set_option maxHeartbeats 4000000 in
set_option maxRecDepth 100000 in
theorem ctX10_draw (l : Launch) (g : cc_G) (pls : va_W) (q : cc_S) (v1 : Int32) {res : (Int32 × cc_S)} (h : C_draw q v1 = some res) : cc_Mi l yX10_draw wsX10_draw rmX10_draw g pls [.ref (cc_ad g 0), .int v1] q res.1 res.2 := by
  intro sz A hA
  unfold C_draw at h
  refine cc_ofW hA (own := RX10) (by decide) rfl rfl (Nat.le_of_ble_eq_true rfl) ?_
  intro p e s m args below meth c ls X hr hlk G hl Q hQ
  have hx := X.1.1
  have hb := X.1.2.1
  have hown := X.1.2.2.2.1
  have hts := X.1.2.2.2.2
  refine (fun (key : ∀ (H : Heap) (locs : List Loc), cc_H g A pls q s H locs → W p l e (headSpec wsX10_draw rmX10_draw).room s m args below meth c H locs 0 0 Q (F0 m 0 ls [])) => key _ _ G) ?_
  clear G
  intro H locs G
  have hl : lv_has ls 2 [(0, .ref (cc_ad g 0)), (1, .int v1)] := hl
  have hf217 : Cond.fieldLink RX10 217 (TX10 9).1 (TX10 9).2.1 (TX10 9).2.2.1 ∈ wsX10_draw := by decide +kernel
  have hin10 : ∀ y ∈ wsX100, y ∈ wsX10_draw := (fun _ z => List.mem_cons_of_mem _ (List.mem_append_right _ z))
  refine lv_aload_n hx hb dX10_draw_0 rfl (lv_at hl 0 rfl) ?_
  refine lv_aload_n hx hb dX10_draw_1 rfl (lv_at hl 0 rfl) ?_
  refine cc_get (mo_main g) X G (x := q) rfl hin10 9 (by decide) hf217 (v := .int (q.1.1 9)) rfl dX10_draw_2 ?_
  refine lv_ldc (v := 1664525) hx hb hown (hts (.constant RX10 250 (1664525)) (by decide +kernel)) dX10_draw_5 ?_
  refine lv_imul hx hb dX10_draw_7 ?_
  refine lv_ldc (v := 1013904223) hx hb hown (hts (.constant RX10 251 (1013904223)) (by decide +kernel)) dX10_draw_8 ?_
  refine lv_iadd hx hb dX10_draw_10 ?_
  obtain ⟨x1, ex1, h2⟩ := pp_lj_ex h
  clear h
  refine cc_put (mi_9 g) X G (x := q) rfl hin10 tyX10 tyX10_ok nmX10 (by decide) hf217 rfl (ty := .int) (by decide +kernel) rfl rfl ex1 dX10_draw_11 (fun H locs G => ?_)
  refine lv_iload_n hx hb dX10_draw_14 rfl (lv_at hl 1 rfl) ?_
  refine lv_iconst (v := 1) hx hb dX10_draw_15 (by decide) ?_
  refine lv_icmp_ge (tgt := 23) hx hb dX10_draw_16 (by decide) (fun c3 => ?_) (fun c3 => ?_)
  · have h4 := pp_t c3 h2
    clear h2
    refine lv_aload_n hx hb dX10_draw_23 rfl (lv_at hl 0 rfl) ?_
    refine cc_get (mo_main g) X G (x := x1) rfl hin10 9 (by decide) hf217 (v := .int (x1.1.1 9)) rfl dX10_draw_24 ?_
    refine lv_ldc (v := 2147483647) hx hb hown (hts (.constant RX10 252 (2147483647)) (by decide +kernel)) dX10_draw_27 ?_
    refine lv_iand hx hb dX10_draw_29 ?_
    refine lv_sipush (v := 256) hx hb dX10_draw_30 (by decide) ?_
    refine lv_idiv hx hb dX10_draw_33 (by decide) ?_
    refine lv_iload_n hx hb dX10_draw_34 rfl (lv_at hl 1 rfl) ?_
    obtain ⟨hz5, h6⟩ := pp_dz_ex h4
    clear h4
    refine lv_irem hx hb dX10_draw_35 hz5 ?_
    exact cc_iretW cc_id X hr hlk rfl G h6 hQ dX10_draw_36
  · have h7 := pp_f c3 h2
    clear h2
    refine lv_iconst (v := 0) hx hb dX10_draw_19 (by decide) ?_
    refine lv_goto (tgt := 36) hx hb dX10_draw_20 (by decide) ?_
    exact cc_iretW cc_id X hr hlk rfl G h7 hQ dX10_draw_36
noncomputable def C_throwByLot (q : cc_S) : Option cc_S := pp_ob (C_draw q (6 : Int32)) (fun r1 => pp_ob (C_draw r1.2 ((cc_gC r1.2 1).1.1 1)) (fun r3 => pp_ob (C_draw r3.2 (3 : Int32)) (fun r5 => pp_ob (K_canThrow (cc_gC r5.2 1) r1.1 r3.1) (fun r7 => (if r7 = (0 : Int32) then some r5.2 else pp_ob (K_holderOf (cc_gC r5.2 1) r1.1) (fun r12 => pp_ob (K_hitOf (cc_gC r5.2 1) r12 r3.1 r5.1) (fun r14 => pp_ob (K_caughtOf (cc_gC r5.2 1) r3.1 r5.1) (fun r16 => pp_ob (C_draw r5.2 (40 : Int32)) (fun r18 => pp_lj (fun (a20 : Int32) => (pp_ob (K_endThrow (cc_gC r18.2 1) r1.1 r3.1 a20) (fun r23 => pp_lj (cc_pC r18.2 1 r23 : cc_S) (fun x25 => some x25)) : Option cc_S)) (fun j20 => (if r14 ≤ r18.1 then (if (r14 + r16) ≤ r18.1 then j20 (2 : Int32) else j20 (1 : Int32)) else j20 (0 : Int32))))))))))))
abbrev rmX10_throwByLot : Room := { frames := 5, cells := 0, slots := 0, locals := 107 }
set_option maxHeartbeats 4000000 in
set_option maxRecDepth 100000 in
theorem ctX10_throwByLot (l : Launch) (g : cc_G) (pls : va_W) (q : cc_S) {res : cc_S} (h : C_throwByLot q = some res) : cc_Mv l yX10_throwByLot wsX10_throwByLot rmX10_throwByLot g pls [.ref (cc_ad g 0)] q res := by
  intro sz A hA
  unfold C_throwByLot at h
  refine cc_ofW hA (own := RX10) (by decide) rfl rfl (Nat.le_of_ble_eq_true rfl) ?_
  intro p e s m args below meth c ls X hr hlk G hl Q hQ
  have hx := X.1.1
  have hb := X.1.2.1
  have hown := X.1.2.2.2.1
  have hts := X.1.2.2.2.2
  refine (fun (key : ∀ (H : Heap) (locs : List Loc), cc_H g A pls q s H locs → W p l e (headSpec wsX10_throwByLot rmX10_throwByLot).room s m args below meth c H locs 0 0 Q (F0 m 0 ls [])) => key _ _ G) ?_
  clear G
  intro H locs G
  have hl : lv_has ls 8 [(0, .ref (cc_ad g 0))] := hl
  have hf23 : Cond.fieldLink RX10 23 (TX10 2).1 (TX10 2).2.1 (TX10 2).2.2.1 ∈ wsX10_throwByLot := by decide +kernel
  have hin1 : ∀ y ∈ wsX10, y ∈ wsX10_throwByLot := (fun _ z => List.mem_cons_of_mem _ (List.mem_append_left _ (List.mem_append_left _ (List.mem_append_left _ (List.mem_append_left _ (List.mem_append_left _ (List.mem_append_left _ (List.mem_append_left _ (List.mem_append_right _ z)))))))))
  have hin10 : ∀ y ∈ wsX100, y ∈ wsX10_throwByLot := (fun _ z => List.mem_cons_of_mem _ (List.mem_append_left _ (List.mem_append_left _ (List.mem_append_left _ (List.mem_append_left _ (List.mem_append_left _ (List.mem_append_left _ (List.mem_append_left _ (List.mem_append_left _ (List.mem_append_right _ z))))))))))
  refine lv_aload_n hx hb dX10_throwByLot_0 rfl (lv_at hl 0 rfl) ?_
  refine lv_bipush (v := 6) hx hb dX10_throwByLot_1 (by decide) ?_
  obtain ⟨r1, hc1, h2⟩ := pp_ob_ex h
  clear h
  refine cc_cali (q2 := r1.2) rfl rfl (mo_main g) X G (x := q) rfl (ctX10_draw l g pls q _ hc1) (cwV 1 hts gX10_throwByLot_X10_draw rfl rfl rfl (by decide +kernel) ⟨Nat.le_of_ble_eq_true rfl, Nat.le_of_ble_eq_true rfl⟩) (rest := []) rfl hl.1 rfl (Nat.le_of_ble_eq_true rfl) dX10_throwByLot_3 (fun H locs G => ?_)
  refine lv_istore_n (lv' := [(1, .int r1.1), (0, .ref (cc_ad g 0))]) hx hb dX10_throwByLot_6 rfl hl (by decide) rfl (fun ls hl => ?_)
  refine lv_aload_n hx hb dX10_throwByLot_7 rfl (lv_at hl 1 rfl) ?_
  refine lv_aload_n hx hb dX10_throwByLot_8 rfl (lv_at hl 1 rfl) ?_
  refine cc_get (mo_main g) X G (x := r1.2) rfl hin10 2 (by decide) hf23 (v := .ref (cc_ad g (10 + 20 * 1))) rfl dX10_throwByLot_9 ?_
  refine cc_getN (mo_crt g (c := 1) (by decide)) X G (x := r1.2) rfl hin1 1 (by decide) (by decide +kernel) (v := .int ((cc_gC r1.2 1).1.1 1)) rfl dX10_throwByLot_12 ?_
  obtain ⟨r3, hc3, h4⟩ := pp_ob_ex h2
  clear h2
  refine cc_cali (q2 := r3.2) rfl rfl (mo_main g) X G (x := r1.2) rfl (ctX10_draw l g pls r1.2 _ hc3) (cwV 1 hts gX10_throwByLot_X10_draw rfl rfl rfl (by decide +kernel) ⟨Nat.le_of_ble_eq_true rfl, Nat.le_of_ble_eq_true rfl⟩) (rest := []) rfl hl.1 rfl (Nat.le_of_ble_eq_true rfl) dX10_throwByLot_15 (fun H locs G => ?_)
  refine lv_istore_n (lv' := [(2, .int r3.1), (1, .int r1.1), (0, .ref (cc_ad g 0))]) hx hb dX10_throwByLot_18 rfl hl (by decide) rfl (fun ls hl => ?_)
  refine lv_aload_n hx hb dX10_throwByLot_19 rfl (lv_at hl 2 rfl) ?_
  refine lv_iconst (v := 3) hx hb dX10_throwByLot_20 (by decide) ?_
  obtain ⟨r5, hc5, h6⟩ := pp_ob_ex h4
  clear h4
  refine cc_cali (q2 := r5.2) rfl rfl (mo_main g) X G (x := r3.2) rfl (ctX10_draw l g pls r3.2 _ hc5) (cwV 1 hts gX10_throwByLot_X10_draw rfl rfl rfl (by decide +kernel) ⟨Nat.le_of_ble_eq_true rfl, Nat.le_of_ble_eq_true rfl⟩) (rest := []) rfl hl.1 rfl (Nat.le_of_ble_eq_true rfl) dX10_throwByLot_21 (fun H locs G => ?_)
  refine lv_istore_n (lv' := [(3, .int r5.1), (2, .int r3.1), (1, .int r1.1), (0, .ref (cc_ad g 0))]) hx hb dX10_throwByLot_24 rfl hl (by decide) rfl (fun ls hl => ?_)
  refine lv_aload_n hx hb dX10_throwByLot_25 rfl (lv_at hl 3 rfl) ?_
  refine cc_get (mo_main g) X G (x := r5.2) rfl hin10 2 (by decide) hf23 (v := .ref (cc_ad g (10 + 20 * 1))) rfl dX10_throwByLot_26 ?_
  refine lv_iload_n hx hb dX10_throwByLot_29 rfl (lv_at hl 2 rfl) ?_
  refine lv_iload_n hx hb dX10_throwByLot_30 rfl (lv_at hl 1 rfl) ?_
  obtain ⟨r7, hc7, h8⟩ := pp_ob_ex h6
  clear h6
  refine cc_cali (q2 := r5.2) (cc_pgC r5.2 1) (cc_pgC r5.2 1) (mo_crt g (c := 1) (by decide)) X G (x := r5.2) rfl (ctX1_canThrow l g pls r5.2 (k := 1) (by decide) (cc_gC r5.2 1) _ _ hc7) (cwV 2 hts gX10_throwByLot_X1_canThrow rfl rfl rfl (by decide +kernel) ⟨Nat.le_of_ble_eq_true rfl, Nat.le_of_ble_eq_true rfl⟩) (rest := []) rfl hl.1 rfl (Nat.le_of_ble_eq_true rfl) dX10_throwByLot_31 (fun H locs G => ?_)
  refine lv_if_eq (tgt := 114) hx hb dX10_throwByLot_34 (by decide) (fun c9 => ?_) (fun c9 => ?_)
  · have h10 := pp_t c9 h8
    clear h8
    exact cc_vret X hr hlk G (congrArg (fun (z : cc_S) => z) (Option.some.inj h10)) hQ dX10_throwByLot_114
  · have h11 := pp_f c9 h8
    clear h8
    refine lv_aload_n hx hb dX10_throwByLot_37 rfl (lv_at hl 3 rfl) ?_
    refine cc_get (mo_main g) X G (x := r5.2) rfl hin10 2 (by decide) hf23 (v := .ref (cc_ad g (10 + 20 * 1))) rfl dX10_throwByLot_38 ?_
    refine lv_aload_n hx hb dX10_throwByLot_41 rfl (lv_at hl 3 rfl) ?_
    refine cc_get (mo_main g) X G (x := r5.2) rfl hin10 2 (by decide) hf23 (v := .ref (cc_ad g (10 + 20 * 1))) rfl dX10_throwByLot_42 ?_
    refine lv_iload_n hx hb dX10_throwByLot_45 rfl (lv_at hl 2 rfl) ?_
    obtain ⟨r12, hc12, h13⟩ := pp_ob_ex h11
    clear h11
    refine cc_cali (q2 := r5.2) (cc_pgC r5.2 1) (cc_pgC r5.2 1) (mo_crt g (c := 1) (by decide)) X G (x := r5.2) rfl (ctX1_holderOf l g pls r5.2 (k := 1) (by decide) (cc_gC r5.2 1) _ hc12) (cwV 1 hts gX10_throwByLot_X1_holderOf rfl rfl rfl (by decide +kernel) ⟨Nat.le_of_ble_eq_true rfl, Nat.le_of_ble_eq_true rfl⟩) (rest := [.ref (cc_ad g (10 + 20 * 1))]) rfl hl.1 rfl (Nat.le_of_ble_eq_true rfl) dX10_throwByLot_46 (fun H locs G => ?_)
    refine lv_iload_n hx hb dX10_throwByLot_49 rfl (lv_at hl 1 rfl) ?_
    refine lv_iload_n hx hb dX10_throwByLot_50 rfl (lv_at hl 0 rfl) ?_
    obtain ⟨r14, hc14, h15⟩ := pp_ob_ex h13
    clear h13
    refine cc_cali (q2 := r5.2) (cc_pgC r5.2 1) (cc_pgC r5.2 1) (mo_crt g (c := 1) (by decide)) X G (x := r5.2) rfl (ctX1_hitOf l g pls r5.2 (k := 1) (by decide) (cc_gC r5.2 1) _ _ _ hc14) (cwV 3 hts gX10_throwByLot_X1_hitOf rfl rfl rfl (by decide +kernel) ⟨Nat.le_of_ble_eq_true rfl, Nat.le_of_ble_eq_true rfl⟩) (rest := []) rfl hl.1 rfl (Nat.le_of_ble_eq_true rfl) dX10_throwByLot_51 (fun H locs G => ?_)
    refine lv_istore (lv' := [(4, .int r14), (3, .int r5.1), (2, .int r3.1), (1, .int r1.1), (0, .ref (cc_ad g 0))]) hx hb dX10_throwByLot_54 hl (by decide) rfl (fun ls hl => ?_)
    refine lv_aload_n hx hb dX10_throwByLot_56 rfl (lv_at hl 4 rfl) ?_
    refine cc_get (mo_main g) X G (x := r5.2) rfl hin10 2 (by decide) hf23 (v := .ref (cc_ad g (10 + 20 * 1))) rfl dX10_throwByLot_57 ?_
    refine lv_iload_n hx hb dX10_throwByLot_60 rfl (lv_at hl 2 rfl) ?_
    refine lv_iload_n hx hb dX10_throwByLot_61 rfl (lv_at hl 1 rfl) ?_
    obtain ⟨r16, hc16, h17⟩ := pp_ob_ex h15
    clear h15
    refine cc_cali (q2 := r5.2) (cc_pgC r5.2 1) (cc_pgC r5.2 1) (mo_crt g (c := 1) (by decide)) X G (x := r5.2) rfl (ctX1_caughtOf l g pls r5.2 (k := 1) (by decide) (cc_gC r5.2 1) _ _ hc16) (cwV 2 hts gX10_throwByLot_X1_caughtOf rfl rfl rfl (by decide +kernel) ⟨Nat.le_of_ble_eq_true rfl, Nat.le_of_ble_eq_true rfl⟩) (rest := []) rfl hl.1 rfl (Nat.le_of_ble_eq_true rfl) dX10_throwByLot_62 (fun H locs G => ?_)
    refine lv_istore (lv' := [(5, .int r16), (4, .int r14), (3, .int r5.1), (2, .int r3.1), (1, .int r1.1), (0, .ref (cc_ad g 0))]) hx hb dX10_throwByLot_65 hl (by decide) rfl (fun ls hl => ?_)
    refine lv_aload_n hx hb dX10_throwByLot_67 rfl (lv_at hl 5 rfl) ?_
    refine lv_bipush (v := 40) hx hb dX10_throwByLot_68 (by decide) ?_
    obtain ⟨r18, hc18, h19⟩ := pp_ob_ex h17
    clear h17
    refine cc_cali (q2 := r18.2) rfl rfl (mo_main g) X G (x := r5.2) rfl (ctX10_draw l g pls r5.2 _ hc18) (cwV 1 hts gX10_throwByLot_X10_draw rfl rfl rfl (by decide +kernel) ⟨Nat.le_of_ble_eq_true rfl, Nat.le_of_ble_eq_true rfl⟩) (rest := []) rfl hl.1 rfl (Nat.le_of_ble_eq_true rfl) dX10_throwByLot_70 (fun H locs G => ?_)
    refine lv_istore (lv' := [(6, .int r18.1), (5, .int r16), (4, .int r14), (3, .int r5.1), (2, .int r3.1), (1, .int r1.1), (0, .ref (cc_ad g 0))]) hx hb dX10_throwByLot_73 hl (by decide) rfl (fun ls hl => ?_)
    refine lv_iload hx hb dX10_throwByLot_75 (lv_at hl 0 rfl) ?_
    refine lv_iload hx hb dX10_throwByLot_77 (lv_at hl 2 rfl) ?_
    obtain ⟨j20, ej20, h21⟩ := pp_lj_ex h19
    clear h19
    have hj20 : ∀ (a20 : Int32) (H : Heap) (locs : List Loc) (ls : Array Slot), j20 a20 = some res → cc_H g A pls r18.2 s H locs → lv_has ls 8 [(0, .ref (cc_ad g 0)), (1, .int r1.1), (2, .int r3.1)] → W p l e (headSpec wsX10_throwByLot rmX10_throwByLot).room s m args below meth c H locs 0 0 Q (F0 m 101 ls [.int a20]) := by
      intro a20 H locs ls h G hl
      have h22 := pp_jmp ej20 h
      clear h h21
      refine lv_istore (lv' := [(7, .int a20), (0, .ref (cc_ad g 0)), (1, .int r1.1), (2, .int r3.1)]) hx hb dX10_throwByLot_101 hl (by decide) rfl (fun ls hl => ?_)
      refine lv_aload_n hx hb dX10_throwByLot_103 rfl (lv_at hl 1 rfl) ?_
      refine cc_get (mo_main g) X G (x := r18.2) rfl hin10 2 (by decide) hf23 (v := .ref (cc_ad g (10 + 20 * 1))) rfl dX10_throwByLot_104 ?_
      refine lv_iload_n hx hb dX10_throwByLot_107 rfl (lv_at hl 2 rfl) ?_
      refine lv_iload_n hx hb dX10_throwByLot_108 rfl (lv_at hl 3 rfl) ?_
      refine lv_iload hx hb dX10_throwByLot_109 (lv_at hl 0 rfl) ?_
      obtain ⟨r23, hc23, h24⟩ := pp_ob_ex h22
      clear h22
      obtain ⟨x25, ex25, h26⟩ := pp_lj_ex h24
      clear h24
      refine cc_calv (q2 := x25) (cc_pgC r18.2 1) ex25.symm (mo_crt g (c := 1) (by decide)) X G (x := r18.2) rfl (ctX1_endThrow l g pls r18.2 (k := 1) (by decide) (cc_gC r18.2 1) _ _ _ hc23) (cwV 3 hts gX10_throwByLot_X1_endThrow rfl rfl rfl (by decide +kernel) ⟨Nat.le_of_ble_eq_true rfl, Nat.le_of_ble_eq_true rfl⟩) (rest := []) rfl hl.1 rfl (Nat.le_of_ble_eq_true rfl) dX10_throwByLot_111 (fun H locs G => ?_)
      exact cc_vret X hr hlk G (congrArg (fun (z : cc_S) => z) (Option.some.inj h26)) hQ dX10_throwByLot_114
    refine lv_icmp_ge (tgt := 86) hx hb dX10_throwByLot_79 (by decide) (fun c27 => ?_) (fun c27 => ?_)
    · have h28 := pp_t c27 h21
      clear h21
      refine lv_iload hx hb dX10_throwByLot_86 (lv_at hl 0 rfl) ?_
      refine lv_iload hx hb dX10_throwByLot_88 (lv_at hl 2 rfl) ?_
      refine lv_iload hx hb dX10_throwByLot_90 (lv_at hl 1 rfl) ?_
      refine lv_iadd hx hb dX10_throwByLot_92 ?_
      refine lv_icmp_ge (tgt := 100) hx hb dX10_throwByLot_93 (by decide) (fun c29 => ?_) (fun c29 => ?_)
      · have h30 := pp_t c29 h28
        clear h28
        refine lv_iconst (v := 2) hx hb dX10_throwByLot_100 (by decide) ?_
        exact hj20 _ H locs ls h30 G (lv_sub hl [6, 5, 4] rfl)
      · have h31 := pp_f c29 h28
        clear h28
        refine lv_iconst (v := 1) hx hb dX10_throwByLot_96 (by decide) ?_
        refine lv_goto (tgt := 101) hx hb dX10_throwByLot_97 (by decide) ?_
        exact hj20 _ H locs ls h31 G (lv_sub hl [6, 5, 4] rfl)
    · have h32 := pp_f c27 h21
      clear h21
      refine lv_iconst (v := 0) hx hb dX10_throwByLot_82 (by decide) ?_
      refine lv_goto (tgt := 101) hx hb dX10_throwByLot_83 (by decide) ?_
      exact hj20 _ H locs ls h32 G (lv_sub hl [6, 5, 4] rfl)
noncomputable def C_refusalCount (q : cc_S) (v1 : Int32) : Option Int32 := pp_lj (fun (a1 : Unit) => (some (-9 : Int32) : Option Int32)) (fun j1 => (if v1 ≤ (0 : Int32) then j1 () else (if (Int32.ofNat 7) ≤ v1 then j1 () else pp_ix v1 7 (some (q.1.2.1 8 (Int32.toNatClampNeg v1))))))
abbrev rmX10_refusalCount : Room := { frames := 0, cells := 0, slots := 0, locals := 0 }
set_option maxHeartbeats 4000000 in
set_option maxRecDepth 100000 in
theorem ctX10_refusalCount (l : Launch) (g : cc_G) (pls : va_W) (q : cc_S) (v1 : Int32) {res : Int32} (h : C_refusalCount q v1 = some res) : cc_Mi l yX10_refusalCount wsX10_refusalCount rmX10_refusalCount g pls [.ref (cc_ad g 0), .int v1] q res q := by
  intro sz A hA
  unfold C_refusalCount at h
  refine cc_ofW hA (own := RX10) (by decide) rfl rfl (Nat.le_of_ble_eq_true rfl) ?_
  intro p e s m args below meth c ls X hr hlk G hl Q hQ
  have hx := X.1.1
  have hb := X.1.2.1
  have hown := X.1.2.2.2.1
  have hts := X.1.2.2.2.2
  refine (fun (key : ∀ (H : Heap) (locs : List Loc), cc_H g A pls q s H locs → W p l e (headSpec wsX10_refusalCount rmX10_refusalCount).room s m args below meth c H locs 0 0 Q (F0 m 0 ls [])) => key _ _ G) ?_
  clear G
  intro H locs G
  have hl : lv_has ls 2 [(0, .ref (cc_ad g 0)), (1, .int v1)] := hl
  have hf40 : Cond.fieldLink RX10 40 (TX10 8).1 (TX10 8).2.1 (TX10 8).2.2.1 ∈ wsX10_refusalCount := by decide +kernel
  have hin10 : ∀ y ∈ wsX100, y ∈ wsX10_refusalCount := (fun _ z => List.mem_cons_of_mem _ (List.mem_append_right _ z))
  refine lv_iload_n hx hb dX10_refusalCount_0 rfl (lv_at hl 1 rfl) ?_
  obtain ⟨j1, ej1, h2⟩ := pp_lj_ex h
  clear h
  have hj1 : ∀ (a1 : Unit) (H : Heap) (locs : List Loc) (ls : Array Slot), j1 a1 = some res → cc_H g A pls q s H locs → lv_has ls 2 [] → W p l e (headSpec wsX10_refusalCount rmX10_refusalCount).room s m args below meth c H locs 0 0 Q (F0 m 22 ls []) := by
    intro a1 H locs ls h G hl
    have h3 := pp_jmp ej1 h
    clear h h2
    refine lv_bipush (v := -9) hx hb dX10_refusalCount_22 (by decide) ?_
    exact cc_iret X hr hlk rfl G (Option.some.inj h3) rfl hQ dX10_refusalCount_24
  refine lv_if_le (tgt := 22) hx hb dX10_refusalCount_1 (by decide) (fun c4 => ?_) (fun c4 => ?_)
  · have h5 := pp_t c4 h2
    clear h2
    exact hj1 _ H locs ls h5 G (lv_sub hl [] rfl)
  · have h6 := pp_f c4 h2
    clear h2
    refine lv_iload_n hx hb dX10_refusalCount_4 rfl (lv_at hl 1 rfl) ?_
    refine lv_aload_n hx hb dX10_refusalCount_5 rfl (lv_at hl 0 rfl) ?_
    refine cc_get (mo_main g) X G (x := q) rfl hin10 8 (by decide) hf40 (v := .ref (cc_ad g 7)) rfl dX10_refusalCount_6 ?_
    refine cc_ialen (ma_8 g) X G (x := q) rfl dX10_refusalCount_9 ?_
    refine lv_icmp_ge (tgt := 22) hx hb dX10_refusalCount_10 (by decide) (fun c7 => ?_) (fun c7 => ?_)
    · have h8 := pp_t c7 h6
      clear h6
      exact hj1 _ H locs ls h8 G (lv_sub hl [] rfl)
    · have h9 := pp_f c7 h6
      clear h6
      refine lv_aload_n hx hb dX10_refusalCount_13 rfl (lv_at hl 0 rfl) ?_
      refine cc_get (mo_main g) X G (x := q) rfl hin10 8 (by decide) hf40 (v := .ref (cc_ad g 7)) rfl dX10_refusalCount_14 ?_
      refine lv_iload_n hx hb dX10_refusalCount_17 rfl (lv_at hl 1 rfl) ?_
      obtain ⟨hi10, h11⟩ := pp_ix_ex h9
      clear h9
      refine cc_iald (ma_8 g) X G (x := q) hi10 dX10_refusalCount_18 ?_
      refine lv_goto (tgt := 24) hx hb dX10_refusalCount_19 (by decide) ?_
      exact cc_iret X hr hlk rfl G (Option.some.inj h11) rfl hQ dX10_refusalCount_24
noncomputable def C_count (q : cc_S) (v1 : Int32) : Option Int32 := (if v1 = (0 : Int32) then some ((cc_gC q 0).1.1 1) else (if v1 = (1 : Int32) then pp_ob (K_sideAt (cc_gC q 0) (0 : Int32)) (fun r7 => pp_l2 r7 (pp_ob (S_inCount (cc_gS (cc_gC q 0) r7)) (fun r10 => some r10))) else (if v1 = (2 : Int32) then pp_ob (K_sideAt (cc_gC q 0) (1 : Int32)) (fun r15 => pp_l2 r15 (pp_ob (S_inCount (cc_gS (cc_gC q 0) r15)) (fun r18 => some r18))) else (if v1 = (3 : Int32) then some ((cc_gC q 0).1.1 7) else (if v1 = (4 : Int32) then pp_ob (K_lyingCount (cc_gC q 0) (0 : Int32)) (fun r26 => some r26) else (if v1 = (5 : Int32) then pp_ob (K_lyingCount (cc_gC q 0) (1 : Int32)) (fun r31 => some r31) else (if v1 = (6 : Int32) then some (q.1.1 7) else (if v1 = (7 : Int32) then some ((cc_gT q).1 1) else pp_ob (C_refusalCount q (v1 - (10 : Int32))) (fun r39 => some r39)))))))))
abbrev rmX10_count : Room := { frames := 2, cells := 0, slots := 0, locals := 40 }
set_option maxHeartbeats 4000000 in
set_option maxRecDepth 100000 in
theorem ctX10_count (l : Launch) (g : cc_G) (pls : va_W) (q : cc_S) (v1 : Int32) {res : Int32} (h : C_count q v1 = some res) : cc_Mi l yX10_count wsX10_count rmX10_count g pls [.ref (cc_ad g 0), .int v1] q res q := by
  intro sz A hA
  unfold C_count at h
  refine cc_ofW hA (own := RX10) (by decide) rfl rfl (Nat.le_of_ble_eq_true rfl) ?_
  intro p e s m args below meth c ls X hr hlk G hl Q hQ
  have hx := X.1.1
  have hb := X.1.2.1
  have hown := X.1.2.2.2.1
  have hts := X.1.2.2.2.2
  refine (fun (key : ∀ (H : Heap) (locs : List Loc), cc_H g A pls q s H locs → W p l e (headSpec wsX10_count rmX10_count).room s m args below meth c H locs 0 0 Q (F0 m 0 ls [])) => key _ _ G) ?_
  clear G
  intro H locs G
  have hl : lv_has ls 2 [(0, .ref (cc_ad g 0)), (1, .int v1)] := hl
  have hf10 : Cond.fieldLink RX10 10 (TX10 0).1 (TX10 0).2.1 (TX10 0).2.2.1 ∈ wsX10_count := by decide +kernel
  have hf19 : Cond.fieldLink RX10 19 (TX10 1).1 (TX10 1).2.1 (TX10 1).2.2.1 ∈ wsX10_count := by decide +kernel
  have hf193 : Cond.fieldLink RX10 193 (TX10 7).1 (TX10 7).2.1 (TX10 7).2.2.1 ∈ wsX10_count := by decide +kernel
  have hin1 : ∀ y ∈ wsX10, y ∈ wsX10_count := (fun _ z => List.mem_cons_of_mem _ (List.mem_append_left _ (List.mem_append_left _ (List.mem_append_right _ z))))
  have hin7 : ∀ y ∈ wsX70, y ∈ wsX10_count := (fun _ z => List.mem_cons_of_mem _ (List.mem_append_left _ (List.mem_append_right _ z)))
  have hin10 : ∀ y ∈ wsX100, y ∈ wsX10_count := (fun _ z => List.mem_cons_of_mem _ (List.mem_append_left _ (List.mem_append_left _ (List.mem_append_left _ (List.mem_append_right _ z)))))
  refine lv_iload_n hx hb dX10_count_0 rfl (lv_at hl 1 rfl) ?_
  by_cases c1 : v1 = (0 : Int32)
  · have h2 := pp_t c1 h
    clear h
    refine lv_tableIn (off := 47) (tgt := 48) hx hb dX10_count_1 (by rw [c1]; decide) (by rw [c1]; decide) (by rw [c1]; decide) (by decide) ?_
    refine lv_aload_n hx hb dX10_count_48 rfl (lv_at hl 0 rfl) ?_
    refine cc_get (mo_main g) X G (x := q) rfl hin10 1 (by decide) hf19 (v := .ref (cc_ad g (10 + 20 * 0))) rfl dX10_count_49 ?_
    refine cc_getN (mo_crt g (c := 0) (by decide)) X G (x := q) rfl hin1 1 (by decide) (by decide +kernel) (v := .int ((cc_gC q 0).1.1 1)) rfl dX10_count_52 ?_
    exact cc_iret X hr hlk rfl G (Option.some.inj h2) rfl hQ dX10_count_55
  have h3 := pp_f c1 h
  clear h
  by_cases c4 : v1 = (1 : Int32)
  · have h5 := pp_t c4 h3
    clear h3
    refine lv_tableIn (off := 55) (tgt := 56) hx hb dX10_count_1 (by rw [c4]; decide) (by rw [c4]; decide) (by rw [c4]; decide) (by decide) ?_
    refine lv_aload_n hx hb dX10_count_56 rfl (lv_at hl 0 rfl) ?_
    refine cc_get (mo_main g) X G (x := q) rfl hin10 1 (by decide) hf19 (v := .ref (cc_ad g (10 + 20 * 0))) rfl dX10_count_57 ?_
    refine lv_iconst (v := 0) hx hb dX10_count_60 (by decide) ?_
    obtain ⟨r7, hc7, h8⟩ := pp_ob_ex h5
    clear h5
    refine cc_calo (q2 := q) (cc_pgC q 0) (cc_pgC q 0) (mo_crt g (c := 0) (by decide)) X G (x := q) rfl (ctX1_sideAt l g pls q (k := 0) (by decide) (cc_gC q 0) _ hc7) (cwV 1 hts gX10_count_X1_sideAt rfl rfl rfl (by decide +kernel) ⟨Nat.le_of_ble_eq_true rfl, Nat.le_of_ble_eq_true rfl⟩) (rest := []) rfl hl.1 rfl (Nat.le_of_ble_eq_true rfl) dX10_count_61 (fun H locs G => ?_)
    obtain ⟨hs7, h9⟩ := pp_l2_ex h8
    clear h8
    obtain ⟨r10, hc10, h11⟩ := pp_ob_ex h9
    clear h9
    refine cc_cali (q2 := q) (cc_pgS0 q 0 r7) (cc_pgS0 q 0 r7) (mo_side g (c := 0) (sd := r7) (by decide) hs7) X G (x := q) rfl (ctX6_inCount l g pls q (k := 0) (sd := r7) (by decide) hs7 (cc_gC q 0) (cc_gS (cc_gC q 0) r7) hc10) (cwV 0 hts gX10_count_X6_inCount rfl rfl rfl (by decide +kernel) ⟨Nat.le_of_ble_eq_true rfl, Nat.le_of_ble_eq_true rfl⟩) (rest := []) rfl hl.1 rfl (Nat.le_of_ble_eq_true rfl) dX10_count_64 (fun H locs G => ?_)
    exact cc_iret X hr hlk rfl G (Option.some.inj h11) rfl hQ dX10_count_67
  have h6 := pp_f c4 h3
  clear h3
  by_cases c12 : v1 = (2 : Int32)
  · have h13 := pp_t c12 h6
    clear h6
    refine lv_tableIn (off := 67) (tgt := 68) hx hb dX10_count_1 (by rw [c12]; decide) (by rw [c12]; decide) (by rw [c12]; decide) (by decide) ?_
    refine lv_aload_n hx hb dX10_count_68 rfl (lv_at hl 0 rfl) ?_
    refine cc_get (mo_main g) X G (x := q) rfl hin10 1 (by decide) hf19 (v := .ref (cc_ad g (10 + 20 * 0))) rfl dX10_count_69 ?_
    refine lv_iconst (v := 1) hx hb dX10_count_72 (by decide) ?_
    obtain ⟨r15, hc15, h16⟩ := pp_ob_ex h13
    clear h13
    refine cc_calo (q2 := q) (cc_pgC q 0) (cc_pgC q 0) (mo_crt g (c := 0) (by decide)) X G (x := q) rfl (ctX1_sideAt l g pls q (k := 0) (by decide) (cc_gC q 0) _ hc15) (cwV 1 hts gX10_count_X1_sideAt rfl rfl rfl (by decide +kernel) ⟨Nat.le_of_ble_eq_true rfl, Nat.le_of_ble_eq_true rfl⟩) (rest := []) rfl hl.1 rfl (Nat.le_of_ble_eq_true rfl) dX10_count_73 (fun H locs G => ?_)
    obtain ⟨hs15, h17⟩ := pp_l2_ex h16
    clear h16
    obtain ⟨r18, hc18, h19⟩ := pp_ob_ex h17
    clear h17
    refine cc_cali (q2 := q) (cc_pgS0 q 0 r15) (cc_pgS0 q 0 r15) (mo_side g (c := 0) (sd := r15) (by decide) hs15) X G (x := q) rfl (ctX6_inCount l g pls q (k := 0) (sd := r15) (by decide) hs15 (cc_gC q 0) (cc_gS (cc_gC q 0) r15) hc18) (cwV 0 hts gX10_count_X6_inCount rfl rfl rfl (by decide +kernel) ⟨Nat.le_of_ble_eq_true rfl, Nat.le_of_ble_eq_true rfl⟩) (rest := []) rfl hl.1 rfl (Nat.le_of_ble_eq_true rfl) dX10_count_76 (fun H locs G => ?_)
    exact cc_iret X hr hlk rfl G (Option.some.inj h19) rfl hQ dX10_count_79
  have h14 := pp_f c12 h6
  clear h6
  by_cases c20 : v1 = (3 : Int32)
  · have h21 := pp_t c20 h14
    clear h14
    refine lv_tableIn (off := 79) (tgt := 80) hx hb dX10_count_1 (by rw [c20]; decide) (by rw [c20]; decide) (by rw [c20]; decide) (by decide) ?_
    refine lv_aload_n hx hb dX10_count_80 rfl (lv_at hl 0 rfl) ?_
    refine cc_get (mo_main g) X G (x := q) rfl hin10 1 (by decide) hf19 (v := .ref (cc_ad g (10 + 20 * 0))) rfl dX10_count_81 ?_
    refine cc_getN (mo_crt g (c := 0) (by decide)) X G (x := q) rfl hin1 7 (by decide) (by decide +kernel) (v := .int ((cc_gC q 0).1.1 7)) rfl dX10_count_84 ?_
    exact cc_iret X hr hlk rfl G (Option.some.inj h21) rfl hQ dX10_count_87
  have h22 := pp_f c20 h14
  clear h14
  by_cases c23 : v1 = (4 : Int32)
  · have h24 := pp_t c23 h22
    clear h22
    refine lv_tableIn (off := 87) (tgt := 88) hx hb dX10_count_1 (by rw [c23]; decide) (by rw [c23]; decide) (by rw [c23]; decide) (by decide) ?_
    refine lv_aload_n hx hb dX10_count_88 rfl (lv_at hl 0 rfl) ?_
    refine cc_get (mo_main g) X G (x := q) rfl hin10 1 (by decide) hf19 (v := .ref (cc_ad g (10 + 20 * 0))) rfl dX10_count_89 ?_
    refine lv_iconst (v := 0) hx hb dX10_count_92 (by decide) ?_
    obtain ⟨r26, hc26, h27⟩ := pp_ob_ex h24
    clear h24
    refine cc_cali (q2 := q) (cc_pgC q 0) (cc_pgC q 0) (mo_crt g (c := 0) (by decide)) X G (x := q) rfl (ctX1_lyingCount l g pls q (k := 0) (by decide) (cc_gC q 0) _ hc26) (cwV 1 hts gX10_count_X1_lyingCount rfl rfl rfl (by decide +kernel) ⟨Nat.le_of_ble_eq_true rfl, Nat.le_of_ble_eq_true rfl⟩) (rest := []) rfl hl.1 rfl (Nat.le_of_ble_eq_true rfl) dX10_count_93 (fun H locs G => ?_)
    exact cc_iret X hr hlk rfl G (Option.some.inj h27) rfl hQ dX10_count_96
  have h25 := pp_f c23 h22
  clear h22
  by_cases c28 : v1 = (5 : Int32)
  · have h29 := pp_t c28 h25
    clear h25
    refine lv_tableIn (off := 96) (tgt := 97) hx hb dX10_count_1 (by rw [c28]; decide) (by rw [c28]; decide) (by rw [c28]; decide) (by decide) ?_
    refine lv_aload_n hx hb dX10_count_97 rfl (lv_at hl 0 rfl) ?_
    refine cc_get (mo_main g) X G (x := q) rfl hin10 1 (by decide) hf19 (v := .ref (cc_ad g (10 + 20 * 0))) rfl dX10_count_98 ?_
    refine lv_iconst (v := 1) hx hb dX10_count_101 (by decide) ?_
    obtain ⟨r31, hc31, h32⟩ := pp_ob_ex h29
    clear h29
    refine cc_cali (q2 := q) (cc_pgC q 0) (cc_pgC q 0) (mo_crt g (c := 0) (by decide)) X G (x := q) rfl (ctX1_lyingCount l g pls q (k := 0) (by decide) (cc_gC q 0) _ hc31) (cwV 1 hts gX10_count_X1_lyingCount rfl rfl rfl (by decide +kernel) ⟨Nat.le_of_ble_eq_true rfl, Nat.le_of_ble_eq_true rfl⟩) (rest := []) rfl hl.1 rfl (Nat.le_of_ble_eq_true rfl) dX10_count_102 (fun H locs G => ?_)
    exact cc_iret X hr hlk rfl G (Option.some.inj h32) rfl hQ dX10_count_105
  have h30 := pp_f c28 h25
  clear h25
  by_cases c33 : v1 = (6 : Int32)
  · have h34 := pp_t c33 h30
    clear h30
    refine lv_tableIn (off := 105) (tgt := 106) hx hb dX10_count_1 (by rw [c33]; decide) (by rw [c33]; decide) (by rw [c33]; decide) (by decide) ?_
    refine lv_aload_n hx hb dX10_count_106 rfl (lv_at hl 0 rfl) ?_
    refine cc_get (mo_main g) X G (x := q) rfl hin10 7 (by decide) hf193 (v := .int (q.1.1 7)) rfl dX10_count_107 ?_
    exact cc_iret X hr hlk rfl G (Option.some.inj h34) rfl hQ dX10_count_110
  have h35 := pp_f c33 h30
  clear h30
  by_cases c36 : v1 = (7 : Int32)
  · have h37 := pp_t c36 h35
    clear h35
    refine lv_tableIn (off := 110) (tgt := 111) hx hb dX10_count_1 (by rw [c36]; decide) (by rw [c36]; decide) (by rw [c36]; decide) (by decide) ?_
    refine lv_aload_n hx hb dX10_count_111 rfl (lv_at hl 0 rfl) ?_
    refine cc_get (mo_main g) X G (x := q) rfl hin10 0 (by decide) hf10 (v := .ref (cc_ad g 1)) rfl dX10_count_112 ?_
    refine cc_getN (mo_text g) X G (x := q) rfl hin7 1 (by decide) (by decide +kernel) (v := .int ((cc_gT q).1 1)) rfl dX10_count_115 ?_
    exact cc_iret X hr hlk rfl G (Option.some.inj h37) rfl hQ dX10_count_118
  have h38 := pp_f c36 h35
  clear h35
  refine lv_tableOut (tgt := 119) hx hb dX10_count_1 (by have n0 := lv_neT c1 (a := 0) (by decide); have n1 := lv_neT c4 (a := 1) (by decide); have n2 := lv_neT c12 (a := 2) (by decide); have n3 := lv_neT c20 (a := 3) (by decide); have n4 := lv_neT c23 (a := 4) (by decide); have n5 := lv_neT c28 (a := 5) (by decide); have n6 := lv_neT c33 (a := 6) (by decide); have n7 := lv_neT c36 (a := 7) (by decide); omega) (by decide) ?_
  refine lv_aload_n hx hb dX10_count_119 rfl (lv_at hl 0 rfl) ?_
  refine lv_iload_n hx hb dX10_count_120 rfl (lv_at hl 1 rfl) ?_
  refine lv_bipush (v := 10) hx hb dX10_count_121 (by decide) ?_
  refine lv_isub hx hb dX10_count_123 ?_
  obtain ⟨r39, hc39, h40⟩ := pp_ob_ex h38
  clear h38
  refine cc_cali (q2 := q) rfl rfl (mo_main g) X G (x := q) rfl (ctX10_refusalCount l g pls q _ hc39) (cwV 1 hts gX10_count_X10_refusalCount rfl rfl rfl (by decide +kernel) ⟨Nat.le_of_ble_eq_true rfl, Nat.le_of_ble_eq_true rfl⟩) (rest := []) rfl hl.1 rfl (Nat.le_of_ble_eq_true rfl) dX10_count_124 (fun H locs G => ?_)
  exact cc_iret X hr hlk rfl G (Option.some.inj h40) rfl hQ dX10_count_127
