noncomputable def R_no (q : rr_S) (v1 : Int32) : Option (Int32 × rr_S) := pp_ix (-v1) 7 (pp_lj (rr_A q 0 (Int32.toNatClampNeg (-v1)) ((q.2.1 0 (Int32.toNatClampNeg (-v1))) + (1 : Int32)) : rr_S) (fun x3 => some (v1, x3)))
abbrev rmX11_no : Room := { frames := 0, cells := 0, slots := 0, locals := 0 }
set_option maxHeartbeats 4000000 in
set_option maxRecDepth 100000 in
theorem ctX11_no (l : Launch) (g : rr_G) (q : rr_S) (v1 : Int32) {res : (Int32 × rr_S)} (h : R_no q v1 = some res) : rr_Mi l yX11_no wsX11_no rmX11_no g q [.int v1] res := by
  intro sz
  unfold R_no at h
  refine rr_ofW (by decide) rfl rfl (fun _ z => List.mem_cons_of_mem _ (List.mem_append_right _ z)) (Nat.le_of_ble_eq_true rfl) ?_
  intro p e s m args below meth c ls X hr hlk hsz G hl Q hQ
  subst hsz
  have hx := X.1.1
  have hb := X.1.2.1
  have hown := X.1.2.2.2.1
  have hts := X.1.2.2.2.2
  refine (fun (key : ∀ (H : Heap) (locs : List Loc), rr_H g q s H locs → W p l e (headSpec wsX11_no rmX11_no).room s m args below meth c H locs 0 0 Q (F0 m 0 ls [])) => key _ _ G) ?_
  clear G
  intro H locs G
  have hl : lv_has ls 2 [(0, .ref (g.2.2.2 28)), (1, .int v1)] := hl
  have hf7 : Cond.fieldLink RX11 7 (TX11 0).1 (TX11 0).2.1 (TX11 0).2.2.1 ∈ wsX11_no := by decide +kernel
  refine lv_aload_n hx hb dX11_no_0 rfl (lv_at hl 0 rfl) ?_
  refine rr_get X G 0 (by decide) hf7 (v := .ref (g.2.2.2 0)) rfl dX11_no_1 ?_
  refine lv_iload_n hx hb dX11_no_4 rfl (lv_at hl 1 rfl) ?_
  refine lv_ineg hx hb dX11_no_5 ?_
  refine lv_dup2_11 hx hb dX11_no_6 rfl rfl ?_
  obtain ⟨hi1, h2⟩ := pp_ix_ex h
  clear h
  refine rr_iald X G ra_0 hi1 dX11_no_7 ?_
  refine lv_iconst (v := 1) hx hb dX11_no_8 (by decide) ?_
  refine lv_iadd hx hb dX11_no_9 ?_
  obtain ⟨x3, ex3, h4⟩ := pp_lj_ex h2
  clear h2
  refine rr_iast X G ra_0 hi1 ex3 dX11_no_10 (fun H locs G => ?_)
  refine lv_iload_n hx hb dX11_no_11 rfl (lv_at hl 1 rfl) ?_
  exact rr_iret X hr hlk rfl G h4 hQ dX11_no_12
noncomputable def R_lower (q : rr_S) (v1 : Int32) : Option (Int32 × rr_S) := pp_ix (-v1) 7 (pp_lj (rr_A q 0 (Int32.toNatClampNeg (-v1)) ((q.2.1 0 (Int32.toNatClampNeg (-v1))) + (1 : Int32)) : rr_S) (fun x3 => some (((1000000000 : Int32) - v1), x3)))
abbrev rmX11_lower : Room := { frames := 0, cells := 0, slots := 0, locals := 0 }
set_option maxHeartbeats 4000000 in
set_option maxRecDepth 100000 in
theorem ctX11_lower (l : Launch) (g : rr_G) (q : rr_S) (v1 : Int32) {res : (Int32 × rr_S)} (h : R_lower q v1 = some res) : rr_Mi l yX11_lower wsX11_lower rmX11_lower g q [.int v1] res := by
  intro sz
  unfold R_lower at h
  refine rr_ofW (by decide) rfl rfl (fun _ z => List.mem_cons_of_mem _ (List.mem_append_right _ z)) (Nat.le_of_ble_eq_true rfl) ?_
  intro p e s m args below meth c ls X hr hlk hsz G hl Q hQ
  subst hsz
  have hx := X.1.1
  have hb := X.1.2.1
  have hown := X.1.2.2.2.1
  have hts := X.1.2.2.2.2
  refine (fun (key : ∀ (H : Heap) (locs : List Loc), rr_H g q s H locs → W p l e (headSpec wsX11_lower rmX11_lower).room s m args below meth c H locs 0 0 Q (F0 m 0 ls [])) => key _ _ G) ?_
  clear G
  intro H locs G
  have hl : lv_has ls 2 [(0, .ref (g.2.2.2 28)), (1, .int v1)] := hl
  have hf7 : Cond.fieldLink RX11 7 (TX11 0).1 (TX11 0).2.1 (TX11 0).2.2.1 ∈ wsX11_lower := by decide +kernel
  refine lv_aload_n hx hb dX11_lower_0 rfl (lv_at hl 0 rfl) ?_
  refine rr_get X G 0 (by decide) hf7 (v := .ref (g.2.2.2 0)) rfl dX11_lower_1 ?_
  refine lv_iload_n hx hb dX11_lower_4 rfl (lv_at hl 1 rfl) ?_
  refine lv_ineg hx hb dX11_lower_5 ?_
  refine lv_dup2_11 hx hb dX11_lower_6 rfl rfl ?_
  obtain ⟨hi1, h2⟩ := pp_ix_ex h
  clear h
  refine rr_iald X G ra_0 hi1 dX11_lower_7 ?_
  refine lv_iconst (v := 1) hx hb dX11_lower_8 (by decide) ?_
  refine lv_iadd hx hb dX11_lower_9 ?_
  obtain ⟨x3, ex3, h4⟩ := pp_lj_ex h2
  clear h2
  refine rr_iast X G ra_0 hi1 ex3 dX11_lower_10 (fun H locs G => ?_)
  refine lv_ldc (v := 1000000000) hx hb hown (hts (.constant RX11 62 (1000000000)) (by decide +kernel)) dX11_lower_11 ?_
  refine lv_iload_n hx hb dX11_lower_13 rfl (lv_at hl 1 rfl) ?_
  refine lv_isub hx hb dX11_lower_14 ?_
  exact rr_iret X hr hlk rfl G h4 hQ dX11_lower_15
noncomputable def R_lowest (q : rr_S) (v1 : Int32) : Option (Int64 × rr_S) := pp_ix (-v1) 7 (pp_lj (rr_A q 0 (Int32.toNatClampNeg (-v1)) ((q.2.1 0 (Int32.toNatClampNeg (-v1))) + (1 : Int32)) : rr_S) (fun x3 => some (((4000000000000000000 : Int64) - (Int32.toInt64 v1)), x3)))
abbrev rmX11_lowest : Room := { frames := 0, cells := 0, slots := 0, locals := 0 }
set_option maxHeartbeats 4000000 in
set_option maxRecDepth 100000 in
theorem ctX11_lowest (l : Launch) (g : rr_G) (q : rr_S) (v1 : Int32) {res : (Int64 × rr_S)} (h : R_lowest q v1 = some res) : rr_Ml l yX11_lowest wsX11_lowest rmX11_lowest g q [.int v1] res := by
  intro sz
  unfold R_lowest at h
  refine rr_ofW (by decide) rfl rfl (fun _ z => List.mem_cons_of_mem _ (List.mem_append_right _ z)) (Nat.le_of_ble_eq_true rfl) ?_
  intro p e s m args below meth c ls X hr hlk hsz G hl Q hQ
  subst hsz
  have hx := X.1.1
  have hb := X.1.2.1
  have hown := X.1.2.2.2.1
  have hts := X.1.2.2.2.2
  refine (fun (key : ∀ (H : Heap) (locs : List Loc), rr_H g q s H locs → W p l e (headSpec wsX11_lowest rmX11_lowest).room s m args below meth c H locs 0 0 Q (F0 m 0 ls [])) => key _ _ G) ?_
  clear G
  intro H locs G
  have hl : lv_has ls 2 [(0, .ref (g.2.2.2 28)), (1, .int v1)] := hl
  have hf7 : Cond.fieldLink RX11 7 (TX11 0).1 (TX11 0).2.1 (TX11 0).2.2.1 ∈ wsX11_lowest := by decide +kernel
  refine lv_aload_n hx hb dX11_lowest_0 rfl (lv_at hl 0 rfl) ?_
  refine rr_get X G 0 (by decide) hf7 (v := .ref (g.2.2.2 0)) rfl dX11_lowest_1 ?_
  refine lv_iload_n hx hb dX11_lowest_4 rfl (lv_at hl 1 rfl) ?_
  refine lv_ineg hx hb dX11_lowest_5 ?_
  refine lv_dup2_11 hx hb dX11_lowest_6 rfl rfl ?_
  obtain ⟨hi1, h2⟩ := pp_ix_ex h
  clear h
  refine rr_iald X G ra_0 hi1 dX11_lowest_7 ?_
  refine lv_iconst (v := 1) hx hb dX11_lowest_8 (by decide) ?_
  refine lv_iadd hx hb dX11_lowest_9 ?_
  obtain ⟨x3, ex3, h4⟩ := pp_lj_ex h2
  clear h2
  refine rr_iast X G ra_0 hi1 ex3 dX11_lowest_10 (fun H locs G => ?_)
  refine lv_ldc2 (v := 4000000000000000000) hx hb hown (hts (.constantLong RX11 63 (4000000000000000000)) (by decide +kernel)) dX11_lowest_11 ?_
  refine lv_iload_n hx hb dX11_lowest_14 rfl (lv_at hl 1 rfl) ?_
  refine lv_i2l hx hb dX11_lowest_15 rfl ?_
  refine lv_lsub hx hb dX11_lowest_16 ?_
  exact rr_lret X hr hlk G h4 hQ dX11_lowest_17
noncomputable def R_isIn (v0 : Int32) (v1 : Int32) (v2 : Int32) : Option Int32 := pp_lj (fun (a1 : Unit) => (some (0 : Int32) : Option Int32)) (fun j1 => (if v0 < v1 then j1 () else (if v2 < v0 then j1 () else some (1 : Int32))))
abbrev rmX11_isIn : Room := { frames := 0, cells := 0, slots := 0, locals := 0 }
set_option maxHeartbeats 4000000 in
set_option maxRecDepth 100000 in
theorem ctX11_isIn (l : Launch) (v0 : Int32) (v1 : Int32) (v2 : Int32) {res : Int32} (h : R_isIn v0 v1 v2 = some res) : xs_Mi l yX11_isIn wsX11_isIn rmX11_isIn [.int v0, .int v1, .int v2] res := by
  intro sz
  unfold R_isIn at h
  refine xs_ofW (own := RX11) (by decide) rfl rfl (Nat.le_of_ble_eq_true rfl) ?_
  intro p e s m args below meth c ls X hr hlk hl Q hQ
  have hx := X.1
  have hb := X.2.1
  have hown := X.2.2.2.1
  have hts := X.2.2.2.2
  have hl : lv_has ls 3 [(0, .int v0), (1, .int v1), (2, .int v2)] := hl
  refine lv_iload_n hx hb dX11_isIn_0 rfl (lv_at hl 0 rfl) ?_
  refine lv_iload_n hx hb dX11_isIn_1 rfl (lv_at hl 1 rfl) ?_
  obtain ⟨j1, ej1, h2⟩ := pp_lj_ex h
  clear h
  have hj1 : ∀ (a1 : Unit) (ls : Array Slot), j1 a1 = some res → lv_has ls 3 [] → W p l e (headSpec wsX11_isIn rmX11_isIn).room s m args below meth c s.heap [] 0 0 Q (F0 m 14 ls []) := by
    intro a1 ls h hl
    have h3 := pp_jmp ej1 h
    clear h h2
    refine lv_iconst (v := 0) hx hb dX11_isIn_14 (by decide) ?_
    exact xs_iret hx hb hr hlk rfl h3 hQ dX11_isIn_15
  refine lv_icmp_lt (tgt := 14) hx hb dX11_isIn_2 (by decide) (fun c4 => ?_) (fun c4 => ?_)
  · have h5 := pp_t c4 h2
    clear h2
    exact hj1 _ ls h5 (lv_sub hl [] rfl)
  · have h6 := pp_f c4 h2
    clear h2
    refine lv_iload_n hx hb dX11_isIn_5 rfl (lv_at hl 0 rfl) ?_
    refine lv_iload_n hx hb dX11_isIn_6 rfl (lv_at hl 2 rfl) ?_
    refine lv_icmp_gt (tgt := 14) hx hb dX11_isIn_7 (by decide) (fun c7 => ?_) (fun c7 => ?_)
    · have h8 := pp_t c7 h6
      clear h6
      exact hj1 _ ls h8 (lv_sub hl [] rfl)
    · have h9 := pp_f c7 h6
      clear h6
      refine lv_iconst (v := 1) hx hb dX11_isIn_10 (by decide) ?_
      refine lv_goto (tgt := 15) hx hb dX11_isIn_11 (by decide) ?_
      exact xs_iret hx hb hr hlk rfl h9 hQ dX11_isIn_15
noncomputable def R_bound (v0 : Int32) (v1 : Int32) (v2 : Int32) : Option Int32 := (if v1 ≤ v0 then (if v0 ≤ v2 then some (0 : Int32) else some (-6 : Int32)) else some (-4 : Int32))
abbrev rmX11_bound : Room := { frames := 0, cells := 0, slots := 0, locals := 0 }
set_option maxHeartbeats 4000000 in
set_option maxRecDepth 100000 in
theorem ctX11_bound (l : Launch) (v0 : Int32) (v1 : Int32) (v2 : Int32) {res : Int32} (h : R_bound v0 v1 v2 = some res) : xs_Mi l yX11_bound wsX11_bound rmX11_bound [.int v0, .int v1, .int v2] res := by
  intro sz
  unfold R_bound at h
  refine xs_ofW (own := RX11) (by decide) rfl rfl (Nat.le_of_ble_eq_true rfl) ?_
  intro p e s m args below meth c ls X hr hlk hl Q hQ
  have hx := X.1
  have hb := X.2.1
  have hown := X.2.2.2.1
  have hts := X.2.2.2.2
  have hl : lv_has ls 3 [(0, .int v0), (1, .int v1), (2, .int v2)] := hl
  refine lv_iload_n hx hb dX11_bound_0 rfl (lv_at hl 0 rfl) ?_
  refine lv_iload_n hx hb dX11_bound_1 rfl (lv_at hl 1 rfl) ?_
  refine lv_icmp_ge (tgt := 10) hx hb dX11_bound_2 (by decide) (fun c1 => ?_) (fun c1 => ?_)
  · have h2 := pp_t c1 h
    clear h
    refine lv_iload_n hx hb dX11_bound_10 rfl (lv_at hl 0 rfl) ?_
    refine lv_iload_n hx hb dX11_bound_11 rfl (lv_at hl 2 rfl) ?_
    refine lv_icmp_le (tgt := 20) hx hb dX11_bound_12 (by decide) (fun c3 => ?_) (fun c3 => ?_)
    · have h4 := pp_t c3 h2
      clear h2
      refine lv_iconst (v := 0) hx hb dX11_bound_20 (by decide) ?_
      exact xs_iret hx hb hr hlk rfl h4 hQ dX11_bound_21
    · have h5 := pp_f c3 h2
      clear h2
      refine lv_bipush (v := -6) hx hb dX11_bound_15 (by decide) ?_
      refine lv_goto (tgt := 21) hx hb dX11_bound_17 (by decide) ?_
      exact xs_iret hx hb hr hlk rfl h5 hQ dX11_bound_21
  · have h6 := pp_f c1 h
    clear h
    refine lv_bipush (v := -4) hx hb dX11_bound_5 (by decide) ?_
    refine lv_goto (tgt := 21) hx hb dX11_bound_7 (by decide) ?_
    exact xs_iret hx hb hr hlk rfl h6 hQ dX11_bound_21
noncomputable def R_clamped (v0 : Int32) (v1 : Int32) (v2 : Int32) : Option Int32 := (if v1 ≤ v0 then (if v0 ≤ v2 then some v0 else some v2) else some v1)
abbrev rmX11_clamped : Room := { frames := 0, cells := 0, slots := 0, locals := 0 }
set_option maxHeartbeats 4000000 in
set_option maxRecDepth 100000 in
theorem ctX11_clamped (l : Launch) (v0 : Int32) (v1 : Int32) (v2 : Int32) {res : Int32} (h : R_clamped v0 v1 v2 = some res) : xs_Mi l yX11_clamped wsX11_clamped rmX11_clamped [.int v0, .int v1, .int v2] res := by
  intro sz
  unfold R_clamped at h
  refine xs_ofW (own := RX11) (by decide) rfl rfl (Nat.le_of_ble_eq_true rfl) ?_
  intro p e s m args below meth c ls X hr hlk hl Q hQ
  have hx := X.1
  have hb := X.2.1
  have hown := X.2.2.2.1
  have hts := X.2.2.2.2
  have hl : lv_has ls 3 [(0, .int v0), (1, .int v1), (2, .int v2)] := hl
  refine lv_iload_n hx hb dX11_clamped_0 rfl (lv_at hl 0 rfl) ?_
  refine lv_iload_n hx hb dX11_clamped_1 rfl (lv_at hl 1 rfl) ?_
  refine lv_icmp_ge (tgt := 9) hx hb dX11_clamped_2 (by decide) (fun c1 => ?_) (fun c1 => ?_)
  · have h2 := pp_t c1 h
    clear h
    refine lv_iload_n hx hb dX11_clamped_9 rfl (lv_at hl 0 rfl) ?_
    refine lv_iload_n hx hb dX11_clamped_10 rfl (lv_at hl 2 rfl) ?_
    refine lv_icmp_le (tgt := 18) hx hb dX11_clamped_11 (by decide) (fun c3 => ?_) (fun c3 => ?_)
    · have h4 := pp_t c3 h2
      clear h2
      refine lv_iload_n hx hb dX11_clamped_18 rfl (lv_at hl 0 rfl) ?_
      exact xs_iret hx hb hr hlk rfl h4 hQ dX11_clamped_19
    · have h5 := pp_f c3 h2
      clear h2
      refine lv_iload_n hx hb dX11_clamped_14 rfl (lv_at hl 2 rfl) ?_
      refine lv_goto (tgt := 19) hx hb dX11_clamped_15 (by decide) ?_
      exact xs_iret hx hb hr hlk rfl h5 hQ dX11_clamped_19
  · have h6 := pp_f c1 h
    clear h
    refine lv_iload_n hx hb dX11_clamped_5 rfl (lv_at hl 1 rfl) ?_
    refine lv_goto (tgt := 19) hx hb dX11_clamped_6 (by decide) ?_
    exact xs_iret hx hb hr hlk rfl h6 hQ dX11_clamped_19
noncomputable def R_isPlayer (q : rr_S) (v1 : Int32) : Option Int32 := pp_lj (fun (a1 : Unit) => (some (0 : Int32) : Option Int32)) (fun j1 => (if v1 < (0 : Int32) then j1 () else (if (q.1 9) ≤ v1 then j1 () else some (1 : Int32))))
abbrev rmX11_isPlayer : Room := { frames := 0, cells := 0, slots := 0, locals := 0 }
set_option maxHeartbeats 4000000 in
set_option maxRecDepth 100000 in
theorem ctX11_isPlayer (l : Launch) (g : rr_G) (q : rr_S) (v1 : Int32) {res : Int32} (h : R_isPlayer q v1 = some res) : rr_Mi l yX11_isPlayer wsX11_isPlayer rmX11_isPlayer g q [.int v1] (res, q) := by
  intro sz
  unfold R_isPlayer at h
  refine rr_ofW (by decide) rfl rfl (fun _ z => List.mem_cons_of_mem _ (List.mem_append_right _ z)) (Nat.le_of_ble_eq_true rfl) ?_
  intro p e s m args below meth c ls X hr hlk hsz G hl Q hQ
  subst hsz
  have hx := X.1.1
  have hb := X.1.2.1
  have hown := X.1.2.2.2.1
  have hts := X.1.2.2.2.2
  refine (fun (key : ∀ (H : Heap) (locs : List Loc), rr_H g q s H locs → W p l e (headSpec wsX11_isPlayer rmX11_isPlayer).room s m args below meth c H locs 0 0 Q (F0 m 0 ls [])) => key _ _ G) ?_
  clear G
  intro H locs G
  have hl : lv_has ls 2 [(0, .ref (g.2.2.2 28)), (1, .int v1)] := hl
  have hf65 : Cond.fieldLink RX11 65 (TX11 9).1 (TX11 9).2.1 (TX11 9).2.2.1 ∈ wsX11_isPlayer := by decide +kernel
  refine lv_iload_n hx hb dX11_isPlayer_0 rfl (lv_at hl 1 rfl) ?_
  obtain ⟨j1, ej1, h2⟩ := pp_lj_ex h
  clear h
  have hj1 : ∀ (a1 : Unit) (H : Heap) (locs : List Loc) (ls : Array Slot), j1 a1 = some res → rr_H g q s H locs → lv_has ls 2 [] → W p l e (headSpec wsX11_isPlayer rmX11_isPlayer).room s m args below meth c H locs 0 0 Q (F0 m 16 ls []) := by
    intro a1 H locs ls h G hl
    have h3 := pp_jmp ej1 h
    clear h h2
    refine lv_iconst (v := 0) hx hb dX11_isPlayer_16 (by decide) ?_
    exact rr_iretR X hr hlk rfl G h3 hQ dX11_isPlayer_17
  refine lv_if_lt (tgt := 16) hx hb dX11_isPlayer_1 (by decide) (fun c4 => ?_) (fun c4 => ?_)
  · have h5 := pp_t c4 h2
    clear h2
    exact hj1 _ H locs ls h5 G (lv_sub hl [] rfl)
  · have h6 := pp_f c4 h2
    clear h2
    refine lv_iload_n hx hb dX11_isPlayer_4 rfl (lv_at hl 1 rfl) ?_
    refine lv_aload_n hx hb dX11_isPlayer_5 rfl (lv_at hl 0 rfl) ?_
    refine rr_get X G 9 (by decide) hf65 (v := .int (q.1 9)) rfl dX11_isPlayer_6 ?_
    refine lv_icmp_ge (tgt := 16) hx hb dX11_isPlayer_9 (by decide) (fun c7 => ?_) (fun c7 => ?_)
    · have h8 := pp_t c7 h6
      clear h6
      exact hj1 _ H locs ls h8 G (lv_sub hl [] rfl)
    · have h9 := pp_f c7 h6
      clear h6
      refine lv_iconst (v := 1) hx hb dX11_isPlayer_12 (by decide) ?_
      refine lv_goto (tgt := 17) hx hb dX11_isPlayer_13 (by decide) ?_
      exact rr_iretR X hr hlk rfl G h9 hQ dX11_isPlayer_17
noncomputable def R_isHere (q : rr_S) (v1 : Int32) : Option Int32 := pp_ob (R_isPlayer q v1) (fun r1 => pp_lj (fun (a3 : Unit) => (some (0 : Int32) : Option Int32)) (fun j3 => (if r1 = (0 : Int32) then j3 () else pp_ix v1 8 ((if (q.2.1 5 (Int32.toNatClampNeg v1)) = (0 : Int32) then some (1 : Int32) else j3 ())))))
abbrev rmX11_isHere : Room := { frames := 1, cells := 0, slots := 0, locals := 21 }
set_option maxHeartbeats 4000000 in
set_option maxRecDepth 100000 in
theorem ctX11_isHere (l : Launch) (g : rr_G) (q : rr_S) (v1 : Int32) {res : Int32} (h : R_isHere q v1 = some res) : rr_Mi l yX11_isHere wsX11_isHere rmX11_isHere g q [.int v1] (res, q) := by
  intro sz
  unfold R_isHere at h
  refine rr_ofW (by decide) rfl rfl (fun _ z => List.mem_cons_of_mem _ (List.mem_append_right _ z)) (Nat.le_of_ble_eq_true rfl) ?_
  intro p e s m args below meth c ls X hr hlk hsz G hl Q hQ
  subst hsz
  have hx := X.1.1
  have hb := X.1.2.1
  have hown := X.1.2.2.2.1
  have hts := X.1.2.2.2.2
  refine (fun (key : ∀ (H : Heap) (locs : List Loc), rr_H g q s H locs → W p l e (headSpec wsX11_isHere rmX11_isHere).room s m args below meth c H locs 0 0 Q (F0 m 0 ls [])) => key _ _ G) ?_
  clear G
  intro H locs G
  have hl : lv_has ls 2 [(0, .ref (g.2.2.2 28)), (1, .int v1)] := hl
  have hf25 : Cond.fieldLink RX11 25 (TX11 5).1 (TX11 5).2.1 (TX11 5).2.2.1 ∈ wsX11_isHere := by decide +kernel
  refine lv_aload_n hx hb dX11_isHere_0 rfl (lv_at hl 0 rfl) ?_
  refine lv_iload_n hx hb dX11_isHere_1 rfl (lv_at hl 1 rfl) ?_
  obtain ⟨r1, hc1, h2⟩ := pp_ob_ex h
  clear h
  refine rr_cali X G (ctX11_isPlayer l g _ _ hc1) (cwV 1 hts gX11_isHere_X11_isPlayer rfl rfl rfl (by decide +kernel) ⟨Nat.le_of_ble_eq_true rfl, Nat.le_of_ble_eq_true rfl⟩) (rest := []) rfl hl.1 rfl (Nat.le_of_ble_eq_true rfl) dX11_isHere_2 (fun H locs G => ?_)
  obtain ⟨j3, ej3, h4⟩ := pp_lj_ex h2
  clear h2
  have hj3 : ∀ (a3 : Unit) (H : Heap) (locs : List Loc) (ls : Array Slot), j3 a3 = some res → rr_H g q s H locs → lv_has ls 2 [] → W p l e (headSpec wsX11_isHere rmX11_isHere).room s m args below meth c H locs 0 0 Q (F0 m 21 ls []) := by
    intro a3 H locs ls h G hl
    have h5 := pp_jmp ej3 h
    clear h h4
    refine lv_iconst (v := 0) hx hb dX11_isHere_21 (by decide) ?_
    exact rr_iretR X hr hlk rfl G h5 hQ dX11_isHere_22
  refine lv_if_eq (tgt := 21) hx hb dX11_isHere_5 (by decide) (fun c6 => ?_) (fun c6 => ?_)
  · have h7 := pp_t c6 h4
    clear h4
    exact hj3 _ H locs ls h7 G (lv_sub hl [] rfl)
  · have h8 := pp_f c6 h4
    clear h4
    refine lv_aload_n hx hb dX11_isHere_8 rfl (lv_at hl 0 rfl) ?_
    refine rr_get X G 5 (by decide) hf25 (v := .ref (g.2.2.2 5)) rfl dX11_isHere_9 ?_
    refine lv_iload_n hx hb dX11_isHere_12 rfl (lv_at hl 1 rfl) ?_
    obtain ⟨hi9, h10⟩ := pp_ix_ex h8
    clear h8
    refine rr_iald X G ra_5 hi9 dX11_isHere_13 ?_
    refine lv_if_ne (tgt := 21) hx hb dX11_isHere_14 (by decide) (fun c11 => ?_) (fun c11 => ?_)
    · have h12 := pp_f c11 h10
      clear h10
      exact hj3 _ H locs ls h12 G (lv_sub hl [] rfl)
    · have h13 := pp_t c11 h10
      clear h10
      refine lv_iconst (v := 1) hx hb dX11_isHere_17 (by decide) ?_
      refine lv_goto (tgt := 22) hx hb dX11_isHere_18 (by decide) ?_
      exact rr_iretR X hr hlk rfl G h13 hQ dX11_isHere_22
noncomputable def R_isBall (v0 : Int32) : Option Int32 := pp_lj (fun (a1 : Unit) => (some (0 : Int32) : Option Int32)) (fun j1 => (if v0 < (0 : Int32) then j1 () else (if (6 : Int32) ≤ v0 then j1 () else some (1 : Int32))))
abbrev rmX11_isBall : Room := { frames := 0, cells := 0, slots := 0, locals := 0 }
set_option maxHeartbeats 4000000 in
set_option maxRecDepth 100000 in
theorem ctX11_isBall (l : Launch) (v0 : Int32) {res : Int32} (h : R_isBall v0 = some res) : xs_Mi l yX11_isBall wsX11_isBall rmX11_isBall [.int v0] res := by
  intro sz
  unfold R_isBall at h
  refine xs_ofW (own := RX11) (by decide) rfl rfl (Nat.le_of_ble_eq_true rfl) ?_
  intro p e s m args below meth c ls X hr hlk hl Q hQ
  have hx := X.1
  have hb := X.2.1
  have hown := X.2.2.2.1
  have hts := X.2.2.2.2
  have hl : lv_has ls 1 [(0, .int v0)] := hl
  refine lv_iload_n hx hb dX11_isBall_0 rfl (lv_at hl 0 rfl) ?_
  obtain ⟨j1, ej1, h2⟩ := pp_lj_ex h
  clear h
  have hj1 : ∀ (a1 : Unit) (ls : Array Slot), j1 a1 = some res → lv_has ls 1 [] → W p l e (headSpec wsX11_isBall rmX11_isBall).room s m args below meth c s.heap [] 0 0 Q (F0 m 14 ls []) := by
    intro a1 ls h hl
    have h3 := pp_jmp ej1 h
    clear h h2
    refine lv_iconst (v := 0) hx hb dX11_isBall_14 (by decide) ?_
    exact xs_iret hx hb hr hlk rfl h3 hQ dX11_isBall_15
  refine lv_if_lt (tgt := 14) hx hb dX11_isBall_1 (by decide) (fun c4 => ?_) (fun c4 => ?_)
  · have h5 := pp_t c4 h2
    clear h2
    exact hj1 _ ls h5 (lv_sub hl [] rfl)
  · have h6 := pp_f c4 h2
    clear h2
    refine lv_iload_n hx hb dX11_isBall_4 rfl (lv_at hl 0 rfl) ?_
    refine lv_bipush (v := 6) hx hb dX11_isBall_5 (by decide) ?_
    refine lv_icmp_ge (tgt := 14) hx hb dX11_isBall_7 (by decide) (fun c7 => ?_) (fun c7 => ?_)
    · have h8 := pp_t c7 h6
      clear h6
      exact hj1 _ ls h8 (lv_sub hl [] rfl)
    · have h9 := pp_f c7 h6
      clear h6
      refine lv_iconst (v := 1) hx hb dX11_isBall_10 (by decide) ?_
      refine lv_goto (tgt := 15) hx hb dX11_isBall_11 (by decide) ?_
      exact xs_iret hx hb hr hlk rfl h9 hQ dX11_isBall_15
noncomputable def R_holds (q : rr_S) (v1 : Int32) : Option Int32 := pp_it (fun (self1 : Int32 × Int32 → Option Int32) (a1 : Int32 × Int32) => (if (6 : Int32) ≤ a1.2 then some a1.1 else pp_ix a1.2 6 (pp_lj (fun (a7 : Int32) => (pp_lj ((a1.1 ||| a7) : Int32) (fun x10 => pp_lj (a1.2 + 1 : Int32) (fun x12 => self1 (x10, x12))) : Option Int32)) (fun j7 => (if (q.2.1 6 (Int32.toNatClampNeg a1.2)) = v1 then j7 ((1 : Int32) <<< (a1.2 &&& 31)) else j7 (0 : Int32)))))) 200 ((0 : Int32), (0 : Int32))
abbrev rmX11_holds : Room := { frames := 0, cells := 0, slots := 0, locals := 0 }
set_option maxHeartbeats 4000000 in
set_option maxRecDepth 100000 in
theorem ctX11_holds (l : Launch) (g : rr_G) (q : rr_S) (v1 : Int32) {res : Int32} (h : R_holds q v1 = some res) : rr_Mi l yX11_holds wsX11_holds rmX11_holds g q [.int v1] (res, q) := by
  intro sz
  unfold R_holds at h
  refine rr_ofW (by decide) rfl rfl (fun _ z => List.mem_cons_of_mem _ (List.mem_append_right _ z)) (Nat.le_of_ble_eq_true rfl) ?_
  intro p e s m args below meth c ls X hr hlk hsz G hl Q hQ
  subst hsz
  have hx := X.1.1
  have hb := X.1.2.1
  have hown := X.1.2.2.2.1
  have hts := X.1.2.2.2.2
  refine (fun (key : ∀ (H : Heap) (locs : List Loc), rr_H g q s H locs → W p l e (headSpec wsX11_holds rmX11_holds).room s m args below meth c H locs 0 0 Q (F0 m 0 ls [])) => key _ _ G) ?_
  clear G
  intro H locs G
  have hl : lv_has ls 4 [(0, .ref (g.2.2.2 28)), (1, .int v1)] := hl
  have hf28 : Cond.fieldLink RX11 28 (TX11 6).1 (TX11 6).2.1 (TX11 6).2.2.1 ∈ wsX11_holds := by decide +kernel
  refine lv_iconst (v := 0) hx hb dX11_holds_0 (by decide) ?_
  refine lv_istore_n (lv' := [(2, .int (0 : Int32)), (0, .ref (g.2.2.2 28)), (1, .int v1)]) hx hb dX11_holds_1 rfl hl (by decide) rfl (fun ls hl => ?_)
  refine lv_iconst (v := 0) hx hb dX11_holds_2 (by decide) ?_
  refine lv_istore_n (lv' := [(3, .int (0 : Int32)), (2, .int (0 : Int32)), (0, .ref (g.2.2.2 28)), (1, .int v1)]) hx hb dX11_holds_3 rfl hl (by decide) rfl (fun ls hl => ?_)
  refine pp_loop (I := fun (a1 : Int32 × Int32) => ∀ (H : Heap) (locs : List Loc) (ls : Array Slot), rr_H g q s H locs → lv_has ls 4 [(0, .ref (g.2.2.2 28)), (1, .int v1), (2, .int a1.1), (3, .int a1.2)] → W p l e (headSpec wsX11_holds rmX11_holds).room s m args below meth c H locs 0 0 Q (F0 m 4 ls [])) ?_ 200 _ h H locs ls G (lv_sub hl [2, 3, 1, 0] rfl)
  clear h
  intro self1 ih1 a1 h1 H locs ls G hl
  refine lv_iload_n hx hb dX11_holds_4 rfl (lv_at hl 3 rfl) ?_
  refine lv_bipush (v := 6) hx hb dX11_holds_5 (by decide) ?_
  refine lv_icmp_ge (tgt := 36) hx hb dX11_holds_7 (by decide) (fun c2 => ?_) (fun c2 => ?_)
  · have h3 := pp_t c2 h1
    clear h1
    refine lv_iload_n hx hb dX11_holds_36 rfl (lv_at hl 2 rfl) ?_
    exact rr_iretR X hr hlk rfl G h3 hQ dX11_holds_37
  · have h4 := pp_f c2 h1
    clear h1
    refine lv_iload_n hx hb dX11_holds_10 rfl (lv_at hl 2 rfl) ?_
    refine lv_aload_n hx hb dX11_holds_11 rfl (lv_at hl 0 rfl) ?_
    refine rr_get X G 6 (by decide) hf28 (v := .ref (g.2.2.2 6)) rfl dX11_holds_12 ?_
    refine lv_iload_n hx hb dX11_holds_15 rfl (lv_at hl 3 rfl) ?_
    obtain ⟨hi5, h6⟩ := pp_ix_ex h4
    clear h4
    refine rr_iald X G ra_6 hi5 dX11_holds_16 ?_
    refine lv_iload_n hx hb dX11_holds_17 rfl (lv_at hl 1 rfl) ?_
    obtain ⟨j7, ej7, h8⟩ := pp_lj_ex h6
    clear h6
    have hj7 : ∀ (a7 : Int32) (H : Heap) (locs : List Loc) (ls : Array Slot), j7 a7 = some res → rr_H g q s H locs → lv_has ls 4 [(0, .ref (g.2.2.2 28)), (1, .int v1), (3, .int a1.2)] → W p l e (headSpec wsX11_holds rmX11_holds).room s m args below meth c H locs 0 0 Q (F0 m 28 ls [.int a7, .int a1.1]) := by
      intro a7 H locs ls h G hl
      have h9 := pp_jmp ej7 h
      clear h h8
      refine lv_ior hx hb dX11_holds_28 ?_
      obtain ⟨x10, ex10, h11⟩ := pp_lj_ex h9
      clear h9
      refine lv_nmi ex10 ?_
      refine lv_istore_n (lv' := [(2, .int x10), (0, .ref (g.2.2.2 28)), (1, .int v1), (3, .int a1.2)]) hx hb dX11_holds_29 rfl hl (by decide) rfl (fun ls hl => ?_)
      obtain ⟨x12, ex12, h13⟩ := pp_lj_ex h11
      clear h11
      refine lv_iinc (v := x12) (lv' := [(3, .int x12), (2, .int x10), (0, .ref (g.2.2.2 28)), (1, .int v1)]) hx hb dX11_holds_30 hl (k := 3) rfl (by rw [ex12]; rfl) (by decide) rfl (fun ls hl => ?_)
      refine lv_goto (tgt := 4) hx hb dX11_holds_33 (by decide) ?_
      exact ih1 _ h13 H locs ls G (lv_sub hl [2, 3, 1, 0] rfl)
    refine lv_icmp_ne (tgt := 27) hx hb dX11_holds_18 (by decide) (fun c14 => ?_) (fun c14 => ?_)
    · have h15 := pp_f c14 h8
      clear h8
      refine lv_iconst (v := 0) hx hb dX11_holds_27 (by decide) ?_
      exact hj7 _ H locs ls h15 G (lv_sub hl [0, 1, 3] rfl)
    · have h16 := pp_t c14 h8
      clear h8
      refine lv_iconst (v := 1) hx hb dX11_holds_21 (by decide) ?_
      refine lv_iload_n hx hb dX11_holds_22 rfl (lv_at hl 3 rfl) ?_
      refine lv_ishl hx hb dX11_holds_23 ?_
      refine lv_goto (tgt := 28) hx hb dX11_holds_24 (by decide) ?_
      exact hj7 _ H locs ls h16 G (lv_sub hl [0, 1, 3] rfl)
noncomputable def R_bits (v0 : Int32) : Option Int32 := pp_it (fun (self1 : Int32 × Int32 → Option Int32) (a1 : Int32 × Int32) => (if (31 : Int32) ≤ a1.2 then some a1.1 else pp_lj ((a1.1 + ((v0 >>> (a1.2 &&& 31)) &&& (1 : Int32))) : Int32) (fun x5 => pp_lj (a1.2 + 1 : Int32) (fun x7 => self1 (x5, x7))))) 200 ((0 : Int32), (0 : Int32))
abbrev rmX11_bits : Room := { frames := 0, cells := 0, slots := 0, locals := 0 }
set_option maxHeartbeats 4000000 in
set_option maxRecDepth 100000 in
theorem ctX11_bits (l : Launch) (v0 : Int32) {res : Int32} (h : R_bits v0 = some res) : xs_Mi l yX11_bits wsX11_bits rmX11_bits [.int v0] res := by
  intro sz
  unfold R_bits at h
  refine xs_ofW (own := RX11) (by decide) rfl rfl (Nat.le_of_ble_eq_true rfl) ?_
  intro p e s m args below meth c ls X hr hlk hl Q hQ
  have hx := X.1
  have hb := X.2.1
  have hown := X.2.2.2.1
  have hts := X.2.2.2.2
  have hl : lv_has ls 3 [(0, .int v0)] := hl
  refine lv_iconst (v := 0) hx hb dX11_bits_0 (by decide) ?_
  refine lv_istore_n (lv' := [(1, .int (0 : Int32)), (0, .int v0)]) hx hb dX11_bits_1 rfl hl (by decide) rfl (fun ls hl => ?_)
  refine lv_iconst (v := 0) hx hb dX11_bits_2 (by decide) ?_
  refine lv_istore_n (lv' := [(2, .int (0 : Int32)), (1, .int (0 : Int32)), (0, .int v0)]) hx hb dX11_bits_3 rfl hl (by decide) rfl (fun ls hl => ?_)
  refine pp_loop (I := fun (a1 : Int32 × Int32) => ∀ (ls : Array Slot), lv_has ls 3 [(0, .int v0), (1, .int a1.1), (2, .int a1.2)] → W p l e (headSpec wsX11_bits rmX11_bits).room s m args below meth c s.heap [] 0 0 Q (F0 m 4 ls [])) ?_ 200 _ h ls (lv_sub hl [2, 1, 0] rfl)
  clear h
  intro self1 ih1 a1 h1 ls hl
  refine lv_iload_n hx hb dX11_bits_4 rfl (lv_at hl 2 rfl) ?_
  refine lv_bipush (v := 31) hx hb dX11_bits_5 (by decide) ?_
  refine lv_icmp_ge (tgt := 24) hx hb dX11_bits_7 (by decide) (fun c2 => ?_) (fun c2 => ?_)
  · have h3 := pp_t c2 h1
    clear h1
    refine lv_iload_n hx hb dX11_bits_24 rfl (lv_at hl 1 rfl) ?_
    exact xs_iret hx hb hr hlk rfl h3 hQ dX11_bits_25
  · have h4 := pp_f c2 h1
    clear h1
    refine lv_iload_n hx hb dX11_bits_10 rfl (lv_at hl 1 rfl) ?_
    refine lv_iload_n hx hb dX11_bits_11 rfl (lv_at hl 0 rfl) ?_
    refine lv_iload_n hx hb dX11_bits_12 rfl (lv_at hl 2 rfl) ?_
    refine lv_ishr hx hb dX11_bits_13 ?_
    refine lv_iconst (v := 1) hx hb dX11_bits_14 (by decide) ?_
    refine lv_iand hx hb dX11_bits_15 ?_
    refine lv_iadd hx hb dX11_bits_16 ?_
    obtain ⟨x5, ex5, h6⟩ := pp_lj_ex h4
    clear h4
    refine lv_nmi ex5 ?_
    refine lv_istore_n (lv' := [(1, .int x5), (0, .int v0), (2, .int a1.2)]) hx hb dX11_bits_17 rfl hl (by decide) rfl (fun ls hl => ?_)
    obtain ⟨x7, ex7, h8⟩ := pp_lj_ex h6
    clear h6
    refine lv_iinc (v := x7) (lv' := [(2, .int x7), (1, .int x5), (0, .int v0)]) hx hb dX11_bits_18 hl (k := 2) rfl (by rw [ex7]; rfl) (by decide) rfl (fun ls hl => ?_)
    refine lv_goto (tgt := 4) hx hb dX11_bits_21 (by decide) ?_
    exact ih1 _ h8 ls (lv_sub hl [2, 1, 0] rfl)
noncomputable def R_letter (q : rr_S) (v1 : Int32) : Option (Int32 × rr_S) := pp_ob (R_bound v1 (0 : Int32) (255 : Int32)) (fun r1 => pp_lj (fun (a3 : Int32) => ((if a3 = (0 : Int32) then pp_ix (q.1 16) 80 (pp_lj (rr_A q 12 (Int32.toNatClampNeg (q.1 16)) v1 : rr_S) (fun x10 => pp_lj (rr_I x10 16 ((x10.1 16) + (1 : Int32)) : rr_S) (fun x12 => some ((x12.1 16), x12)))) else pp_ob (R_no q a3) (fun r15 => some (r15.1, r15.2))) : Option (Int32 × rr_S))) (fun j3 => (if r1 = (0 : Int32) then (if (q.1 16) = (80 : Int32) then j3 (-6 : Int32) else j3 r1) else j3 r1)))
abbrev rmX11_letter : Room := { frames := 1, cells := 0, slots := 0, locals := 22 }
set_option maxHeartbeats 4000000 in
set_option maxRecDepth 100000 in
theorem ctX11_letter (l : Launch) (g : rr_G) (q : rr_S) (v1 : Int32) {res : (Int32 × rr_S)} (h : R_letter q v1 = some res) : rr_Mi l yX11_letter wsX11_letter rmX11_letter g q [.int v1] res := by
  intro sz
  unfold R_letter at h
  refine rr_ofW (by decide) rfl rfl (fun _ z => List.mem_cons_of_mem _ (List.mem_append_right _ z)) (Nat.le_of_ble_eq_true rfl) ?_
  intro p e s m args below meth c ls X hr hlk hsz G hl Q hQ
  subst hsz
  have hx := X.1.1
  have hb := X.1.2.1
  have hown := X.1.2.2.2.1
  have hts := X.1.2.2.2.2
  refine (fun (key : ∀ (H : Heap) (locs : List Loc), rr_H g q s H locs → W p l e (headSpec wsX11_letter rmX11_letter).room s m args below meth c H locs 0 0 Q (F0 m 0 ls [])) => key _ _ G) ?_
  clear G
  intro H locs G
  have hl : lv_has ls 3 [(0, .ref (g.2.2.2 28)), (1, .int v1)] := hl
  have hf37 : Cond.fieldLink RX11 37 (TX11 12).1 (TX11 12).2.1 (TX11 12).2.2.1 ∈ wsX11_letter := by decide +kernel
  have hf77 : Cond.fieldLink RX11 77 (TX11 16).1 (TX11 16).2.1 (TX11 16).2.2.1 ∈ wsX11_letter := by decide +kernel
  refine lv_iload_n hx hb dX11_letter_0 rfl (lv_at hl 1 rfl) ?_
  refine lv_iconst (v := 0) hx hb dX11_letter_1 (by decide) ?_
  refine lv_sipush (v := 255) hx hb dX11_letter_2 (by decide) ?_
  obtain ⟨r1, hc1, h2⟩ := pp_ob_ex h
  clear h
  refine rr_csi X G (ctX11_bound l _ _ _ hc1) (va_cwS 3 hts gX11_letter_X11_bound rfl rfl rfl (by decide +kernel) ⟨Nat.le_of_ble_eq_true rfl, Nat.le_of_ble_eq_true rfl⟩) (rest := []) rfl hl.1 rfl (Nat.le_of_ble_eq_true rfl) dX11_letter_5 (fun H locs G => ?_)
  refine lv_istore_n (lv' := [(2, .int r1), (0, .ref (g.2.2.2 28)), (1, .int v1)]) hx hb dX11_letter_8 rfl hl (by decide) rfl (fun ls hl => ?_)
  refine lv_iload_n hx hb dX11_letter_9 rfl (lv_at hl 0 rfl) ?_
  obtain ⟨j3, ej3, h4⟩ := pp_lj_ex h2
  clear h2
  have hj3 : ∀ (a3 : Int32) (H : Heap) (locs : List Loc) (ls : Array Slot), j3 a3 = some res → rr_H g q s H locs → lv_has ls 3 [(0, .ref (g.2.2.2 28)), (1, .int v1), (2, .int a3)] → W p l e (headSpec wsX11_letter rmX11_letter).room s m args below meth c H locs 0 0 Q (F0 m 25 ls []) := by
    intro a3 H locs ls h G hl
    have h5 := pp_jmp ej3 h
    clear h h4
    refine lv_iload_n hx hb dX11_letter_25 rfl (lv_at hl 2 rfl) ?_
    refine lv_if_eq (tgt := 35) hx hb dX11_letter_26 (by decide) (fun c6 => ?_) (fun c6 => ?_)
    · have h7 := pp_t c6 h5
      clear h5
      refine lv_aload_n hx hb dX11_letter_35 rfl (lv_at hl 0 rfl) ?_
      refine rr_get X G 12 (by decide) hf37 (v := .ref (g.2.2.2 12)) rfl dX11_letter_36 ?_
      refine lv_aload_n hx hb dX11_letter_39 rfl (lv_at hl 0 rfl) ?_
      refine rr_get X G 16 (by decide) hf77 (v := .int (q.1 16)) rfl dX11_letter_40 ?_
      refine lv_iload_n hx hb dX11_letter_43 rfl (lv_at hl 1 rfl) ?_
      obtain ⟨hi8, h9⟩ := pp_ix_ex h7
      clear h7
      obtain ⟨x10, ex10, h11⟩ := pp_lj_ex h9
      clear h9
      refine rr_iast X G ra_12 hi8 ex10 dX11_letter_44 (fun H locs G => ?_)
      refine lv_aload_n hx hb dX11_letter_45 rfl (lv_at hl 0 rfl) ?_
      refine lv_dup hx hb dX11_letter_46 rfl ?_
      refine rr_get X G 16 (by decide) hf77 (v := .int (x10.1 16)) rfl dX11_letter_47 ?_
      refine lv_iconst (v := 1) hx hb dX11_letter_50 (by decide) ?_
      refine lv_iadd hx hb dX11_letter_51 ?_
      obtain ⟨x12, ex12, h13⟩ := pp_lj_ex h11
      clear h11
      refine rr_put X G 16 (by decide) hf77 rfl (ty := .int) (by decide +kernel) rfl rfl (ri_16 g _ _) ex12 dX11_letter_52 (fun H locs G => ?_)
      refine lv_aload_n hx hb dX11_letter_55 rfl (lv_at hl 0 rfl) ?_
      refine rr_get X G 16 (by decide) hf77 (v := .int (x12.1 16)) rfl dX11_letter_56 ?_
      exact rr_iret X hr hlk rfl G h13 hQ dX11_letter_59
    · have h14 := pp_f c6 h5
      clear h5
      refine lv_aload_n hx hb dX11_letter_29 rfl (lv_at hl 0 rfl) ?_
      refine lv_iload_n hx hb dX11_letter_30 rfl (lv_at hl 2 rfl) ?_
      obtain ⟨r15, hc15, h16⟩ := pp_ob_ex h14
      clear h14
      refine rr_cali X G (ctX11_no l g _ _ hc15) (cwV 1 hts gX11_letter_X11_no rfl rfl rfl (by decide +kernel) ⟨Nat.le_of_ble_eq_true rfl, Nat.le_of_ble_eq_true rfl⟩) (rest := []) rfl hl.1 rfl (Nat.le_of_ble_eq_true rfl) dX11_letter_31 (fun H locs G => ?_)
      exact rr_iret X hr hlk rfl G h16 hQ dX11_letter_34
  refine lv_if_ne (tgt := 25) hx hb dX11_letter_10 (by decide) (fun c17 => ?_) (fun c17 => ?_)
  · have h18 := pp_f c17 h4
    clear h4
    exact hj3 _ H locs ls h18 G (lv_sub hl [1, 2, 0] rfl)
  · have h19 := pp_t c17 h4
    clear h4
    refine lv_aload_n hx hb dX11_letter_13 rfl (lv_at hl 1 rfl) ?_
    refine rr_get X G 16 (by decide) hf77 (v := .int (q.1 16)) rfl dX11_letter_14 ?_
    refine lv_bipush (v := 80) hx hb dX11_letter_17 (by decide) ?_
    refine lv_icmp_ne (tgt := 25) hx hb dX11_letter_19 (by decide) (fun c20 => ?_) (fun c20 => ?_)
    · have h21 := pp_f c20 h19
      clear h19
      exact hj3 _ H locs ls h21 G (lv_sub hl [1, 2, 0] rfl)
    · have h22 := pp_t c20 h19
      clear h19
      refine lv_bipush (v := -6) hx hb dX11_letter_22 (by decide) ?_
      refine lv_istore_n (lv' := [(2, .int (-6 : Int32)), (0, .ref (g.2.2.2 28)), (1, .int v1)]) hx hb dX11_letter_24 rfl hl (by decide) rfl (fun ls hl => ?_)
      exact hj3 _ H locs ls h22 G (lv_sub hl [1, 2, 0] rfl)
noncomputable def R_next (q : rr_S) : Option Int32 := (if (q.1 16) ≤ (q.1 17) then some (-1 : Int32) else pp_ix (q.1 17) 80 (some (q.2.1 12 (Int32.toNatClampNeg (q.1 17)))))
abbrev rmX11_next : Room := { frames := 0, cells := 0, slots := 0, locals := 0 }
set_option maxHeartbeats 4000000 in
set_option maxRecDepth 100000 in
theorem ctX11_next (l : Launch) (g : rr_G) (q : rr_S) {res : Int32} (h : R_next q = some res) : rr_Mi l yX11_next wsX11_next rmX11_next g q [] (res, q) := by
  intro sz
  unfold R_next at h
  refine rr_ofW (by decide) rfl rfl (fun _ z => List.mem_cons_of_mem _ (List.mem_append_right _ z)) (Nat.le_of_ble_eq_true rfl) ?_
  intro p e s m args below meth c ls X hr hlk hsz G hl Q hQ
  subst hsz
  have hx := X.1.1
  have hb := X.1.2.1
  have hown := X.1.2.2.2.1
  have hts := X.1.2.2.2.2
  refine (fun (key : ∀ (H : Heap) (locs : List Loc), rr_H g q s H locs → W p l e (headSpec wsX11_next rmX11_next).room s m args below meth c H locs 0 0 Q (F0 m 0 ls [])) => key _ _ G) ?_
  clear G
  intro H locs G
  have hl : lv_has ls 1 [(0, .ref (g.2.2.2 28))] := hl
  have hf37 : Cond.fieldLink RX11 37 (TX11 12).1 (TX11 12).2.1 (TX11 12).2.2.1 ∈ wsX11_next := by decide +kernel
  have hf77 : Cond.fieldLink RX11 77 (TX11 16).1 (TX11 16).2.1 (TX11 16).2.2.1 ∈ wsX11_next := by decide +kernel
  have hf84 : Cond.fieldLink RX11 84 (TX11 17).1 (TX11 17).2.1 (TX11 17).2.2.1 ∈ wsX11_next := by decide +kernel
  refine lv_aload_n hx hb dX11_next_0 rfl (lv_at hl 0 rfl) ?_
  refine rr_get X G 17 (by decide) hf84 (v := .int (q.1 17)) rfl dX11_next_1 ?_
  refine lv_aload_n hx hb dX11_next_4 rfl (lv_at hl 0 rfl) ?_
  refine rr_get X G 16 (by decide) hf77 (v := .int (q.1 16)) rfl dX11_next_5 ?_
  refine lv_icmp_ge (tgt := 23) hx hb dX11_next_8 (by decide) (fun c1 => ?_) (fun c1 => ?_)
  · have h2 := pp_t c1 h
    clear h
    refine lv_iconst (v := -1) hx hb dX11_next_23 (by decide) ?_
    exact rr_iretR X hr hlk rfl G h2 hQ dX11_next_24
  · have h3 := pp_f c1 h
    clear h
    refine lv_aload_n hx hb dX11_next_11 rfl (lv_at hl 0 rfl) ?_
    refine rr_get X G 12 (by decide) hf37 (v := .ref (g.2.2.2 12)) rfl dX11_next_12 ?_
    refine lv_aload_n hx hb dX11_next_15 rfl (lv_at hl 0 rfl) ?_
    refine rr_get X G 17 (by decide) hf84 (v := .int (q.1 17)) rfl dX11_next_16 ?_
    obtain ⟨hi4, h5⟩ := pp_ix_ex h3
    clear h3
    refine rr_iald X G ra_12 hi4 dX11_next_19 ?_
    refine lv_goto (tgt := 24) hx hb dX11_next_20 (by decide) ?_
    exact rr_iretR X hr hlk rfl G h5 hQ dX11_next_24
noncomputable def R_readsDigit (q : rr_S) (v1 : Int32) : Option (Int32 × rr_S) := pp_ob (R_next q) (fun r1 => pp_ob (R_isIn r1 (48 : Int32) (57 : Int32)) (fun r3 => (if r3 = (0 : Int32) then some ((0 : Int32), q) else pp_ob (R_next q) (fun r7 => pp_ix v1 160 (pp_lj (rr_A q 15 (Int32.toNatClampNeg v1) (r7 - (48 : Int32)) : rr_S) (fun x11 => pp_lj (rr_I x11 17 ((x11.1 17) + (1 : Int32)) : rr_S) (fun x13 => some ((1 : Int32), x13))))))))
abbrev rmX11_readsDigit : Room := { frames := 1, cells := 0, slots := 0, locals := 22 }
set_option maxHeartbeats 4000000 in
set_option maxRecDepth 100000 in
theorem ctX11_readsDigit (l : Launch) (g : rr_G) (q : rr_S) (v1 : Int32) {res : (Int32 × rr_S)} (h : R_readsDigit q v1 = some res) : rr_Mi l yX11_readsDigit wsX11_readsDigit rmX11_readsDigit g q [.int v1] res := by
  intro sz
  unfold R_readsDigit at h
  refine rr_ofW (by decide) rfl rfl (fun _ z => List.mem_cons_of_mem _ (List.mem_append_right _ z)) (Nat.le_of_ble_eq_true rfl) ?_
  intro p e s m args below meth c ls X hr hlk hsz G hl Q hQ
  subst hsz
  have hx := X.1.1
  have hb := X.1.2.1
  have hown := X.1.2.2.2.1
  have hts := X.1.2.2.2.2
  refine (fun (key : ∀ (H : Heap) (locs : List Loc), rr_H g q s H locs → W p l e (headSpec wsX11_readsDigit rmX11_readsDigit).room s m args below meth c H locs 0 0 Q (F0 m 0 ls [])) => key _ _ G) ?_
  clear G
  intro H locs G
  have hl : lv_has ls 2 [(0, .ref (g.2.2.2 28)), (1, .int v1)] := hl
  have hf46 : Cond.fieldLink RX11 46 (TX11 15).1 (TX11 15).2.1 (TX11 15).2.2.1 ∈ wsX11_readsDigit := by decide +kernel
  have hf84 : Cond.fieldLink RX11 84 (TX11 17).1 (TX11 17).2.1 (TX11 17).2.2.1 ∈ wsX11_readsDigit := by decide +kernel
  refine lv_aload_n hx hb dX11_readsDigit_0 rfl (lv_at hl 0 rfl) ?_
  obtain ⟨r1, hc1, h2⟩ := pp_ob_ex h
  clear h
  refine rr_cali X G (ctX11_next l g _ hc1) (cwV 0 hts gX11_readsDigit_X11_next rfl rfl rfl (by decide +kernel) ⟨Nat.le_of_ble_eq_true rfl, Nat.le_of_ble_eq_true rfl⟩) (rest := []) rfl hl.1 rfl (Nat.le_of_ble_eq_true rfl) dX11_readsDigit_1 (fun H locs G => ?_)
  refine lv_bipush (v := 48) hx hb dX11_readsDigit_4 (by decide) ?_
  refine lv_bipush (v := 57) hx hb dX11_readsDigit_6 (by decide) ?_
  obtain ⟨r3, hc3, h4⟩ := pp_ob_ex h2
  clear h2
  refine rr_csi X G (ctX11_isIn l _ _ _ hc3) (va_cwS 3 hts gX11_readsDigit_X11_isIn rfl rfl rfl (by decide +kernel) ⟨Nat.le_of_ble_eq_true rfl, Nat.le_of_ble_eq_true rfl⟩) (rest := []) rfl hl.1 rfl (Nat.le_of_ble_eq_true rfl) dX11_readsDigit_8 (fun H locs G => ?_)
  refine lv_if_ne (tgt := 16) hx hb dX11_readsDigit_11 (by decide) (fun c5 => ?_) (fun c5 => ?_)
  · have h6 := pp_f c5 h4
    clear h4
    refine lv_aload_n hx hb dX11_readsDigit_16 rfl (lv_at hl 0 rfl) ?_
    refine rr_get X G 15 (by decide) hf46 (v := .ref (g.2.2.2 15)) rfl dX11_readsDigit_17 ?_
    refine lv_iload_n hx hb dX11_readsDigit_20 rfl (lv_at hl 1 rfl) ?_
    refine lv_aload_n hx hb dX11_readsDigit_21 rfl (lv_at hl 0 rfl) ?_
    obtain ⟨r7, hc7, h8⟩ := pp_ob_ex h6
    clear h6
    refine rr_cali X G (ctX11_next l g _ hc7) (cwV 0 hts gX11_readsDigit_X11_next rfl rfl rfl (by decide +kernel) ⟨Nat.le_of_ble_eq_true rfl, Nat.le_of_ble_eq_true rfl⟩) (rest := [.int v1, .ref (g.2.2.2 15)]) rfl hl.1 rfl (Nat.le_of_ble_eq_true rfl) dX11_readsDigit_22 (fun H locs G => ?_)
    refine lv_bipush (v := 48) hx hb dX11_readsDigit_25 (by decide) ?_
    refine lv_isub hx hb dX11_readsDigit_27 ?_
    obtain ⟨hi9, h10⟩ := pp_ix_ex h8
    clear h8
    obtain ⟨x11, ex11, h12⟩ := pp_lj_ex h10
    clear h10
    refine rr_iast X G ra_15 hi9 ex11 dX11_readsDigit_28 (fun H locs G => ?_)
    refine lv_aload_n hx hb dX11_readsDigit_29 rfl (lv_at hl 0 rfl) ?_
    refine lv_dup hx hb dX11_readsDigit_30 rfl ?_
    refine rr_get X G 17 (by decide) hf84 (v := .int (x11.1 17)) rfl dX11_readsDigit_31 ?_
    refine lv_iconst (v := 1) hx hb dX11_readsDigit_34 (by decide) ?_
    refine lv_iadd hx hb dX11_readsDigit_35 ?_
    obtain ⟨x13, ex13, h14⟩ := pp_lj_ex h12
    clear h12
    refine rr_put X G 17 (by decide) hf84 rfl (ty := .int) (by decide +kernel) rfl rfl (ri_17 g _ _) ex13 dX11_readsDigit_36 (fun H locs G => ?_)
    refine lv_iconst (v := 1) hx hb dX11_readsDigit_39 (by decide) ?_
    exact rr_iret X hr hlk rfl G h14 hQ dX11_readsDigit_40
  · have h15 := pp_t c5 h4
    clear h4
    refine lv_iconst (v := 0) hx hb dX11_readsDigit_14 (by decide) ?_
    exact rr_iret X hr hlk rfl G h15 hQ dX11_readsDigit_15
noncomputable def R_kindOf (v0 : Int32) : Option Int32 := (if v0 = (99 : Int32) then some (2 : Int32) else (if v0 = (108 : Int32) then some (5 : Int32) else (if v0 = (112 : Int32) then some (0 : Int32) else (if v0 = (113 : Int32) then some (1 : Int32) else (if v0 = (116 : Int32) then some (3 : Int32) else (if v0 = (119 : Int32) then some (4 : Int32) else some (-1 : Int32)))))))
abbrev rmX11_kindOf : Room := { frames := 0, cells := 0, slots := 0, locals := 0 }
set_option maxHeartbeats 4000000 in
set_option maxRecDepth 100000 in
theorem ctX11_kindOf (l : Launch) (v0 : Int32) {res : Int32} (h : R_kindOf v0 = some res) : xs_Mi l yX11_kindOf wsX11_kindOf rmX11_kindOf [.int v0] res := by
  intro sz
  unfold R_kindOf at h
  refine xs_ofW (own := RX11) (by decide) rfl rfl (Nat.le_of_ble_eq_true rfl) ?_
  intro p e s m args below meth c ls X hr hlk hl Q hQ
  have hx := X.1
  have hb := X.2.1
  have hown := X.2.2.2.1
  have hts := X.2.2.2.2
  have hl : lv_has ls 1 [(0, .int v0)] := hl
  refine lv_iload_n hx hb dX11_kindOf_0 rfl (lv_at hl 0 rfl) ?_
  by_cases c1 : v0 = (99 : Int32)
  · have h2 := pp_t c1 h
    clear h
    refine lv_lookup (off := 63) (tgt := 64) hx hb dX11_kindOf_1 (by decide) (by rw [c1]; decide) (by decide) ?_
    refine lv_iconst (v := 2) hx hb dX11_kindOf_64 (by decide) ?_
    exact xs_iret hx hb hr hlk rfl h2 hQ dX11_kindOf_65
  have h3 := pp_f c1 h
  clear h
  by_cases c4 : v0 = (108 : Int32)
  · have h5 := pp_t c4 h3
    clear h3
    refine lv_lookup (off := 69) (tgt := 70) hx hb dX11_kindOf_1 (by decide) (by rw [c4]; decide) (by decide) ?_
    refine lv_iconst (v := 5) hx hb dX11_kindOf_70 (by decide) ?_
    exact xs_iret hx hb hr hlk rfl h5 hQ dX11_kindOf_71
  have h6 := pp_f c4 h3
  clear h3
  by_cases c7 : v0 = (112 : Int32)
  · have h8 := pp_t c7 h6
    clear h6
    refine lv_lookup (off := 59) (tgt := 60) hx hb dX11_kindOf_1 (by decide) (by rw [c7]; decide) (by decide) ?_
    refine lv_iconst (v := 0) hx hb dX11_kindOf_60 (by decide) ?_
    exact xs_iret hx hb hr hlk rfl h8 hQ dX11_kindOf_61
  have h9 := pp_f c7 h6
  clear h6
  by_cases c10 : v0 = (113 : Int32)
  · have h11 := pp_t c10 h9
    clear h9
    refine lv_lookup (off := 61) (tgt := 62) hx hb dX11_kindOf_1 (by decide) (by rw [c10]; decide) (by decide) ?_
    refine lv_iconst (v := 1) hx hb dX11_kindOf_62 (by decide) ?_
    exact xs_iret hx hb hr hlk rfl h11 hQ dX11_kindOf_63
  have h12 := pp_f c10 h9
  clear h9
  by_cases c13 : v0 = (116 : Int32)
  · have h14 := pp_t c13 h12
    clear h12
    refine lv_lookup (off := 65) (tgt := 66) hx hb dX11_kindOf_1 (by decide) (by rw [c13]; decide) (by decide) ?_
    refine lv_iconst (v := 3) hx hb dX11_kindOf_66 (by decide) ?_
    exact xs_iret hx hb hr hlk rfl h14 hQ dX11_kindOf_67
  have h15 := pp_f c13 h12
  clear h12
  by_cases c16 : v0 = (119 : Int32)
  · have h17 := pp_t c16 h15
    clear h15
    refine lv_lookup (off := 67) (tgt := 68) hx hb dX11_kindOf_1 (by decide) (by rw [c16]; decide) (by decide) ?_
    refine lv_iconst (v := 4) hx hb dX11_kindOf_68 (by decide) ?_
    exact xs_iret hx hb hr hlk rfl h17 hQ dX11_kindOf_69
  have h18 := pp_f c16 h15
  clear h15
  refine lv_lookup (off := 71) (tgt := 72) hx hb dX11_kindOf_1 (by decide) ((lv_osw c1 (by decide)).trans ((lv_osw c4 (by decide)).trans ((lv_osw c7 (by decide)).trans ((lv_osw c10 (by decide)).trans ((lv_osw c13 (by decide)).trans ((lv_osw c16 (by decide)).trans (rfl))))))) (by decide) ?_
  refine lv_iconst (v := -1) hx hb dX11_kindOf_72 (by decide) ?_
  exact xs_iret hx hb hr hlk rfl h18 hQ dX11_kindOf_73
noncomputable def R_readsKind (q : rr_S) (v1 : Int32) : Option (Int32 × rr_S) := pp_ob (R_next q) (fun r1 => pp_ob (R_kindOf r1) (fun r3 => pp_ix v1 160 (pp_lj (rr_A q 15 (Int32.toNatClampNeg v1) r3 : rr_S) (fun x7 => (if (0 : Int32) ≤ (x7.2.1 15 (Int32.toNatClampNeg v1)) then pp_lj (rr_I x7 17 ((x7.1 17) + (1 : Int32)) : rr_S) (fun x11 => some ((1 : Int32), x11)) else some ((0 : Int32), x7))))))
abbrev rmX11_readsKind : Room := { frames := 1, cells := 0, slots := 0, locals := 20 }
set_option maxHeartbeats 4000000 in
set_option maxRecDepth 100000 in
theorem ctX11_readsKind (l : Launch) (g : rr_G) (q : rr_S) (v1 : Int32) {res : (Int32 × rr_S)} (h : R_readsKind q v1 = some res) : rr_Mi l yX11_readsKind wsX11_readsKind rmX11_readsKind g q [.int v1] res := by
  intro sz
  unfold R_readsKind at h
  refine rr_ofW (by decide) rfl rfl (fun _ z => List.mem_cons_of_mem _ (List.mem_append_right _ z)) (Nat.le_of_ble_eq_true rfl) ?_
  intro p e s m args below meth c ls X hr hlk hsz G hl Q hQ
  subst hsz
  have hx := X.1.1
  have hb := X.1.2.1
  have hown := X.1.2.2.2.1
  have hts := X.1.2.2.2.2
  refine (fun (key : ∀ (H : Heap) (locs : List Loc), rr_H g q s H locs → W p l e (headSpec wsX11_readsKind rmX11_readsKind).room s m args below meth c H locs 0 0 Q (F0 m 0 ls [])) => key _ _ G) ?_
  clear G
  intro H locs G
  have hl : lv_has ls 2 [(0, .ref (g.2.2.2 28)), (1, .int v1)] := hl
  have hf46 : Cond.fieldLink RX11 46 (TX11 15).1 (TX11 15).2.1 (TX11 15).2.2.1 ∈ wsX11_readsKind := by decide +kernel
  have hf84 : Cond.fieldLink RX11 84 (TX11 17).1 (TX11 17).2.1 (TX11 17).2.2.1 ∈ wsX11_readsKind := by decide +kernel
  refine lv_aload_n hx hb dX11_readsKind_0 rfl (lv_at hl 0 rfl) ?_
  refine rr_get X G 15 (by decide) hf46 (v := .ref (g.2.2.2 15)) rfl dX11_readsKind_1 ?_
  refine lv_iload_n hx hb dX11_readsKind_4 rfl (lv_at hl 1 rfl) ?_
  refine lv_aload_n hx hb dX11_readsKind_5 rfl (lv_at hl 0 rfl) ?_
  obtain ⟨r1, hc1, h2⟩ := pp_ob_ex h
  clear h
  refine rr_cali X G (ctX11_next l g _ hc1) (cwV 0 hts gX11_readsKind_X11_next rfl rfl rfl (by decide +kernel) ⟨Nat.le_of_ble_eq_true rfl, Nat.le_of_ble_eq_true rfl⟩) (rest := [.int v1, .ref (g.2.2.2 15)]) rfl hl.1 rfl (Nat.le_of_ble_eq_true rfl) dX11_readsKind_6 (fun H locs G => ?_)
  obtain ⟨r3, hc3, h4⟩ := pp_ob_ex h2
  clear h2
  refine rr_csi X G (ctX11_kindOf l _ hc3) (va_cwS 1 hts gX11_readsKind_X11_kindOf rfl rfl rfl (by decide +kernel) ⟨Nat.le_of_ble_eq_true rfl, Nat.le_of_ble_eq_true rfl⟩) (rest := [.int v1, .ref (g.2.2.2 15)]) rfl hl.1 rfl (Nat.le_of_ble_eq_true rfl) dX11_readsKind_9 (fun H locs G => ?_)
  obtain ⟨hi5, h6⟩ := pp_ix_ex h4
  clear h4
  obtain ⟨x7, ex7, h8⟩ := pp_lj_ex h6
  clear h6
  refine rr_iast X G ra_15 hi5 ex7 dX11_readsKind_12 (fun H locs G => ?_)
  refine lv_aload_n hx hb dX11_readsKind_13 rfl (lv_at hl 0 rfl) ?_
  refine rr_get X G 15 (by decide) hf46 (v := .ref (g.2.2.2 15)) rfl dX11_readsKind_14 ?_
  refine lv_iload_n hx hb dX11_readsKind_17 rfl (lv_at hl 1 rfl) ?_
  refine rr_iald X G ra_15 hi5 dX11_readsKind_18 ?_
  refine lv_if_ge (tgt := 24) hx hb dX11_readsKind_19 (by decide) (fun c9 => ?_) (fun c9 => ?_)
  · have h10 := pp_t c9 h8
    clear h8
    refine lv_aload_n hx hb dX11_readsKind_24 rfl (lv_at hl 0 rfl) ?_
    refine lv_dup hx hb dX11_readsKind_25 rfl ?_
    refine rr_get X G 17 (by decide) hf84 (v := .int (x7.1 17)) rfl dX11_readsKind_26 ?_
    refine lv_iconst (v := 1) hx hb dX11_readsKind_29 (by decide) ?_
    refine lv_iadd hx hb dX11_readsKind_30 ?_
    obtain ⟨x11, ex11, h12⟩ := pp_lj_ex h10
    clear h10
    refine rr_put X G 17 (by decide) hf84 rfl (ty := .int) (by decide +kernel) rfl rfl (ri_17 g _ _) ex11 dX11_readsKind_31 (fun H locs G => ?_)
    refine lv_iconst (v := 1) hx hb dX11_readsKind_34 (by decide) ?_
    exact rr_iret X hr hlk rfl G h12 hQ dX11_readsKind_35
  · have h13 := pp_f c9 h8
    clear h8
    refine lv_iconst (v := 0) hx hb dX11_readsKind_22 (by decide) ?_
    exact rr_iret X hr hlk rfl G h13 hQ dX11_readsKind_23
noncomputable def R_readsAll (q : rr_S) (v1 : Int32) (v2 : Int32) : Option (Int32 × rr_S) := (if v1 = (111 : Int32) then pp_ob (R_readsDigit q v2) (fun r4 => pp_bz r4.1 (some (r4.1, r4.2))) else (if v1 = (112 : Int32) then pp_ob (R_readsDigit q v2) (fun r11 => pp_lj (fun (a13 : rr_S) => (some ((0 : Int32), a13) : Option (Int32 × rr_S))) (fun j13 => (if r11.1 = (0 : Int32) then j13 r11.2 else pp_ob (R_readsKind r11.2 (v2 + (1 : Int32))) (fun r19 => (if r19.1 = (0 : Int32) then j13 r19.2 else pp_ob (R_readsDigit r19.2 (v2 + (2 : Int32))) (fun r24 => (if r24.1 = (0 : Int32) then j13 r24.2 else pp_ob (R_readsDigit r24.2 (v2 + (3 : Int32))) (fun r29 => (if r29.1 = (0 : Int32) then j13 r29.2 else some ((1 : Int32), r29.2)))))))))) else pp_ob (R_readsDigit q v2) (fun r34 => pp_lj (fun (a36 : rr_S) => (some ((0 : Int32), a36) : Option (Int32 × rr_S))) (fun j36 => (if r34.1 = (0 : Int32) then j36 r34.2 else pp_ob (R_readsDigit r34.2 (v2 + (1 : Int32))) (fun r42 => (if r42.1 = (0 : Int32) then j36 r42.2 else some ((1 : Int32), r42.2))))))))
abbrev rmX11_readsAll : Room := { frames := 2, cells := 0, slots := 0, locals := 43 }
set_option maxHeartbeats 4000000 in
set_option maxRecDepth 100000 in
theorem ctX11_readsAll (l : Launch) (g : rr_G) (q : rr_S) (v1 : Int32) (v2 : Int32) {res : (Int32 × rr_S)} (h : R_readsAll q v1 v2 = some res) : rr_Mi l yX11_readsAll wsX11_readsAll rmX11_readsAll g q [.int v1, .int v2] res := by
  intro sz
  unfold R_readsAll at h
  refine rr_ofW (by decide) rfl rfl (fun _ z => List.mem_cons_of_mem _ (List.mem_append_right _ z)) (Nat.le_of_ble_eq_true rfl) ?_
  intro p e s m args below meth c ls X hr hlk hsz G hl Q hQ
  subst hsz
  have hx := X.1.1
  have hb := X.1.2.1
  have hown := X.1.2.2.2.1
  have hts := X.1.2.2.2.2
  refine (fun (key : ∀ (H : Heap) (locs : List Loc), rr_H g q s H locs → W p l e (headSpec wsX11_readsAll rmX11_readsAll).room s m args below meth c H locs 0 0 Q (F0 m 0 ls [])) => key _ _ G) ?_
  clear G
  intro H locs G
  have hl : lv_has ls 3 [(0, .ref (g.2.2.2 28)), (1, .int v1), (2, .int v2)] := hl
  refine lv_iload_n hx hb dX11_readsAll_0 rfl (lv_at hl 1 rfl) ?_
  by_cases c1 : v1 = (111 : Int32)
  · have h2 := pp_t c1 h
    clear h
    refine lv_lookup (off := 71) (tgt := 72) hx hb dX11_readsAll_1 (by decide) (by rw [c1]; decide) (by decide) ?_
    refine lv_aload_n hx hb dX11_readsAll_72 rfl (lv_at hl 0 rfl) ?_
    refine lv_iload_n hx hb dX11_readsAll_73 rfl (lv_at hl 2 rfl) ?_
    obtain ⟨r4, hc4, h5⟩ := pp_ob_ex h2
    clear h2
    refine rr_cali X G (ctX11_readsDigit l g _ _ hc4) (cwV 1 hts gX11_readsAll_X11_readsDigit rfl rfl rfl (by decide +kernel) ⟨Nat.le_of_ble_eq_true rfl, Nat.le_of_ble_eq_true rfl⟩) (rest := []) rfl hl.1 rfl (Nat.le_of_ble_eq_true rfl) dX11_readsAll_74 (fun H locs G => ?_)
    obtain ⟨hz6, h7⟩ := pp_bz_ex h5
    clear h5
    exact rr_iret X hr hlk hz6.1 G h7 hQ dX11_readsAll_77
  have h3 := pp_f c1 h
  clear h
  by_cases c8 : v1 = (112 : Int32)
  · have h9 := pp_t c8 h3
    clear h3
    refine lv_lookup (off := 27) (tgt := 28) hx hb dX11_readsAll_1 (by decide) (by rw [c8]; decide) (by decide) ?_
    refine lv_aload_n hx hb dX11_readsAll_28 rfl (lv_at hl 0 rfl) ?_
    refine lv_iload_n hx hb dX11_readsAll_29 rfl (lv_at hl 2 rfl) ?_
    obtain ⟨r11, hc11, h12⟩ := pp_ob_ex h9
    clear h9
    refine rr_cali X G (ctX11_readsDigit l g _ _ hc11) (cwV 1 hts gX11_readsAll_X11_readsDigit rfl rfl rfl (by decide +kernel) ⟨Nat.le_of_ble_eq_true rfl, Nat.le_of_ble_eq_true rfl⟩) (rest := []) rfl hl.1 rfl (Nat.le_of_ble_eq_true rfl) dX11_readsAll_30 (fun H locs G => ?_)
    obtain ⟨j13, ej13, h14⟩ := pp_lj_ex h12
    clear h12
    have hj13 : ∀ (a13 : rr_S) (H : Heap) (locs : List Loc) (ls : Array Slot), j13 a13 = some res → rr_H g a13 s H locs → lv_has ls 3 [] → W p l e (headSpec wsX11_readsAll rmX11_readsAll).room s m args below meth c H locs 0 0 Q (F0 m 70 ls []) := by
      intro a13 H locs ls h G hl
      have h15 := pp_jmp ej13 h
      clear h h14
      refine lv_iconst (v := 0) hx hb dX11_readsAll_70 (by decide) ?_
      exact rr_iret X hr hlk rfl G h15 hQ dX11_readsAll_71
    refine lv_if_eq (tgt := 70) hx hb dX11_readsAll_33 (by decide) (fun c16 => ?_) (fun c16 => ?_)
    · have h17 := pp_t c16 h14
      clear h14
      exact hj13 _ H locs ls h17 G (lv_sub hl [] rfl)
    · have h18 := pp_f c16 h14
      clear h14
      refine lv_aload_n hx hb dX11_readsAll_36 rfl (lv_at hl 0 rfl) ?_
      refine lv_iload_n hx hb dX11_readsAll_37 rfl (lv_at hl 2 rfl) ?_
      refine lv_iconst (v := 1) hx hb dX11_readsAll_38 (by decide) ?_
      refine lv_iadd hx hb dX11_readsAll_39 ?_
      obtain ⟨r19, hc19, h20⟩ := pp_ob_ex h18
      clear h18
      refine rr_cali X G (ctX11_readsKind l g _ _ hc19) (cwV 1 hts gX11_readsAll_X11_readsKind rfl rfl rfl (by decide +kernel) ⟨Nat.le_of_ble_eq_true rfl, Nat.le_of_ble_eq_true rfl⟩) (rest := []) rfl hl.1 rfl (Nat.le_of_ble_eq_true rfl) dX11_readsAll_40 (fun H locs G => ?_)
      refine lv_if_eq (tgt := 70) hx hb dX11_readsAll_43 (by decide) (fun c21 => ?_) (fun c21 => ?_)
      · have h22 := pp_t c21 h20
        clear h20
        exact hj13 _ H locs ls h22 G (lv_sub hl [] rfl)
      · have h23 := pp_f c21 h20
        clear h20
        refine lv_aload_n hx hb dX11_readsAll_46 rfl (lv_at hl 0 rfl) ?_
        refine lv_iload_n hx hb dX11_readsAll_47 rfl (lv_at hl 2 rfl) ?_
        refine lv_iconst (v := 2) hx hb dX11_readsAll_48 (by decide) ?_
        refine lv_iadd hx hb dX11_readsAll_49 ?_
        obtain ⟨r24, hc24, h25⟩ := pp_ob_ex h23
        clear h23
        refine rr_cali X G (ctX11_readsDigit l g _ _ hc24) (cwV 1 hts gX11_readsAll_X11_readsDigit rfl rfl rfl (by decide +kernel) ⟨Nat.le_of_ble_eq_true rfl, Nat.le_of_ble_eq_true rfl⟩) (rest := []) rfl hl.1 rfl (Nat.le_of_ble_eq_true rfl) dX11_readsAll_50 (fun H locs G => ?_)
        refine lv_if_eq (tgt := 70) hx hb dX11_readsAll_53 (by decide) (fun c26 => ?_) (fun c26 => ?_)
        · have h27 := pp_t c26 h25
          clear h25
          exact hj13 _ H locs ls h27 G (lv_sub hl [] rfl)
        · have h28 := pp_f c26 h25
          clear h25
          refine lv_aload_n hx hb dX11_readsAll_56 rfl (lv_at hl 0 rfl) ?_
          refine lv_iload_n hx hb dX11_readsAll_57 rfl (lv_at hl 2 rfl) ?_
          refine lv_iconst (v := 3) hx hb dX11_readsAll_58 (by decide) ?_
          refine lv_iadd hx hb dX11_readsAll_59 ?_
          obtain ⟨r29, hc29, h30⟩ := pp_ob_ex h28
          clear h28
          refine rr_cali X G (ctX11_readsDigit l g _ _ hc29) (cwV 1 hts gX11_readsAll_X11_readsDigit rfl rfl rfl (by decide +kernel) ⟨Nat.le_of_ble_eq_true rfl, Nat.le_of_ble_eq_true rfl⟩) (rest := []) rfl hl.1 rfl (Nat.le_of_ble_eq_true rfl) dX11_readsAll_60 (fun H locs G => ?_)
          refine lv_if_eq (tgt := 70) hx hb dX11_readsAll_63 (by decide) (fun c31 => ?_) (fun c31 => ?_)
          · have h32 := pp_t c31 h30
            clear h30
            exact hj13 _ H locs ls h32 G (lv_sub hl [] rfl)
          · have h33 := pp_f c31 h30
            clear h30
            refine lv_iconst (v := 1) hx hb dX11_readsAll_66 (by decide) ?_
            refine lv_goto (tgt := 71) hx hb dX11_readsAll_67 (by decide) ?_
            exact rr_iret X hr hlk rfl G h33 hQ dX11_readsAll_71
  have h10 := pp_f c8 h3
  clear h3
  refine lv_lookup (off := 77) (tgt := 78) hx hb dX11_readsAll_1 (by decide) ((lv_osw c1 (by decide)).trans ((lv_osw c8 (by decide)).trans (rfl))) (by decide) ?_
  refine lv_aload_n hx hb dX11_readsAll_78 rfl (lv_at hl 0 rfl) ?_
  refine lv_iload_n hx hb dX11_readsAll_79 rfl (lv_at hl 2 rfl) ?_
  obtain ⟨r34, hc34, h35⟩ := pp_ob_ex h10
  clear h10
  refine rr_cali X G (ctX11_readsDigit l g _ _ hc34) (cwV 1 hts gX11_readsAll_X11_readsDigit rfl rfl rfl (by decide +kernel) ⟨Nat.le_of_ble_eq_true rfl, Nat.le_of_ble_eq_true rfl⟩) (rest := []) rfl hl.1 rfl (Nat.le_of_ble_eq_true rfl) dX11_readsAll_80 (fun H locs G => ?_)
  obtain ⟨j36, ej36, h37⟩ := pp_lj_ex h35
  clear h35
  have hj36 : ∀ (a36 : rr_S) (H : Heap) (locs : List Loc) (ls : Array Slot), j36 a36 = some res → rr_H g a36 s H locs → lv_has ls 3 [] → W p l e (headSpec wsX11_readsAll rmX11_readsAll).room s m args below meth c H locs 0 0 Q (F0 m 100 ls []) := by
    intro a36 H locs ls h G hl
    have h38 := pp_jmp ej36 h
    clear h h37
    refine lv_iconst (v := 0) hx hb dX11_readsAll_100 (by decide) ?_
    exact rr_iret X hr hlk rfl G h38 hQ dX11_readsAll_101
  refine lv_if_eq (tgt := 100) hx hb dX11_readsAll_83 (by decide) (fun c39 => ?_) (fun c39 => ?_)
  · have h40 := pp_t c39 h37
    clear h37
    exact hj36 _ H locs ls h40 G (lv_sub hl [] rfl)
  · have h41 := pp_f c39 h37
    clear h37
    refine lv_aload_n hx hb dX11_readsAll_86 rfl (lv_at hl 0 rfl) ?_
    refine lv_iload_n hx hb dX11_readsAll_87 rfl (lv_at hl 2 rfl) ?_
    refine lv_iconst (v := 1) hx hb dX11_readsAll_88 (by decide) ?_
    refine lv_iadd hx hb dX11_readsAll_89 ?_
    obtain ⟨r42, hc42, h43⟩ := pp_ob_ex h41
    clear h41
    refine rr_cali X G (ctX11_readsDigit l g _ _ hc42) (cwV 1 hts gX11_readsAll_X11_readsDigit rfl rfl rfl (by decide +kernel) ⟨Nat.le_of_ble_eq_true rfl, Nat.le_of_ble_eq_true rfl⟩) (rest := []) rfl hl.1 rfl (Nat.le_of_ble_eq_true rfl) dX11_readsAll_90 (fun H locs G => ?_)
    refine lv_if_eq (tgt := 100) hx hb dX11_readsAll_93 (by decide) (fun c44 => ?_) (fun c44 => ?_)
    · have h45 := pp_t c44 h43
      clear h43
      exact hj36 _ H locs ls h45 G (lv_sub hl [] rfl)
    · have h46 := pp_f c44 h43
      clear h43
      refine lv_iconst (v := 1) hx hb dX11_readsAll_96 (by decide) ?_
      refine lv_goto (tgt := 101) hx hb dX11_readsAll_97 (by decide) ?_
      exact rr_iret X hr hlk rfl G h46 hQ dX11_readsAll_101
noncomputable def R_statement (q : rr_S) : Option (Int32 × rr_S) := pp_ob (R_next q) (fun r1 => pp_lj (fun (a3 : Unit) => (pp_ix (q.1 18) 40 (pp_lj (rr_A q 13 (Int32.toNatClampNeg (q.1 18)) r1 : rr_S) (fun x8 => pp_ix (x8.1 18) 40 (pp_lj (rr_A x8 14 (Int32.toNatClampNeg (x8.1 18)) (x8.1 17) : rr_S) (fun x12 => pp_lj (rr_I x12 17 ((x12.1 17) + (1 : Int32)) : rr_S) (fun x14 => pp_ob (R_readsAll x14 r1 ((4 : Int32) * (x14.1 18))) (fun r16 => (if r16.1 = (0 : Int32) then some ((0 : Int32), r16.2) else pp_ob (R_next r16.2) (fun r21 => (if r21 = (59 : Int32) then pp_lj (rr_I r16.2 17 ((r16.2.1 17) + (1 : Int32)) : rr_S) (fun x25 => some ((1 : Int32), x25)) else some ((0 : Int32), r16.2)))))))))) : Option (Int32 × rr_S))) (fun j3 => (if r1 = (112 : Int32) then j3 () else (if r1 = (98 : Int32) then j3 () else (if r1 = (103 : Int32) then j3 () else (if r1 = (111 : Int32) then j3 () else some ((0 : Int32), q)))))))
abbrev rmX11_statement : Room := { frames := 3, cells := 0, slots := 0, locals := 65 }
set_option maxHeartbeats 4000000 in
set_option maxRecDepth 100000 in
theorem ctX11_statement (l : Launch) (g : rr_G) (q : rr_S) {res : (Int32 × rr_S)} (h : R_statement q = some res) : rr_Mi l yX11_statement wsX11_statement rmX11_statement g q [] res := by
  intro sz
  unfold R_statement at h
  refine rr_ofW (by decide) rfl rfl (fun _ z => List.mem_cons_of_mem _ (List.mem_append_right _ z)) (Nat.le_of_ble_eq_true rfl) ?_
  intro p e s m args below meth c ls X hr hlk hsz G hl Q hQ
  subst hsz
  have hx := X.1.1
  have hb := X.1.2.1
  have hown := X.1.2.2.2.1
  have hts := X.1.2.2.2.2
  refine (fun (key : ∀ (H : Heap) (locs : List Loc), rr_H g q s H locs → W p l e (headSpec wsX11_statement rmX11_statement).room s m args below meth c H locs 0 0 Q (F0 m 0 ls [])) => key _ _ G) ?_
  clear G
  intro H locs G
  have hl : lv_has ls 2 [(0, .ref (g.2.2.2 28))] := hl
  have hf40 : Cond.fieldLink RX11 40 (TX11 13).1 (TX11 13).2.1 (TX11 13).2.2.1 ∈ wsX11_statement := by decide +kernel
  have hf43 : Cond.fieldLink RX11 43 (TX11 14).1 (TX11 14).2.1 (TX11 14).2.2.1 ∈ wsX11_statement := by decide +kernel
  have hf84 : Cond.fieldLink RX11 84 (TX11 17).1 (TX11 17).2.1 (TX11 17).2.2.1 ∈ wsX11_statement := by decide +kernel
  have hf104 : Cond.fieldLink RX11 104 (TX11 18).1 (TX11 18).2.1 (TX11 18).2.2.1 ∈ wsX11_statement := by decide +kernel
  refine lv_aload_n hx hb dX11_statement_0 rfl (lv_at hl 0 rfl) ?_
  obtain ⟨r1, hc1, h2⟩ := pp_ob_ex h
  clear h
  refine rr_cali X G (ctX11_next l g _ hc1) (cwV 0 hts gX11_statement_X11_next rfl rfl rfl (by decide +kernel) ⟨Nat.le_of_ble_eq_true rfl, Nat.le_of_ble_eq_true rfl⟩) (rest := []) rfl hl.1 rfl (Nat.le_of_ble_eq_true rfl) dX11_statement_1 (fun H locs G => ?_)
  refine lv_istore_n (lv' := [(1, .int r1), (0, .ref (g.2.2.2 28))]) hx hb dX11_statement_4 rfl hl (by decide) rfl (fun ls hl => ?_)
  refine lv_iload_n hx hb dX11_statement_5 rfl (lv_at hl 0 rfl) ?_
  refine lv_bipush (v := 112) hx hb dX11_statement_6 (by decide) ?_
  obtain ⟨j3, ej3, h4⟩ := pp_lj_ex h2
  clear h2
  have hj3 : ∀ (a3 : Unit) (H : Heap) (locs : List Loc) (ls : Array Slot), j3 a3 = some res → rr_H g q s H locs → lv_has ls 2 [(0, .ref (g.2.2.2 28)), (1, .int r1)] → W p l e (headSpec wsX11_statement rmX11_statement).room s m args below meth c H locs 0 0 Q (F0 m 31 ls []) := by
    intro a3 H locs ls h G hl
    have h5 := pp_jmp ej3 h
    clear h h4
    refine lv_aload_n hx hb dX11_statement_31 rfl (lv_at hl 0 rfl) ?_
    refine rr_get X G 13 (by decide) hf40 (v := .ref (g.2.2.2 13)) rfl dX11_statement_32 ?_
    refine lv_aload_n hx hb dX11_statement_35 rfl (lv_at hl 0 rfl) ?_
    refine rr_get X G 18 (by decide) hf104 (v := .int (q.1 18)) rfl dX11_statement_36 ?_
    refine lv_iload_n hx hb dX11_statement_39 rfl (lv_at hl 1 rfl) ?_
    obtain ⟨hi6, h7⟩ := pp_ix_ex h5
    clear h5
    obtain ⟨x8, ex8, h9⟩ := pp_lj_ex h7
    clear h7
    refine rr_iast X G ra_13 hi6 ex8 dX11_statement_40 (fun H locs G => ?_)
    refine lv_aload_n hx hb dX11_statement_41 rfl (lv_at hl 0 rfl) ?_
    refine rr_get X G 14 (by decide) hf43 (v := .ref (g.2.2.2 14)) rfl dX11_statement_42 ?_
    refine lv_aload_n hx hb dX11_statement_45 rfl (lv_at hl 0 rfl) ?_
    refine rr_get X G 18 (by decide) hf104 (v := .int (x8.1 18)) rfl dX11_statement_46 ?_
    refine lv_aload_n hx hb dX11_statement_49 rfl (lv_at hl 0 rfl) ?_
    refine rr_get X G 17 (by decide) hf84 (v := .int (x8.1 17)) rfl dX11_statement_50 ?_
    obtain ⟨hi10, h11⟩ := pp_ix_ex h9
    clear h9
    obtain ⟨x12, ex12, h13⟩ := pp_lj_ex h11
    clear h11
    refine rr_iast X G ra_14 hi10 ex12 dX11_statement_53 (fun H locs G => ?_)
    refine lv_aload_n hx hb dX11_statement_54 rfl (lv_at hl 0 rfl) ?_
    refine lv_dup hx hb dX11_statement_55 rfl ?_
    refine rr_get X G 17 (by decide) hf84 (v := .int (x12.1 17)) rfl dX11_statement_56 ?_
    refine lv_iconst (v := 1) hx hb dX11_statement_59 (by decide) ?_
    refine lv_iadd hx hb dX11_statement_60 ?_
    obtain ⟨x14, ex14, h15⟩ := pp_lj_ex h13
    clear h13
    refine rr_put X G 17 (by decide) hf84 rfl (ty := .int) (by decide +kernel) rfl rfl (ri_17 g _ _) ex14 dX11_statement_61 (fun H locs G => ?_)
    refine lv_aload_n hx hb dX11_statement_64 rfl (lv_at hl 0 rfl) ?_
    refine lv_iload_n hx hb dX11_statement_65 rfl (lv_at hl 1 rfl) ?_
    refine lv_iconst (v := 4) hx hb dX11_statement_66 (by decide) ?_
    refine lv_aload_n hx hb dX11_statement_67 rfl (lv_at hl 0 rfl) ?_
    refine rr_get X G 18 (by decide) hf104 (v := .int (x14.1 18)) rfl dX11_statement_68 ?_
    refine lv_imul hx hb dX11_statement_71 ?_
    obtain ⟨r16, hc16, h17⟩ := pp_ob_ex h15
    clear h15
    refine rr_cali X G (ctX11_readsAll l g _ _ _ hc16) (cwV 2 hts gX11_statement_X11_readsAll rfl rfl rfl (by decide +kernel) ⟨Nat.le_of_ble_eq_true rfl, Nat.le_of_ble_eq_true rfl⟩) (rest := []) rfl hl.1 rfl (Nat.le_of_ble_eq_true rfl) dX11_statement_72 (fun H locs G => ?_)
    refine lv_if_eq (tgt := 87) hx hb dX11_statement_75 (by decide) (fun c18 => ?_) (fun c18 => ?_)
    · have h19 := pp_t c18 h17
      clear h17
      refine lv_iconst (v := 0) hx hb dX11_statement_87 (by decide) ?_
      exact rr_iret X hr hlk rfl G h19 hQ dX11_statement_88
    · have h20 := pp_f c18 h17
      clear h17
      refine lv_aload_n hx hb dX11_statement_78 rfl (lv_at hl 0 rfl) ?_
      obtain ⟨r21, hc21, h22⟩ := pp_ob_ex h20
      clear h20
      refine rr_cali X G (ctX11_next l g _ hc21) (cwV 0 hts gX11_statement_X11_next rfl rfl rfl (by decide +kernel) ⟨Nat.le_of_ble_eq_true rfl, Nat.le_of_ble_eq_true rfl⟩) (rest := []) rfl hl.1 rfl (Nat.le_of_ble_eq_true rfl) dX11_statement_79 (fun H locs G => ?_)
      refine lv_bipush (v := 59) hx hb dX11_statement_82 (by decide) ?_
      refine lv_icmp_eq (tgt := 89) hx hb dX11_statement_84 (by decide) (fun c23 => ?_) (fun c23 => ?_)
      · have h24 := pp_t c23 h22
        clear h22
        refine lv_aload_n hx hb dX11_statement_89 rfl (lv_at hl 0 rfl) ?_
        refine lv_dup hx hb dX11_statement_90 rfl ?_
        refine rr_get X G 17 (by decide) hf84 (v := .int (r16.2.1 17)) rfl dX11_statement_91 ?_
        refine lv_iconst (v := 1) hx hb dX11_statement_94 (by decide) ?_
        refine lv_iadd hx hb dX11_statement_95 ?_
        obtain ⟨x25, ex25, h26⟩ := pp_lj_ex h24
        clear h24
        refine rr_put X G 17 (by decide) hf84 rfl (ty := .int) (by decide +kernel) rfl rfl (ri_17 g _ _) ex25 dX11_statement_96 (fun H locs G => ?_)
        refine lv_iconst (v := 1) hx hb dX11_statement_99 (by decide) ?_
        exact rr_iret X hr hlk rfl G h26 hQ dX11_statement_100
      · have h27 := pp_f c23 h22
        clear h22
        refine lv_iconst (v := 0) hx hb dX11_statement_87 (by decide) ?_
        exact rr_iret X hr hlk rfl G h27 hQ dX11_statement_88
  refine lv_icmp_eq (tgt := 31) hx hb dX11_statement_8 (by decide) (fun c28 => ?_) (fun c28 => ?_)
  · have h29 := pp_t c28 h4
    clear h4
    exact hj3 _ H locs ls h29 G (lv_sub hl [1, 0] rfl)
  · have h30 := pp_f c28 h4
    clear h4
    refine lv_iload_n hx hb dX11_statement_11 rfl (lv_at hl 0 rfl) ?_
    refine lv_bipush (v := 98) hx hb dX11_statement_12 (by decide) ?_
    refine lv_icmp_eq (tgt := 31) hx hb dX11_statement_14 (by decide) (fun c31 => ?_) (fun c31 => ?_)
    · have h32 := pp_t c31 h30
      clear h30
      exact hj3 _ H locs ls h32 G (lv_sub hl [1, 0] rfl)
    · have h33 := pp_f c31 h30
      clear h30
      refine lv_iload_n hx hb dX11_statement_17 rfl (lv_at hl 0 rfl) ?_
      refine lv_bipush (v := 103) hx hb dX11_statement_18 (by decide) ?_
      refine lv_icmp_eq (tgt := 31) hx hb dX11_statement_20 (by decide) (fun c34 => ?_) (fun c34 => ?_)
      · have h35 := pp_t c34 h33
        clear h33
        exact hj3 _ H locs ls h35 G (lv_sub hl [1, 0] rfl)
      · have h36 := pp_f c34 h33
        clear h33
        refine lv_iload_n hx hb dX11_statement_23 rfl (lv_at hl 0 rfl) ?_
        refine lv_bipush (v := 111) hx hb dX11_statement_24 (by decide) ?_
        refine lv_icmp_eq (tgt := 31) hx hb dX11_statement_26 (by decide) (fun c37 => ?_) (fun c37 => ?_)
        · have h38 := pp_t c37 h36
          clear h36
          exact hj3 _ H locs ls h38 G (lv_sub hl [1, 0] rfl)
        · have h39 := pp_f c37 h36
          clear h36
          refine lv_iconst (v := 0) hx hb dX11_statement_29 (by decide) ?_
          exact rr_iret X hr hlk rfl G h39 hQ dX11_statement_30
noncomputable def R_isHeld (q : rr_S) (v1 : Int32) (v2 : Int32) : Option rr_S := pp_ix v1 6 (pp_lj (rr_A q 6 (Int32.toNatClampNeg v1) v2 : rr_S) (fun x3 => pp_lj (rr_A x3 7 (Int32.toNatClampNeg v1) (-9 : Int32) : rr_S) (fun x5 => pp_lj (rr_A x5 8 (Int32.toNatClampNeg v1) (0 : Int32) : rr_S) (fun x7 => some x7))))
abbrev rmX11_isHeld : Room := { frames := 0, cells := 0, slots := 0, locals := 0 }
set_option maxHeartbeats 4000000 in
set_option maxRecDepth 100000 in
theorem ctX11_isHeld (l : Launch) (g : rr_G) (q : rr_S) (v1 : Int32) (v2 : Int32) {res : rr_S} (h : R_isHeld q v1 v2 = some res) : rr_Mv l yX11_isHeld wsX11_isHeld rmX11_isHeld g q [.int v1, .int v2] res := by
  intro sz
  unfold R_isHeld at h
  refine rr_ofW (by decide) rfl rfl (fun _ z => List.mem_cons_of_mem _ (List.mem_append_right _ z)) (Nat.le_of_ble_eq_true rfl) ?_
  intro p e s m args below meth c ls X hr hlk hsz G hl Q hQ
  subst hsz
  have hx := X.1.1
  have hb := X.1.2.1
  have hown := X.1.2.2.2.1
  have hts := X.1.2.2.2.2
  refine (fun (key : ∀ (H : Heap) (locs : List Loc), rr_H g q s H locs → W p l e (headSpec wsX11_isHeld rmX11_isHeld).room s m args below meth c H locs 0 0 Q (F0 m 0 ls [])) => key _ _ G) ?_
  clear G
  intro H locs G
  have hl : lv_has ls 3 [(0, .ref (g.2.2.2 28)), (1, .int v1), (2, .int v2)] := hl
  have hf28 : Cond.fieldLink RX11 28 (TX11 6).1 (TX11 6).2.1 (TX11 6).2.2.1 ∈ wsX11_isHeld := by decide +kernel
  have hf31 : Cond.fieldLink RX11 31 (TX11 7).1 (TX11 7).2.1 (TX11 7).2.2.1 ∈ wsX11_isHeld := by decide +kernel
  have hf34 : Cond.fieldLink RX11 34 (TX11 8).1 (TX11 8).2.1 (TX11 8).2.2.1 ∈ wsX11_isHeld := by decide +kernel
  refine lv_aload_n hx hb dX11_isHeld_0 rfl (lv_at hl 0 rfl) ?_
  refine rr_get X G 6 (by decide) hf28 (v := .ref (g.2.2.2 6)) rfl dX11_isHeld_1 ?_
  refine lv_iload_n hx hb dX11_isHeld_4 rfl (lv_at hl 1 rfl) ?_
  refine lv_iload_n hx hb dX11_isHeld_5 rfl (lv_at hl 2 rfl) ?_
  obtain ⟨hi1, h2⟩ := pp_ix_ex h
  clear h
  obtain ⟨x3, ex3, h4⟩ := pp_lj_ex h2
  clear h2
  refine rr_iast X G ra_6 hi1 ex3 dX11_isHeld_6 (fun H locs G => ?_)
  refine lv_aload_n hx hb dX11_isHeld_7 rfl (lv_at hl 0 rfl) ?_
  refine rr_get X G 7 (by decide) hf31 (v := .ref (g.2.2.2 7)) rfl dX11_isHeld_8 ?_
  refine lv_iload_n hx hb dX11_isHeld_11 rfl (lv_at hl 1 rfl) ?_
  refine lv_bipush (v := -9) hx hb dX11_isHeld_12 (by decide) ?_
  obtain ⟨x5, ex5, h6⟩ := pp_lj_ex h4
  clear h4
  refine rr_iast X G ra_7 hi1 ex5 dX11_isHeld_14 (fun H locs G => ?_)
  refine lv_aload_n hx hb dX11_isHeld_15 rfl (lv_at hl 0 rfl) ?_
  refine rr_get X G 8 (by decide) hf34 (v := .ref (g.2.2.2 8)) rfl dX11_isHeld_16 ?_
  refine lv_iload_n hx hb dX11_isHeld_19 rfl (lv_at hl 1 rfl) ?_
  refine lv_iconst (v := 0) hx hb dX11_isHeld_20 (by decide) ?_
  obtain ⟨x7, ex7, h8⟩ := pp_lj_ex h6
  clear h6
  refine rr_iast X G ra_8 hi1 ex7 dX11_isHeld_21 (fun H locs G => ?_)
  exact rr_vret X hr hlk G h8 hQ dX11_isHeld_22
noncomputable def R_falls (q : rr_S) (v1 : Int32) (v2 : Int32) : Option rr_S := pp_ix v1 6 (pp_lj (rr_A q 6 (Int32.toNatClampNeg v1) (-9 : Int32) : rr_S) (fun x3 => pp_lj (rr_A x3 7 (Int32.toNatClampNeg v1) v2 : rr_S) (fun x5 => pp_lj (rr_A x5 8 (Int32.toNatClampNeg v1) (0 : Int32) : rr_S) (fun x7 => some x7))))
abbrev rmX11_falls : Room := { frames := 0, cells := 0, slots := 0, locals := 0 }
set_option maxHeartbeats 4000000 in
set_option maxRecDepth 100000 in
theorem ctX11_falls (l : Launch) (g : rr_G) (q : rr_S) (v1 : Int32) (v2 : Int32) {res : rr_S} (h : R_falls q v1 v2 = some res) : rr_Mv l yX11_falls wsX11_falls rmX11_falls g q [.int v1, .int v2] res := by
  intro sz
  unfold R_falls at h
  refine rr_ofW (by decide) rfl rfl (fun _ z => List.mem_cons_of_mem _ (List.mem_append_right _ z)) (Nat.le_of_ble_eq_true rfl) ?_
  intro p e s m args below meth c ls X hr hlk hsz G hl Q hQ
  subst hsz
  have hx := X.1.1
  have hb := X.1.2.1
  have hown := X.1.2.2.2.1
  have hts := X.1.2.2.2.2
  refine (fun (key : ∀ (H : Heap) (locs : List Loc), rr_H g q s H locs → W p l e (headSpec wsX11_falls rmX11_falls).room s m args below meth c H locs 0 0 Q (F0 m 0 ls [])) => key _ _ G) ?_
  clear G
  intro H locs G
  have hl : lv_has ls 3 [(0, .ref (g.2.2.2 28)), (1, .int v1), (2, .int v2)] := hl
  have hf28 : Cond.fieldLink RX11 28 (TX11 6).1 (TX11 6).2.1 (TX11 6).2.2.1 ∈ wsX11_falls := by decide +kernel
  have hf31 : Cond.fieldLink RX11 31 (TX11 7).1 (TX11 7).2.1 (TX11 7).2.2.1 ∈ wsX11_falls := by decide +kernel
  have hf34 : Cond.fieldLink RX11 34 (TX11 8).1 (TX11 8).2.1 (TX11 8).2.2.1 ∈ wsX11_falls := by decide +kernel
  refine lv_aload_n hx hb dX11_falls_0 rfl (lv_at hl 0 rfl) ?_
  refine rr_get X G 6 (by decide) hf28 (v := .ref (g.2.2.2 6)) rfl dX11_falls_1 ?_
  refine lv_iload_n hx hb dX11_falls_4 rfl (lv_at hl 1 rfl) ?_
  refine lv_bipush (v := -9) hx hb dX11_falls_5 (by decide) ?_
  obtain ⟨hi1, h2⟩ := pp_ix_ex h
  clear h
  obtain ⟨x3, ex3, h4⟩ := pp_lj_ex h2
  clear h2
  refine rr_iast X G ra_6 hi1 ex3 dX11_falls_7 (fun H locs G => ?_)
  refine lv_aload_n hx hb dX11_falls_8 rfl (lv_at hl 0 rfl) ?_
  refine rr_get X G 7 (by decide) hf31 (v := .ref (g.2.2.2 7)) rfl dX11_falls_9 ?_
  refine lv_iload_n hx hb dX11_falls_12 rfl (lv_at hl 1 rfl) ?_
  refine lv_iload_n hx hb dX11_falls_13 rfl (lv_at hl 2 rfl) ?_
  obtain ⟨x5, ex5, h6⟩ := pp_lj_ex h4
  clear h4
  refine rr_iast X G ra_7 hi1 ex5 dX11_falls_14 (fun H locs G => ?_)
  refine lv_aload_n hx hb dX11_falls_15 rfl (lv_at hl 0 rfl) ?_
  refine rr_get X G 8 (by decide) hf34 (v := .ref (g.2.2.2 8)) rfl dX11_falls_16 ?_
  refine lv_iload_n hx hb dX11_falls_19 rfl (lv_at hl 1 rfl) ?_
  refine lv_iconst (v := 0) hx hb dX11_falls_20 (by decide) ?_
  obtain ⟨x7, ex7, h8⟩ := pp_lj_ex h6
  clear h6
  refine rr_iast X G ra_8 hi1 ex7 dX11_falls_21 (fun H locs G => ?_)
  exact rr_vret X hr hlk G h8 hQ dX11_falls_22
noncomputable def R_goesOut (q : rr_S) (v1 : Int32) : Option rr_S := pp_lj (rr_I q 11 ((q.1 11) + (1 : Int32)) : rr_S) (fun x1 => pp_ix v1 8 (pp_lj (rr_A x1 5 (Int32.toNatClampNeg v1) (x1.1 11) : rr_S) (fun x5 => pp_it (fun (self7 : rr_S × Int32 → Option rr_S) (a7 : rr_S × Int32) => (if (6 : Int32) ≤ a7.2 then some a7.1 else pp_ix a7.2 6 (pp_lj (fun (a13 : rr_S) => (pp_lj (a7.2 + 1 : Int32) (fun x16 => self7 (a13, x16)) : Option rr_S)) (fun j13 => (if (a7.1.2.1 6 (Int32.toNatClampNeg a7.2)) = v1 then pp_ob (R_falls a7.1 a7.2 (a7.1.2.1 1 (Int32.toNatClampNeg v1))) (fun r21 => j13 r21) else j13 a7.1))))) 200 (x5, (0 : Int32)))))
abbrev rmX11_goesOut : Room := { frames := 1, cells := 0, slots := 0, locals := 22 }
set_option maxHeartbeats 4000000 in
set_option maxRecDepth 100000 in
theorem ctX11_goesOut (l : Launch) (g : rr_G) (q : rr_S) (v1 : Int32) {res : rr_S} (h : R_goesOut q v1 = some res) : rr_Mv l yX11_goesOut wsX11_goesOut rmX11_goesOut g q [.int v1] res := by
  intro sz
  unfold R_goesOut at h
  refine rr_ofW (by decide) rfl rfl (fun _ z => List.mem_cons_of_mem _ (List.mem_append_right _ z)) (Nat.le_of_ble_eq_true rfl) ?_
  intro p e s m args below meth c ls X hr hlk hsz G hl Q hQ
  subst hsz
  have hx := X.1.1
  have hb := X.1.2.1
  have hown := X.1.2.2.2.1
  have hts := X.1.2.2.2.2
  refine (fun (key : ∀ (H : Heap) (locs : List Loc), rr_H g q s H locs → W p l e (headSpec wsX11_goesOut rmX11_goesOut).room s m args below meth c H locs 0 0 Q (F0 m 0 ls [])) => key _ _ G) ?_
  clear G
  intro H locs G
  have hl : lv_has ls 3 [(0, .ref (g.2.2.2 28)), (1, .int v1)] := hl
  have hf13 : Cond.fieldLink RX11 13 (TX11 1).1 (TX11 1).2.1 (TX11 1).2.2.1 ∈ wsX11_goesOut := by decide +kernel
  have hf25 : Cond.fieldLink RX11 25 (TX11 5).1 (TX11 5).2.1 (TX11 5).2.2.1 ∈ wsX11_goesOut := by decide +kernel
  have hf28 : Cond.fieldLink RX11 28 (TX11 6).1 (TX11 6).2.1 (TX11 6).2.2.1 ∈ wsX11_goesOut := by decide +kernel
  have hf111 : Cond.fieldLink RX11 111 (TX11 11).1 (TX11 11).2.1 (TX11 11).2.2.1 ∈ wsX11_goesOut := by decide +kernel
  refine lv_aload_n hx hb dX11_goesOut_0 rfl (lv_at hl 0 rfl) ?_
  refine lv_dup hx hb dX11_goesOut_1 rfl ?_
  refine rr_get X G 11 (by decide) hf111 (v := .int (q.1 11)) rfl dX11_goesOut_2 ?_
  refine lv_iconst (v := 1) hx hb dX11_goesOut_5 (by decide) ?_
  refine lv_iadd hx hb dX11_goesOut_6 ?_
  obtain ⟨x1, ex1, h2⟩ := pp_lj_ex h
  clear h
  refine rr_put X G 11 (by decide) hf111 rfl (ty := .int) (by decide +kernel) rfl rfl (ri_11 g _ _) ex1 dX11_goesOut_7 (fun H locs G => ?_)
  refine lv_aload_n hx hb dX11_goesOut_10 rfl (lv_at hl 0 rfl) ?_
  refine rr_get X G 5 (by decide) hf25 (v := .ref (g.2.2.2 5)) rfl dX11_goesOut_11 ?_
  refine lv_iload_n hx hb dX11_goesOut_14 rfl (lv_at hl 1 rfl) ?_
  refine lv_aload_n hx hb dX11_goesOut_15 rfl (lv_at hl 0 rfl) ?_
  refine rr_get X G 11 (by decide) hf111 (v := .int (x1.1 11)) rfl dX11_goesOut_16 ?_
  obtain ⟨hi3, h4⟩ := pp_ix_ex h2
  clear h2
  obtain ⟨x5, ex5, h6⟩ := pp_lj_ex h4
  clear h4
  refine rr_iast X G ra_5 hi3 ex5 dX11_goesOut_19 (fun H locs G => ?_)
  refine lv_iconst (v := 0) hx hb dX11_goesOut_20 (by decide) ?_
  refine lv_istore_n (lv' := [(2, .int (0 : Int32)), (0, .ref (g.2.2.2 28)), (1, .int v1)]) hx hb dX11_goesOut_21 rfl hl (by decide) rfl (fun ls hl => ?_)
  refine pp_loop (I := fun (a7 : rr_S × Int32) => ∀ (H : Heap) (locs : List Loc) (ls : Array Slot), rr_H g a7.1 s H locs → lv_has ls 3 [(0, .ref (g.2.2.2 28)), (1, .int v1), (2, .int a7.2)] → W p l e (headSpec wsX11_goesOut rmX11_goesOut).room s m args below meth c H locs 0 0 Q (F0 m 22 ls [])) ?_ 200 _ h6 H locs ls G (lv_sub hl [1, 2, 0] rfl)
  clear h6
  intro self7 ih7 a7 h7 H locs ls G hl
  refine lv_iload_n hx hb dX11_goesOut_22 rfl (lv_at hl 2 rfl) ?_
  refine lv_bipush (v := 6) hx hb dX11_goesOut_23 (by decide) ?_
  refine lv_icmp_ge (tgt := 55) hx hb dX11_goesOut_25 (by decide) (fun c8 => ?_) (fun c8 => ?_)
  · have h9 := pp_t c8 h7
    clear h7
    exact rr_vret X hr hlk G h9 hQ dX11_goesOut_55
  · have h10 := pp_f c8 h7
    clear h7
    refine lv_aload_n hx hb dX11_goesOut_28 rfl (lv_at hl 0 rfl) ?_
    refine rr_get X G 6 (by decide) hf28 (v := .ref (g.2.2.2 6)) rfl dX11_goesOut_29 ?_
    refine lv_iload_n hx hb dX11_goesOut_32 rfl (lv_at hl 2 rfl) ?_
    obtain ⟨hi11, h12⟩ := pp_ix_ex h10
    clear h10
    refine rr_iald X G ra_6 hi11 dX11_goesOut_33 ?_
    refine lv_iload_n hx hb dX11_goesOut_34 rfl (lv_at hl 1 rfl) ?_
    obtain ⟨j13, ej13, h14⟩ := pp_lj_ex h12
    clear h12
    have hj13 : ∀ (a13 : rr_S) (H : Heap) (locs : List Loc) (ls : Array Slot), j13 a13 = some res → rr_H g a13 s H locs → lv_has ls 3 [(0, .ref (g.2.2.2 28)), (1, .int v1), (2, .int a7.2)] → W p l e (headSpec wsX11_goesOut rmX11_goesOut).room s m args below meth c H locs 0 0 Q (F0 m 49 ls []) := by
      intro a13 H locs ls h G hl
      have h15 := pp_jmp ej13 h
      clear h h14
      obtain ⟨x16, ex16, h17⟩ := pp_lj_ex h15
      clear h15
      refine lv_iinc (v := x16) (lv' := [(2, .int x16), (0, .ref (g.2.2.2 28)), (1, .int v1)]) hx hb dX11_goesOut_49 hl (k := 2) rfl (by rw [ex16]; rfl) (by decide) rfl (fun ls hl => ?_)
      refine lv_goto (tgt := 22) hx hb dX11_goesOut_52 (by decide) ?_
      exact ih7 _ h17 H locs ls G (lv_sub hl [1, 2, 0] rfl)
    refine lv_icmp_ne (tgt := 49) hx hb dX11_goesOut_35 (by decide) (fun c18 => ?_) (fun c18 => ?_)
    · have h19 := pp_f c18 h14
      clear h14
      exact hj13 _ H locs ls h19 G hl
    · have h20 := pp_t c18 h14
      clear h14
      refine lv_aload_n hx hb dX11_goesOut_38 rfl (lv_at hl 0 rfl) ?_
      refine lv_iload_n hx hb dX11_goesOut_39 rfl (lv_at hl 2 rfl) ?_
      refine lv_aload_n hx hb dX11_goesOut_40 rfl (lv_at hl 0 rfl) ?_
      refine rr_get X G 1 (by decide) hf13 (v := .ref (g.2.2.2 1)) rfl dX11_goesOut_41 ?_
      refine lv_iload_n hx hb dX11_goesOut_44 rfl (lv_at hl 1 rfl) ?_
      refine rr_iald X G ra_1 hi3 dX11_goesOut_45 ?_
      obtain ⟨r21, hc21, h22⟩ := pp_ob_ex h20
      clear h20
      refine rr_calv X G (ctX11_falls l g _ _ _ hc21) (cwV 2 hts gX11_goesOut_X11_falls rfl rfl rfl (by decide +kernel) ⟨Nat.le_of_ble_eq_true rfl, Nat.le_of_ble_eq_true rfl⟩) (rest := []) rfl hl.1 rfl (Nat.le_of_ble_eq_true rfl) dX11_goesOut_46 (fun H locs G => ?_)
      exact hj13 _ H locs ls h22 G hl
noncomputable def R_comesPlayer (q : rr_S) (v1 : Int32) : Option (Int32 × rr_S) := pp_ix v1 160 ((if (1 : Int32) < (q.2.1 15 (Int32.toNatClampNeg v1)) then some ((0 : Int32), q) else (if (q.1 9) = (8 : Int32) then some ((0 : Int32), q) else pp_ix (q.1 9) 8 (pp_lj (rr_A q 1 (Int32.toNatClampNeg (q.1 9)) (q.2.1 15 (Int32.toNatClampNeg v1)) : rr_S) (fun x10 => pp_ix (v1 + (1 : Int32)) 160 (pp_ix (x10.1 9) 8 (pp_lj (rr_A x10 2 (Int32.toNatClampNeg (x10.1 9)) (x10.2.1 15 (Int32.toNatClampNeg (v1 + (1 : Int32)))) : rr_S) (fun x16 => pp_ix (v1 + (2 : Int32)) 160 (pp_ix (x16.1 9) 8 (pp_lj (rr_A x16 3 (Int32.toNatClampNeg (x16.1 9)) (x16.2.1 15 (Int32.toNatClampNeg (v1 + (2 : Int32)))) : rr_S) (fun x22 => pp_ix (v1 + (3 : Int32)) 160 (pp_ix (x22.1 9) 8 (pp_lj (rr_A x22 4 (Int32.toNatClampNeg (x22.1 9)) (x22.2.1 15 (Int32.toNatClampNeg (v1 + (3 : Int32)))) : rr_S) (fun x28 => pp_ix (x28.1 9) 8 (pp_lj (rr_A x28 5 (Int32.toNatClampNeg (x28.1 9)) (0 : Int32) : rr_S) (fun x32 => pp_lj (rr_I x32 9 ((x32.1 9) + (1 : Int32)) : rr_S) (fun x34 => some ((1 : Int32), x34))))))))))))))))))
abbrev rmX11_comesPlayer : Room := { frames := 0, cells := 0, slots := 0, locals := 0 }
set_option maxHeartbeats 4000000 in
set_option maxRecDepth 100000 in
theorem ctX11_comesPlayer (l : Launch) (g : rr_G) (q : rr_S) (v1 : Int32) {res : (Int32 × rr_S)} (h : R_comesPlayer q v1 = some res) : rr_Mi l yX11_comesPlayer wsX11_comesPlayer rmX11_comesPlayer g q [.int v1] res := by
  intro sz
  unfold R_comesPlayer at h
  refine rr_ofW (by decide) rfl rfl (fun _ z => List.mem_cons_of_mem _ (List.mem_append_right _ z)) (Nat.le_of_ble_eq_true rfl) ?_
  intro p e s m args below meth c ls X hr hlk hsz G hl Q hQ
  subst hsz
  have hx := X.1.1
  have hb := X.1.2.1
  have hown := X.1.2.2.2.1
  have hts := X.1.2.2.2.2
  refine (fun (key : ∀ (H : Heap) (locs : List Loc), rr_H g q s H locs → W p l e (headSpec wsX11_comesPlayer rmX11_comesPlayer).room s m args below meth c H locs 0 0 Q (F0 m 0 ls [])) => key _ _ G) ?_
  clear G
  intro H locs G
  have hl : lv_has ls 2 [(0, .ref (g.2.2.2 28)), (1, .int v1)] := hl
  have hf13 : Cond.fieldLink RX11 13 (TX11 1).1 (TX11 1).2.1 (TX11 1).2.2.1 ∈ wsX11_comesPlayer := by decide +kernel
  have hf16 : Cond.fieldLink RX11 16 (TX11 2).1 (TX11 2).2.1 (TX11 2).2.2.1 ∈ wsX11_comesPlayer := by decide +kernel
  have hf19 : Cond.fieldLink RX11 19 (TX11 3).1 (TX11 3).2.1 (TX11 3).2.2.1 ∈ wsX11_comesPlayer := by decide +kernel
  have hf22 : Cond.fieldLink RX11 22 (TX11 4).1 (TX11 4).2.1 (TX11 4).2.2.1 ∈ wsX11_comesPlayer := by decide +kernel
  have hf25 : Cond.fieldLink RX11 25 (TX11 5).1 (TX11 5).2.1 (TX11 5).2.2.1 ∈ wsX11_comesPlayer := by decide +kernel
  have hf46 : Cond.fieldLink RX11 46 (TX11 15).1 (TX11 15).2.1 (TX11 15).2.2.1 ∈ wsX11_comesPlayer := by decide +kernel
  have hf65 : Cond.fieldLink RX11 65 (TX11 9).1 (TX11 9).2.1 (TX11 9).2.2.1 ∈ wsX11_comesPlayer := by decide +kernel
  refine lv_aload_n hx hb dX11_comesPlayer_0 rfl (lv_at hl 0 rfl) ?_
  refine rr_get X G 15 (by decide) hf46 (v := .ref (g.2.2.2 15)) rfl dX11_comesPlayer_1 ?_
  refine lv_iload_n hx hb dX11_comesPlayer_4 rfl (lv_at hl 1 rfl) ?_
  obtain ⟨hi1, h2⟩ := pp_ix_ex h
  clear h
  refine rr_iald X G ra_15 hi1 dX11_comesPlayer_5 ?_
  refine lv_iconst (v := 1) hx hb dX11_comesPlayer_6 (by decide) ?_
  refine lv_icmp_gt (tgt := 19) hx hb dX11_comesPlayer_7 (by decide) (fun c3 => ?_) (fun c3 => ?_)
  · have h4 := pp_t c3 h2
    clear h2
    refine lv_iconst (v := 0) hx hb dX11_comesPlayer_19 (by decide) ?_
    exact rr_iret X hr hlk rfl G h4 hQ dX11_comesPlayer_20
  · have h5 := pp_f c3 h2
    clear h2
    refine lv_aload_n hx hb dX11_comesPlayer_10 rfl (lv_at hl 0 rfl) ?_
    refine rr_get X G 9 (by decide) hf65 (v := .int (q.1 9)) rfl dX11_comesPlayer_11 ?_
    refine lv_bipush (v := 8) hx hb dX11_comesPlayer_14 (by decide) ?_
    refine lv_icmp_ne (tgt := 21) hx hb dX11_comesPlayer_16 (by decide) (fun c6 => ?_) (fun c6 => ?_)
    · have h7 := pp_f c6 h5
      clear h5
      refine lv_aload_n hx hb dX11_comesPlayer_21 rfl (lv_at hl 0 rfl) ?_
      refine rr_get X G 1 (by decide) hf13 (v := .ref (g.2.2.2 1)) rfl dX11_comesPlayer_22 ?_
      refine lv_aload_n hx hb dX11_comesPlayer_25 rfl (lv_at hl 0 rfl) ?_
      refine rr_get X G 9 (by decide) hf65 (v := .int (q.1 9)) rfl dX11_comesPlayer_26 ?_
      refine lv_aload_n hx hb dX11_comesPlayer_29 rfl (lv_at hl 0 rfl) ?_
      refine rr_get X G 15 (by decide) hf46 (v := .ref (g.2.2.2 15)) rfl dX11_comesPlayer_30 ?_
      refine lv_iload_n hx hb dX11_comesPlayer_33 rfl (lv_at hl 1 rfl) ?_
      refine rr_iald X G ra_15 hi1 dX11_comesPlayer_34 ?_
      obtain ⟨hi8, h9⟩ := pp_ix_ex h7
      clear h7
      obtain ⟨x10, ex10, h11⟩ := pp_lj_ex h9
      clear h9
      refine rr_iast X G ra_1 hi8 ex10 dX11_comesPlayer_35 (fun H locs G => ?_)
      refine lv_aload_n hx hb dX11_comesPlayer_36 rfl (lv_at hl 0 rfl) ?_
      refine rr_get X G 2 (by decide) hf16 (v := .ref (g.2.2.2 2)) rfl dX11_comesPlayer_37 ?_
      refine lv_aload_n hx hb dX11_comesPlayer_40 rfl (lv_at hl 0 rfl) ?_
      refine rr_get X G 9 (by decide) hf65 (v := .int (x10.1 9)) rfl dX11_comesPlayer_41 ?_
      refine lv_aload_n hx hb dX11_comesPlayer_44 rfl (lv_at hl 0 rfl) ?_
      refine rr_get X G 15 (by decide) hf46 (v := .ref (g.2.2.2 15)) rfl dX11_comesPlayer_45 ?_
      refine lv_iload_n hx hb dX11_comesPlayer_48 rfl (lv_at hl 1 rfl) ?_
      refine lv_iconst (v := 1) hx hb dX11_comesPlayer_49 (by decide) ?_
      refine lv_iadd hx hb dX11_comesPlayer_50 ?_
      obtain ⟨hi12, h13⟩ := pp_ix_ex h11
      clear h11
      refine rr_iald X G ra_15 hi12 dX11_comesPlayer_51 ?_
      obtain ⟨hi14, h15⟩ := pp_ix_ex h13
      clear h13
      obtain ⟨x16, ex16, h17⟩ := pp_lj_ex h15
      clear h15
      refine rr_iast X G ra_2 hi14 ex16 dX11_comesPlayer_52 (fun H locs G => ?_)
      refine lv_aload_n hx hb dX11_comesPlayer_53 rfl (lv_at hl 0 rfl) ?_
      refine rr_get X G 3 (by decide) hf19 (v := .ref (g.2.2.2 3)) rfl dX11_comesPlayer_54 ?_
      refine lv_aload_n hx hb dX11_comesPlayer_57 rfl (lv_at hl 0 rfl) ?_
      refine rr_get X G 9 (by decide) hf65 (v := .int (x16.1 9)) rfl dX11_comesPlayer_58 ?_
      refine lv_aload_n hx hb dX11_comesPlayer_61 rfl (lv_at hl 0 rfl) ?_
      refine rr_get X G 15 (by decide) hf46 (v := .ref (g.2.2.2 15)) rfl dX11_comesPlayer_62 ?_
      refine lv_iload_n hx hb dX11_comesPlayer_65 rfl (lv_at hl 1 rfl) ?_
      refine lv_iconst (v := 2) hx hb dX11_comesPlayer_66 (by decide) ?_
      refine lv_iadd hx hb dX11_comesPlayer_67 ?_
      obtain ⟨hi18, h19⟩ := pp_ix_ex h17
      clear h17
      refine rr_iald X G ra_15 hi18 dX11_comesPlayer_68 ?_
      obtain ⟨hi20, h21⟩ := pp_ix_ex h19
      clear h19
      obtain ⟨x22, ex22, h23⟩ := pp_lj_ex h21
      clear h21
      refine rr_iast X G ra_3 hi20 ex22 dX11_comesPlayer_69 (fun H locs G => ?_)
      refine lv_aload_n hx hb dX11_comesPlayer_70 rfl (lv_at hl 0 rfl) ?_
      refine rr_get X G 4 (by decide) hf22 (v := .ref (g.2.2.2 4)) rfl dX11_comesPlayer_71 ?_
      refine lv_aload_n hx hb dX11_comesPlayer_74 rfl (lv_at hl 0 rfl) ?_
      refine rr_get X G 9 (by decide) hf65 (v := .int (x22.1 9)) rfl dX11_comesPlayer_75 ?_
      refine lv_aload_n hx hb dX11_comesPlayer_78 rfl (lv_at hl 0 rfl) ?_
      refine rr_get X G 15 (by decide) hf46 (v := .ref (g.2.2.2 15)) rfl dX11_comesPlayer_79 ?_
      refine lv_iload_n hx hb dX11_comesPlayer_82 rfl (lv_at hl 1 rfl) ?_
      refine lv_iconst (v := 3) hx hb dX11_comesPlayer_83 (by decide) ?_
      refine lv_iadd hx hb dX11_comesPlayer_84 ?_
      obtain ⟨hi24, h25⟩ := pp_ix_ex h23
      clear h23
      refine rr_iald X G ra_15 hi24 dX11_comesPlayer_85 ?_
      obtain ⟨hi26, h27⟩ := pp_ix_ex h25
      clear h25
      obtain ⟨x28, ex28, h29⟩ := pp_lj_ex h27
      clear h27
      refine rr_iast X G ra_4 hi26 ex28 dX11_comesPlayer_86 (fun H locs G => ?_)
      refine lv_aload_n hx hb dX11_comesPlayer_87 rfl (lv_at hl 0 rfl) ?_
      refine rr_get X G 5 (by decide) hf25 (v := .ref (g.2.2.2 5)) rfl dX11_comesPlayer_88 ?_
      refine lv_aload_n hx hb dX11_comesPlayer_91 rfl (lv_at hl 0 rfl) ?_
      refine rr_get X G 9 (by decide) hf65 (v := .int (x28.1 9)) rfl dX11_comesPlayer_92 ?_
      refine lv_iconst (v := 0) hx hb dX11_comesPlayer_95 (by decide) ?_
      obtain ⟨hi30, h31⟩ := pp_ix_ex h29
      clear h29
      obtain ⟨x32, ex32, h33⟩ := pp_lj_ex h31
      clear h31
      refine rr_iast X G ra_5 hi30 ex32 dX11_comesPlayer_96 (fun H locs G => ?_)
      refine lv_aload_n hx hb dX11_comesPlayer_97 rfl (lv_at hl 0 rfl) ?_
      refine lv_dup hx hb dX11_comesPlayer_98 rfl ?_
      refine rr_get X G 9 (by decide) hf65 (v := .int (x32.1 9)) rfl dX11_comesPlayer_99 ?_
      refine lv_iconst (v := 1) hx hb dX11_comesPlayer_102 (by decide) ?_
      refine lv_iadd hx hb dX11_comesPlayer_103 ?_
      obtain ⟨x34, ex34, h35⟩ := pp_lj_ex h33
      clear h33
      refine rr_put X G 9 (by decide) hf65 rfl (ty := .int) (by decide +kernel) rfl rfl (ri_9 g _ _) ex34 dX11_comesPlayer_104 (fun H locs G => ?_)
      refine lv_iconst (v := 1) hx hb dX11_comesPlayer_107 (by decide) ?_
      exact rr_iret X hr hlk rfl G h35 hQ dX11_comesPlayer_108
    · have h36 := pp_t c6 h5
      clear h5
      refine lv_iconst (v := 0) hx hb dX11_comesPlayer_19 (by decide) ?_
      exact rr_iret X hr hlk rfl G h36 hQ dX11_comesPlayer_20
noncomputable def R_comes (q : rr_S) (v1 : Int32) : Option (Int32 × rr_S) := pp_lj (((4 : Int32) * v1) : Int32) (fun x1 => pp_ix x1 160 (pp_lj ((q.2.1 15 (Int32.toNatClampNeg x1)) : Int32) (fun x5 => pp_ix (x1 + (1 : Int32)) 160 (pp_lj ((q.2.1 15 (Int32.toNatClampNeg (x1 + (1 : Int32)))) : Int32) (fun x9 => pp_ix v1 40 ((if (q.2.1 13 (Int32.toNatClampNeg v1)) = (98 : Int32) then pp_ob (R_isBall x5) (fun r16 => (if r16 = (0 : Int32) then some ((0 : Int32), q) else pp_ob (R_isHere q x9) (fun r21 => (if r21 = (0 : Int32) then some ((0 : Int32), q) else pp_ix x5 6 (pp_lj (fun (a28 : Unit) => (pp_ob (R_isHeld q x5 x9) (fun r31 => some ((1 : Int32), r31)) : Option (Int32 × rr_S))) (fun j28 => (if (q.2.1 6 (Int32.toNatClampNeg x5)) = x9 then j28 () else pp_ob (R_holds q x9) (fun r36 => pp_ob (R_bits r36) (fun r38 => (if r38 ≤ (1 : Int32) then j28 () else some ((0 : Int32), q))))))))))) else (if (q.2.1 13 (Int32.toNatClampNeg v1)) = (103 : Int32) then pp_ob (R_isBall x5) (fun r46 => (if r46 = (0 : Int32) then some ((0 : Int32), q) else (if x9 ≤ (1 : Int32) then pp_ob (R_falls q x5 x9) (fun r53 => some ((1 : Int32), r53)) else some ((0 : Int32), q)))) else (if (q.2.1 13 (Int32.toNatClampNeg v1)) = (112 : Int32) then pp_ob (R_comesPlayer q x1) (fun r59 => pp_bz r59.1 (some (r59.1, r59.2))) else pp_ob (R_isHere q x5) (fun r63 => (if r63 = (0 : Int32) then some ((0 : Int32), q) else pp_ob (R_goesOut q x5) (fun r67 => some ((1 : Int32), r67)))))))))))))
abbrev rmX11_comes : Room := { frames := 2, cells := 0, slots := 0, locals := 44 }
set_option maxHeartbeats 4000000 in
set_option maxRecDepth 100000 in
theorem ctX11_comes (l : Launch) (g : rr_G) (q : rr_S) (v1 : Int32) {res : (Int32 × rr_S)} (h : R_comes q v1 = some res) : rr_Mi l yX11_comes wsX11_comes rmX11_comes g q [.int v1] res := by
  intro sz
  unfold R_comes at h
  refine rr_ofW (by decide) rfl rfl (fun _ z => List.mem_cons_of_mem _ (List.mem_append_right _ z)) (Nat.le_of_ble_eq_true rfl) ?_
  intro p e s m args below meth c ls X hr hlk hsz G hl Q hQ
  subst hsz
  have hx := X.1.1
  have hb := X.1.2.1
  have hown := X.1.2.2.2.1
  have hts := X.1.2.2.2.2
  refine (fun (key : ∀ (H : Heap) (locs : List Loc), rr_H g q s H locs → W p l e (headSpec wsX11_comes rmX11_comes).room s m args below meth c H locs 0 0 Q (F0 m 0 ls [])) => key _ _ G) ?_
  clear G
  intro H locs G
  have hl : lv_has ls 5 [(0, .ref (g.2.2.2 28)), (1, .int v1)] := hl
  have hf28 : Cond.fieldLink RX11 28 (TX11 6).1 (TX11 6).2.1 (TX11 6).2.2.1 ∈ wsX11_comes := by decide +kernel
  have hf40 : Cond.fieldLink RX11 40 (TX11 13).1 (TX11 13).2.1 (TX11 13).2.2.1 ∈ wsX11_comes := by decide +kernel
  have hf46 : Cond.fieldLink RX11 46 (TX11 15).1 (TX11 15).2.1 (TX11 15).2.2.1 ∈ wsX11_comes := by decide +kernel
  refine lv_iconst (v := 4) hx hb dX11_comes_0 (by decide) ?_
  refine lv_iload_n hx hb dX11_comes_1 rfl (lv_at hl 1 rfl) ?_
  refine lv_imul hx hb dX11_comes_2 ?_
  obtain ⟨x1, ex1, h2⟩ := pp_lj_ex h
  clear h
  refine lv_nmi ex1 ?_
  refine lv_istore_n (lv' := [(2, .int x1), (0, .ref (g.2.2.2 28)), (1, .int v1)]) hx hb dX11_comes_3 rfl hl (by decide) rfl (fun ls hl => ?_)
  refine lv_aload_n hx hb dX11_comes_4 rfl (lv_at hl 1 rfl) ?_
  refine rr_get X G 15 (by decide) hf46 (v := .ref (g.2.2.2 15)) rfl dX11_comes_5 ?_
  refine lv_iload_n hx hb dX11_comes_8 rfl (lv_at hl 0 rfl) ?_
  obtain ⟨hi3, h4⟩ := pp_ix_ex h2
  clear h2
  refine rr_iald X G ra_15 hi3 dX11_comes_9 ?_
  obtain ⟨x5, ex5, h6⟩ := pp_lj_ex h4
  clear h4
  refine lv_nmi ex5 ?_
  refine lv_istore_n (lv' := [(3, .int x5), (2, .int x1), (0, .ref (g.2.2.2 28)), (1, .int v1)]) hx hb dX11_comes_10 rfl hl (by decide) rfl (fun ls hl => ?_)
  refine lv_aload_n hx hb dX11_comes_11 rfl (lv_at hl 2 rfl) ?_
  refine rr_get X G 15 (by decide) hf46 (v := .ref (g.2.2.2 15)) rfl dX11_comes_12 ?_
  refine lv_iload_n hx hb dX11_comes_15 rfl (lv_at hl 1 rfl) ?_
  refine lv_iconst (v := 1) hx hb dX11_comes_16 (by decide) ?_
  refine lv_iadd hx hb dX11_comes_17 ?_
  obtain ⟨hi7, h8⟩ := pp_ix_ex h6
  clear h6
  refine rr_iald X G ra_15 hi7 dX11_comes_18 ?_
  obtain ⟨x9, ex9, h10⟩ := pp_lj_ex h8
  clear h8
  refine lv_nmi ex9 ?_
  refine lv_istore (lv' := [(4, .int x9), (3, .int x5), (2, .int x1), (0, .ref (g.2.2.2 28)), (1, .int v1)]) hx hb dX11_comes_19 hl (by decide) rfl (fun ls hl => ?_)
  refine lv_aload_n hx hb dX11_comes_21 rfl (lv_at hl 3 rfl) ?_
  refine rr_get X G 13 (by decide) hf40 (v := .ref (g.2.2.2 13)) rfl dX11_comes_22 ?_
  refine lv_iload_n hx hb dX11_comes_25 rfl (lv_at hl 4 rfl) ?_
  obtain ⟨hi11, h12⟩ := pp_ix_ex h10
  clear h10
  refine rr_iald X G ra_13 hi11 dX11_comes_26 ?_
  by_cases c13 : (q.2.1 13 (Int32.toNatClampNeg v1)) = (98 : Int32)
  · have h14 := pp_t c13 h12
    clear h12
    refine lv_lookup (off := 39) (tgt := 66) hx hb dX11_comes_27 (by decide) (by rw [c13]; decide) (by decide) ?_
    refine lv_iload_n hx hb dX11_comes_66 rfl (lv_at hl 1 rfl) ?_
    obtain ⟨r16, hc16, h17⟩ := pp_ob_ex h14
    clear h14
    refine rr_csi X G (ctX11_isBall l _ hc16) (va_cwS 1 hts gX11_comes_X11_isBall rfl rfl rfl (by decide +kernel) ⟨Nat.le_of_ble_eq_true rfl, Nat.le_of_ble_eq_true rfl⟩) (rest := []) rfl hl.1 rfl (Nat.le_of_ble_eq_true rfl) dX11_comes_67 (fun H locs G => ?_)
    refine lv_if_eq (tgt := 106) hx hb dX11_comes_70 (by decide) (fun c18 => ?_) (fun c18 => ?_)
    · have h19 := pp_t c18 h17
      clear h17
      refine lv_iconst (v := 0) hx hb dX11_comes_106 (by decide) ?_
      exact rr_iret X hr hlk rfl G h19 hQ dX11_comes_107
    · have h20 := pp_f c18 h17
      clear h17
      refine lv_aload_n hx hb dX11_comes_73 rfl (lv_at hl 3 rfl) ?_
      refine lv_iload hx hb dX11_comes_74 (lv_at hl 0 rfl) ?_
      obtain ⟨r21, hc21, h22⟩ := pp_ob_ex h20
      clear h20
      refine rr_cali X G (ctX11_isHere l g _ _ hc21) (cwV 1 hts gX11_comes_X11_isHere rfl rfl rfl (by decide +kernel) ⟨Nat.le_of_ble_eq_true rfl, Nat.le_of_ble_eq_true rfl⟩) (rest := []) rfl hl.1 rfl (Nat.le_of_ble_eq_true rfl) dX11_comes_76 (fun H locs G => ?_)
      refine lv_if_eq (tgt := 106) hx hb dX11_comes_79 (by decide) (fun c23 => ?_) (fun c23 => ?_)
      · have h24 := pp_t c23 h22
        clear h22
        refine lv_iconst (v := 0) hx hb dX11_comes_106 (by decide) ?_
        exact rr_iret X hr hlk rfl G h24 hQ dX11_comes_107
      · have h25 := pp_f c23 h22
        clear h22
        refine lv_aload_n hx hb dX11_comes_82 rfl (lv_at hl 3 rfl) ?_
        refine rr_get X G 6 (by decide) hf28 (v := .ref (g.2.2.2 6)) rfl dX11_comes_83 ?_
        refine lv_iload_n hx hb dX11_comes_86 rfl (lv_at hl 1 rfl) ?_
        obtain ⟨hi26, h27⟩ := pp_ix_ex h25
        clear h25
        refine rr_iald X G ra_6 hi26 dX11_comes_87 ?_
        refine lv_iload hx hb dX11_comes_88 (lv_at hl 0 rfl) ?_
        obtain ⟨j28, ej28, h29⟩ := pp_lj_ex h27
        clear h27
        have hj28 : ∀ (a28 : Unit) (H : Heap) (locs : List Loc) (ls : Array Slot), j28 a28 = some res → rr_H g q s H locs → lv_has ls 5 [(0, .ref (g.2.2.2 28)), (3, .int x5), (4, .int x9)] → W p l e (headSpec wsX11_comes rmX11_comes).room s m args below meth c H locs 0 0 Q (F0 m 108 ls []) := by
          intro a28 H locs ls h G hl
          have h30 := pp_jmp ej28 h
          clear h h29
          refine lv_aload_n hx hb dX11_comes_108 rfl (lv_at hl 0 rfl) ?_
          refine lv_iload_n hx hb dX11_comes_109 rfl (lv_at hl 1 rfl) ?_
          refine lv_iload hx hb dX11_comes_110 (lv_at hl 2 rfl) ?_
          obtain ⟨r31, hc31, h32⟩ := pp_ob_ex h30
          clear h30
          refine rr_calv X G (ctX11_isHeld l g _ _ _ hc31) (cwV 2 hts gX11_comes_X11_isHeld rfl rfl rfl (by decide +kernel) ⟨Nat.le_of_ble_eq_true rfl, Nat.le_of_ble_eq_true rfl⟩) (rest := []) rfl hl.1 rfl (Nat.le_of_ble_eq_true rfl) dX11_comes_112 (fun H locs G => ?_)
          refine lv_iconst (v := 1) hx hb dX11_comes_115 (by decide) ?_
          exact rr_iret X hr hlk rfl G h32 hQ dX11_comes_116
        refine lv_icmp_eq (tgt := 108) hx hb dX11_comes_90 (by decide) (fun c33 => ?_) (fun c33 => ?_)
        · have h34 := pp_t c33 h29
          clear h29
          exact hj28 _ H locs ls h34 G (lv_sub hl [3, 1, 0] rfl)
        · have h35 := pp_f c33 h29
          clear h29
          refine lv_aload_n hx hb dX11_comes_93 rfl (lv_at hl 3 rfl) ?_
          refine lv_iload hx hb dX11_comes_94 (lv_at hl 0 rfl) ?_
          obtain ⟨r36, hc36, h37⟩ := pp_ob_ex h35
          clear h35
          refine rr_cali X G (ctX11_holds l g _ _ hc36) (cwV 1 hts gX11_comes_X11_holds rfl rfl rfl (by decide +kernel) ⟨Nat.le_of_ble_eq_true rfl, Nat.le_of_ble_eq_true rfl⟩) (rest := []) rfl hl.1 rfl (Nat.le_of_ble_eq_true rfl) dX11_comes_96 (fun H locs G => ?_)
          obtain ⟨r38, hc38, h39⟩ := pp_ob_ex h37
          clear h37
          refine rr_csi X G (ctX11_bits l _ hc38) (va_cwS 1 hts gX11_comes_X11_bits rfl rfl rfl (by decide +kernel) ⟨Nat.le_of_ble_eq_true rfl, Nat.le_of_ble_eq_true rfl⟩) (rest := []) rfl hl.1 rfl (Nat.le_of_ble_eq_true rfl) dX11_comes_99 (fun H locs G => ?_)
          refine lv_iconst (v := 1) hx hb dX11_comes_102 (by decide) ?_
          refine lv_icmp_le (tgt := 108) hx hb dX11_comes_103 (by decide) (fun c40 => ?_) (fun c40 => ?_)
          · have h41 := pp_t c40 h39
            clear h39
            exact hj28 _ H locs ls h41 G (lv_sub hl [3, 1, 0] rfl)
          · have h42 := pp_f c40 h39
            clear h39
            refine lv_iconst (v := 0) hx hb dX11_comes_106 (by decide) ?_
            exact rr_iret X hr hlk rfl G h42 hQ dX11_comes_107
  have h15 := pp_f c13 h12
  clear h12
  by_cases c43 : (q.2.1 13 (Int32.toNatClampNeg v1)) = (103 : Int32)
  · have h44 := pp_t c43 h15
    clear h15
    refine lv_lookup (off := 90) (tgt := 117) hx hb dX11_comes_27 (by decide) (by rw [c43]; decide) (by decide) ?_
    refine lv_iload_n hx hb dX11_comes_117 rfl (lv_at hl 1 rfl) ?_
    obtain ⟨r46, hc46, h47⟩ := pp_ob_ex h44
    clear h44
    refine rr_csi X G (ctX11_isBall l _ hc46) (va_cwS 1 hts gX11_comes_X11_isBall rfl rfl rfl (by decide +kernel) ⟨Nat.le_of_ble_eq_true rfl, Nat.le_of_ble_eq_true rfl⟩) (rest := []) rfl hl.1 rfl (Nat.le_of_ble_eq_true rfl) dX11_comes_118 (fun H locs G => ?_)
    refine lv_if_eq (tgt := 130) hx hb dX11_comes_121 (by decide) (fun c48 => ?_) (fun c48 => ?_)
    · have h49 := pp_t c48 h47
      clear h47
      refine lv_iconst (v := 0) hx hb dX11_comes_130 (by decide) ?_
      exact rr_iret X hr hlk rfl G h49 hQ dX11_comes_131
    · have h50 := pp_f c48 h47
      clear h47
      refine lv_iload hx hb dX11_comes_124 (lv_at hl 0 rfl) ?_
      refine lv_iconst (v := 1) hx hb dX11_comes_126 (by decide) ?_
      refine lv_icmp_le (tgt := 132) hx hb dX11_comes_127 (by decide) (fun c51 => ?_) (fun c51 => ?_)
      · have h52 := pp_t c51 h50
        clear h50
        refine lv_aload_n hx hb dX11_comes_132 rfl (lv_at hl 3 rfl) ?_
        refine lv_iload_n hx hb dX11_comes_133 rfl (lv_at hl 1 rfl) ?_
        refine lv_iload hx hb dX11_comes_134 (lv_at hl 0 rfl) ?_
        obtain ⟨r53, hc53, h54⟩ := pp_ob_ex h52
        clear h52
        refine rr_calv X G (ctX11_falls l g _ _ _ hc53) (cwV 2 hts gX11_comes_X11_falls rfl rfl rfl (by decide +kernel) ⟨Nat.le_of_ble_eq_true rfl, Nat.le_of_ble_eq_true rfl⟩) (rest := []) rfl hl.1 rfl (Nat.le_of_ble_eq_true rfl) dX11_comes_136 (fun H locs G => ?_)
        refine lv_iconst (v := 1) hx hb dX11_comes_139 (by decide) ?_
        exact rr_iret X hr hlk rfl G h54 hQ dX11_comes_140
      · have h55 := pp_f c51 h50
        clear h50
        refine lv_iconst (v := 0) hx hb dX11_comes_130 (by decide) ?_
        exact rr_iret X hr hlk rfl G h55 hQ dX11_comes_131
  have h45 := pp_f c43 h15
  clear h15
  by_cases c56 : (q.2.1 13 (Int32.toNatClampNeg v1)) = (112 : Int32)
  · have h57 := pp_t c56 h45
    clear h45
    refine lv_lookup (off := 33) (tgt := 60) hx hb dX11_comes_27 (by decide) (by rw [c56]; decide) (by decide) ?_
    refine lv_aload_n hx hb dX11_comes_60 rfl (lv_at hl 3 rfl) ?_
    refine lv_iload_n hx hb dX11_comes_61 rfl (lv_at hl 2 rfl) ?_
    obtain ⟨r59, hc59, h60⟩ := pp_ob_ex h57
    clear h57
    refine rr_cali X G (ctX11_comesPlayer l g _ _ hc59) (cwV 1 hts gX11_comes_X11_comesPlayer rfl rfl rfl (by decide +kernel) ⟨Nat.le_of_ble_eq_true rfl, Nat.le_of_ble_eq_true rfl⟩) (rest := []) rfl hl.1 rfl (Nat.le_of_ble_eq_true rfl) dX11_comes_62 (fun H locs G => ?_)
    obtain ⟨hz61, h62⟩ := pp_bz_ex h60
    clear h60
    exact rr_iret X hr hlk hz61.1 G h62 hQ dX11_comes_65
  have h58 := pp_f c56 h45
  clear h45
  refine lv_lookup (off := 114) (tgt := 141) hx hb dX11_comes_27 (by decide) ((lv_osw c13 (by decide)).trans ((lv_osw c43 (by decide)).trans ((lv_osw c56 (by decide)).trans (rfl)))) (by decide) ?_
  refine lv_aload_n hx hb dX11_comes_141 rfl (lv_at hl 3 rfl) ?_
  refine lv_iload_n hx hb dX11_comes_142 rfl (lv_at hl 1 rfl) ?_
  obtain ⟨r63, hc63, h64⟩ := pp_ob_ex h58
  clear h58
  refine rr_cali X G (ctX11_isHere l g _ _ hc63) (cwV 1 hts gX11_comes_X11_isHere rfl rfl rfl (by decide +kernel) ⟨Nat.le_of_ble_eq_true rfl, Nat.le_of_ble_eq_true rfl⟩) (rest := []) rfl hl.1 rfl (Nat.le_of_ble_eq_true rfl) dX11_comes_143 (fun H locs G => ?_)
  refine lv_if_ne (tgt := 151) hx hb dX11_comes_146 (by decide) (fun c65 => ?_) (fun c65 => ?_)
  · have h66 := pp_f c65 h64
    clear h64
    refine lv_aload_n hx hb dX11_comes_151 rfl (lv_at hl 3 rfl) ?_
    refine lv_iload_n hx hb dX11_comes_152 rfl (lv_at hl 1 rfl) ?_
    obtain ⟨r67, hc67, h68⟩ := pp_ob_ex h66
    clear h66
    refine rr_calv X G (ctX11_goesOut l g _ _ hc67) (cwV 1 hts gX11_comes_X11_goesOut rfl rfl rfl (by decide +kernel) ⟨Nat.le_of_ble_eq_true rfl, Nat.le_of_ble_eq_true rfl⟩) (rest := []) rfl hl.1 rfl (Nat.le_of_ble_eq_true rfl) dX11_comes_153 (fun H locs G => ?_)
    refine lv_iconst (v := 1) hx hb dX11_comes_156 (by decide) ?_
    exact rr_iret X hr hlk rfl G h68 hQ dX11_comes_157
  · have h69 := pp_t c65 h64
    clear h64
    refine lv_iconst (v := 0) hx hb dX11_comes_149 (by decide) ?_
    exact rr_iret X hr hlk rfl G h69 hQ dX11_comes_150
noncomputable def R_passOne (q : rr_S) (v1 : Int32) : Option (Int32 × rr_S) := pp_lj (fun (a1 : Int32) => (pp_lj (fun (a4 : rr_S) => (pp_lj (rr_I a4 22 ((a4.1 22) + (1 : Int32)) : rr_S) (fun x7 => some (a1, x7)) : Option (Int32 × rr_S))) (fun j4 => (if (q.1 21) = (0 : Int32) then j4 q else pp_ix (q.1 22) 130 (pp_lj (rr_A q 19 (Int32.toNatClampNeg (q.1 22)) v1 : rr_S) (fun x14 => j4 x14)))) : Option (Int32 × rr_S))) (fun j1 => (if (q.1 21) = (0 : Int32) then pp_ix (q.1 22) 130 (j1 (q.2.1 19 (Int32.toNatClampNeg (q.1 22)))) else j1 v1))
abbrev rmX11_passOne : Room := { frames := 0, cells := 0, slots := 0, locals := 0 }
set_option maxHeartbeats 4000000 in
set_option maxRecDepth 100000 in
theorem ctX11_passOne (l : Launch) (g : rr_G) (q : rr_S) (v1 : Int32) {res : (Int32 × rr_S)} (h : R_passOne q v1 = some res) : rr_Mi l yX11_passOne wsX11_passOne rmX11_passOne g q [.int v1] res := by
  intro sz
  unfold R_passOne at h
  refine rr_ofW (by decide) rfl rfl (fun _ z => List.mem_cons_of_mem _ (List.mem_append_right _ z)) (Nat.le_of_ble_eq_true rfl) ?_
  intro p e s m args below meth c ls X hr hlk hsz G hl Q hQ
  subst hsz
  have hx := X.1.1
  have hb := X.1.2.1
  have hown := X.1.2.2.2.1
  have hts := X.1.2.2.2.2
  refine (fun (key : ∀ (H : Heap) (locs : List Loc), rr_H g q s H locs → W p l e (headSpec wsX11_passOne rmX11_passOne).room s m args below meth c H locs 0 0 Q (F0 m 0 ls [])) => key _ _ G) ?_
  clear G
  intro H locs G
  have hl : lv_has ls 3 [(0, .ref (g.2.2.2 28)), (1, .int v1)] := hl
  have hf49 : Cond.fieldLink RX11 49 (TX11 19).1 (TX11 19).2.1 (TX11 19).2.2.1 ∈ wsX11_passOne := by decide +kernel
  have hf151 : Cond.fieldLink RX11 151 (TX11 21).1 (TX11 21).2.1 (TX11 21).2.2.1 ∈ wsX11_passOne := by decide +kernel
  have hf155 : Cond.fieldLink RX11 155 (TX11 22).1 (TX11 22).2.1 (TX11 22).2.2.1 ∈ wsX11_passOne := by decide +kernel
  refine lv_aload_n hx hb dX11_passOne_0 rfl (lv_at hl 0 rfl) ?_
  refine rr_get X G 21 (by decide) hf151 (v := .int (q.1 21)) rfl dX11_passOne_1 ?_
  obtain ⟨j1, ej1, h2⟩ := pp_lj_ex h
  clear h
  have hj1 : ∀ (a1 : Int32) (H : Heap) (locs : List Loc) (ls : Array Slot), j1 a1 = some res → rr_H g q s H locs → lv_has ls 3 [(0, .ref (g.2.2.2 28)), (1, .int v1)] → W p l e (headSpec wsX11_passOne rmX11_passOne).room s m args below meth c H locs 0 0 Q (F0 m 20 ls [.int a1]) := by
    intro a1 H locs ls h G hl
    have h3 := pp_jmp ej1 h
    clear h h2
    refine lv_istore_n (lv' := [(2, .int a1), (0, .ref (g.2.2.2 28)), (1, .int v1)]) hx hb dX11_passOne_20 rfl hl (by decide) rfl (fun ls hl => ?_)
    refine lv_aload_n hx hb dX11_passOne_21 rfl (lv_at hl 1 rfl) ?_
    refine rr_get X G 21 (by decide) hf151 (v := .int (q.1 21)) rfl dX11_passOne_22 ?_
    obtain ⟨j4, ej4, h5⟩ := pp_lj_ex h3
    clear h3
    have hj4 : ∀ (a4 : rr_S) (H : Heap) (locs : List Loc) (ls : Array Slot), j4 a4 = some res → rr_H g a4 s H locs → lv_has ls 3 [(0, .ref (g.2.2.2 28)), (2, .int a1)] → W p l e (headSpec wsX11_passOne rmX11_passOne).room s m args below meth c H locs 0 0 Q (F0 m 38 ls []) := by
      intro a4 H locs ls h G hl
      have h6 := pp_jmp ej4 h
      clear h h5
      refine lv_aload_n hx hb dX11_passOne_38 rfl (lv_at hl 0 rfl) ?_
      refine lv_dup hx hb dX11_passOne_39 rfl ?_
      refine rr_get X G 22 (by decide) hf155 (v := .int (a4.1 22)) rfl dX11_passOne_40 ?_
      refine lv_iconst (v := 1) hx hb dX11_passOne_43 (by decide) ?_
      refine lv_iadd hx hb dX11_passOne_44 ?_
      obtain ⟨x7, ex7, h8⟩ := pp_lj_ex h6
      clear h6
      refine rr_put X G 22 (by decide) hf155 rfl (ty := .int) (by decide +kernel) rfl rfl (ri_22 g _ _) ex7 dX11_passOne_45 (fun H locs G => ?_)
      refine lv_iload_n hx hb dX11_passOne_48 rfl (lv_at hl 1 rfl) ?_
      exact rr_iret X hr hlk rfl G h8 hQ dX11_passOne_49
    refine lv_if_eq (tgt := 38) hx hb dX11_passOne_25 (by decide) (fun c9 => ?_) (fun c9 => ?_)
    · have h10 := pp_t c9 h5
      clear h5
      exact hj4 _ H locs ls h10 G (lv_sub hl [1, 0] rfl)
    · have h11 := pp_f c9 h5
      clear h5
      refine lv_aload_n hx hb dX11_passOne_28 rfl (lv_at hl 1 rfl) ?_
      refine rr_get X G 19 (by decide) hf49 (v := .ref (g.2.2.2 19)) rfl dX11_passOne_29 ?_
      refine lv_aload_n hx hb dX11_passOne_32 rfl (lv_at hl 1 rfl) ?_
      refine rr_get X G 22 (by decide) hf155 (v := .int (q.1 22)) rfl dX11_passOne_33 ?_
      refine lv_iload_n hx hb dX11_passOne_36 rfl (lv_at hl 2 rfl) ?_
      obtain ⟨hi12, h13⟩ := pp_ix_ex h11
      clear h11
      obtain ⟨x14, ex14, h15⟩ := pp_lj_ex h13
      clear h13
      refine rr_iast X G ra_19 hi12 ex14 dX11_passOne_37 (fun H locs G => ?_)
      exact hj4 _ H locs ls h15 G (lv_sub hl [1, 0] rfl)
  refine lv_if_eq (tgt := 11) hx hb dX11_passOne_4 (by decide) (fun c16 => ?_) (fun c16 => ?_)
  · have h17 := pp_t c16 h2
    clear h2
    refine lv_aload_n hx hb dX11_passOne_11 rfl (lv_at hl 0 rfl) ?_
    refine rr_get X G 19 (by decide) hf49 (v := .ref (g.2.2.2 19)) rfl dX11_passOne_12 ?_
    refine lv_aload_n hx hb dX11_passOne_15 rfl (lv_at hl 0 rfl) ?_
    refine rr_get X G 22 (by decide) hf155 (v := .int (q.1 22)) rfl dX11_passOne_16 ?_
    obtain ⟨hi18, h19⟩ := pp_ix_ex h17
    clear h17
    refine rr_iald X G ra_19 hi18 dX11_passOne_19 ?_
    exact hj1 _ H locs ls h19 G hl
  · have h20 := pp_f c16 h2
    clear h2
    refine lv_iload_n hx hb dX11_passOne_7 rfl (lv_at hl 1 rfl) ?_
    refine lv_goto (tgt := 20) hx hb dX11_passOne_8 (by decide) ?_
    exact hj1 _ H locs ls h20 G hl
noncomputable def R_passes (q : rr_S) (k1 n1 : Nat) : Option rr_S := pp_it (fun (self1 : rr_S × Int32 → Option rr_S) (a1 : rr_S × Int32) => (if (Int32.ofNat n1) ≤ a1.2 then some a1.1 else pp_lj (fun (a5 : rr_S) => (pp_lj (rr_I a5 22 ((a5.1 22) + (1 : Int32)) : rr_S) (fun x8 => pp_lj (a1.2 + 1 : Int32) (fun x10 => self1 (x8, x10))) : Option rr_S)) (fun j5 => (if (a1.1.1 21) = (0 : Int32) then pp_ix (a1.1.1 22) 130 (pp_ix a1.2 n1 (pp_lj (rr_A a1.1 k1 (Int32.toNatClampNeg a1.2) (a1.1.2.1 19 (Int32.toNatClampNeg (a1.1.1 22))) : rr_S) (fun x18 => j5 x18))) else pp_ix a1.2 n1 (pp_ix (a1.1.1 22) 130 (pp_lj (rr_A a1.1 19 (Int32.toNatClampNeg (a1.1.1 22)) (a1.1.2.1 k1 (Int32.toNatClampNeg a1.2)) : rr_S) (fun x25 => j5 x25))))))) 200 (q, (0 : Int32))
abbrev rmX11_passes : Room := { frames := 0, cells := 0, slots := 0, locals := 0 }
set_option maxHeartbeats 4000000 in
set_option maxRecDepth 100000 in
theorem ctX11_passes (l : Launch) (g : rr_G) (q : rr_S) (k1 n1 : Nat) {pl1 : Nat} (ha1 : rr_Ai pl1 k1 n1) {res : rr_S} (h : R_passes q k1 n1 = some res) : rr_Mv l yX11_passes wsX11_passes rmX11_passes g q [.ref (g.2.2.2 k1)] res := by
  intro sz
  unfold R_passes at h
  refine rr_ofW (by decide) rfl rfl (fun _ z => List.mem_cons_of_mem _ (List.mem_append_right _ z)) (Nat.le_of_ble_eq_true rfl) ?_
  intro p e s m args below meth c ls X hr hlk hsz G hl Q hQ
  subst hsz
  have hx := X.1.1
  have hb := X.1.2.1
  have hown := X.1.2.2.2.1
  have hts := X.1.2.2.2.2
  refine (fun (key : ∀ (H : Heap) (locs : List Loc), rr_H g q s H locs → W p l e (headSpec wsX11_passes rmX11_passes).room s m args below meth c H locs 0 0 Q (F0 m 0 ls [])) => key _ _ G) ?_
  clear G
  intro H locs G
  have hl : lv_has ls 3 [(0, .ref (g.2.2.2 28)), (1, .ref (g.2.2.2 k1))] := hl
  have hf49 : Cond.fieldLink RX11 49 (TX11 19).1 (TX11 19).2.1 (TX11 19).2.2.1 ∈ wsX11_passes := by decide +kernel
  have hf151 : Cond.fieldLink RX11 151 (TX11 21).1 (TX11 21).2.1 (TX11 21).2.2.1 ∈ wsX11_passes := by decide +kernel
  have hf155 : Cond.fieldLink RX11 155 (TX11 22).1 (TX11 22).2.1 (TX11 22).2.2.1 ∈ wsX11_passes := by decide +kernel
  refine lv_iconst (v := 0) hx hb dX11_passes_0 (by decide) ?_
  refine lv_istore_n (lv' := [(2, .int (0 : Int32)), (0, .ref (g.2.2.2 28)), (1, .ref (g.2.2.2 k1))]) hx hb dX11_passes_1 rfl hl (by decide) rfl (fun ls hl => ?_)
  refine pp_loop (I := fun (a1 : rr_S × Int32) => ∀ (H : Heap) (locs : List Loc) (ls : Array Slot), rr_H g a1.1 s H locs → lv_has ls 3 [(0, .ref (g.2.2.2 28)), (1, .ref (g.2.2.2 k1)), (2, .int a1.2)] → W p l e (headSpec wsX11_passes rmX11_passes).room s m args below meth c H locs 0 0 Q (F0 m 2 ls [])) ?_ 200 _ h H locs ls G (lv_sub hl [1, 2, 0] rfl)
  clear h
  intro self1 ih1 a1 h1 H locs ls G hl
  refine lv_iload_n hx hb dX11_passes_2 rfl (lv_at hl 2 rfl) ?_
  refine lv_aload_n hx hb dX11_passes_3 rfl (lv_at hl 1 rfl) ?_
  refine rr_alen X G ha1 rfl dX11_passes_4 ?_
  refine lv_icmp_ge (tgt := 58) hx hb dX11_passes_5 (by decide) (fun c2 => ?_) (fun c2 => ?_)
  · have h3 := pp_t c2 h1
    clear h1
    exact rr_vret X hr hlk G h3 hQ dX11_passes_58
  · have h4 := pp_f c2 h1
    clear h1
    refine lv_aload_n hx hb dX11_passes_8 rfl (lv_at hl 0 rfl) ?_
    refine rr_get X G 21 (by decide) hf151 (v := .int (a1.1.1 21)) rfl dX11_passes_9 ?_
    obtain ⟨j5, ej5, h6⟩ := pp_lj_ex h4
    clear h4
    have hj5 : ∀ (a5 : rr_S) (H : Heap) (locs : List Loc) (ls : Array Slot), j5 a5 = some res → rr_H g a5 s H locs → lv_has ls 3 [(0, .ref (g.2.2.2 28)), (1, .ref (g.2.2.2 k1)), (2, .int a1.2)] → W p l e (headSpec wsX11_passes rmX11_passes).room s m args below meth c H locs 0 0 Q (F0 m 42 ls []) := by
      intro a5 H locs ls h G hl
      have h7 := pp_jmp ej5 h
      clear h h6
      refine lv_aload_n hx hb dX11_passes_42 rfl (lv_at hl 0 rfl) ?_
      refine lv_dup hx hb dX11_passes_43 rfl ?_
      refine rr_get X G 22 (by decide) hf155 (v := .int (a5.1 22)) rfl dX11_passes_44 ?_
      refine lv_iconst (v := 1) hx hb dX11_passes_47 (by decide) ?_
      refine lv_iadd hx hb dX11_passes_48 ?_
      obtain ⟨x8, ex8, h9⟩ := pp_lj_ex h7
      clear h7
      refine rr_put X G 22 (by decide) hf155 rfl (ty := .int) (by decide +kernel) rfl rfl (ri_22 g _ _) ex8 dX11_passes_49 (fun H locs G => ?_)
      obtain ⟨x10, ex10, h11⟩ := pp_lj_ex h9
      clear h9
      refine lv_iinc (v := x10) (lv' := [(2, .int x10), (0, .ref (g.2.2.2 28)), (1, .ref (g.2.2.2 k1))]) hx hb dX11_passes_52 hl (k := 2) rfl (by rw [ex10]; rfl) (by decide) rfl (fun ls hl => ?_)
      refine lv_goto (tgt := 2) hx hb dX11_passes_55 (by decide) ?_
      exact ih1 _ h11 H locs ls G (lv_sub hl [1, 2, 0] rfl)
    refine lv_if_eq (tgt := 30) hx hb dX11_passes_12 (by decide) (fun c12 => ?_) (fun c12 => ?_)
    · have h13 := pp_t c12 h6
      clear h6
      refine lv_aload_n hx hb dX11_passes_30 rfl (lv_at hl 1 rfl) ?_
      refine lv_iload_n hx hb dX11_passes_31 rfl (lv_at hl 2 rfl) ?_
      refine lv_aload_n hx hb dX11_passes_32 rfl (lv_at hl 0 rfl) ?_
      refine rr_get X G 19 (by decide) hf49 (v := .ref (g.2.2.2 19)) rfl dX11_passes_33 ?_
      refine lv_aload_n hx hb dX11_passes_36 rfl (lv_at hl 0 rfl) ?_
      refine rr_get X G 22 (by decide) hf155 (v := .int (a1.1.1 22)) rfl dX11_passes_37 ?_
      obtain ⟨hi14, h15⟩ := pp_ix_ex h13
      clear h13
      refine rr_iald X G ra_19 hi14 dX11_passes_40 ?_
      obtain ⟨hi16, h17⟩ := pp_ix_ex h15
      clear h15
      obtain ⟨x18, ex18, h19⟩ := pp_lj_ex h17
      clear h17
      refine rr_iast X G ha1 hi16 ex18 dX11_passes_41 (fun H locs G => ?_)
      exact hj5 _ H locs ls h19 G hl
    · have h20 := pp_f c12 h6
      clear h6
      refine lv_aload_n hx hb dX11_passes_15 rfl (lv_at hl 0 rfl) ?_
      refine rr_get X G 19 (by decide) hf49 (v := .ref (g.2.2.2 19)) rfl dX11_passes_16 ?_
      refine lv_aload_n hx hb dX11_passes_19 rfl (lv_at hl 0 rfl) ?_
      refine rr_get X G 22 (by decide) hf155 (v := .int (a1.1.1 22)) rfl dX11_passes_20 ?_
      refine lv_aload_n hx hb dX11_passes_23 rfl (lv_at hl 1 rfl) ?_
      refine lv_iload_n hx hb dX11_passes_24 rfl (lv_at hl 2 rfl) ?_
      obtain ⟨hi21, h22⟩ := pp_ix_ex h20
      clear h20
      refine rr_iald X G ha1 hi21 dX11_passes_25 ?_
      obtain ⟨hi23, h24⟩ := pp_ix_ex h22
      clear h22
      obtain ⟨x25, ex25, h26⟩ := pp_lj_ex h24
      clear h24
      refine rr_iast X G ra_19 hi23 ex25 dX11_passes_26 (fun H locs G => ?_)
      refine lv_goto (tgt := 42) hx hb dX11_passes_27 (by decide) ?_
      exact hj5 _ H locs ls h26 G hl
noncomputable def R_passesAll (q : rr_S) (v1 : Int32) (v2 : Int32) : Option rr_S := pp_lj (rr_I q 22 ((65 : Int32) * v1) : rr_S) (fun x1 => pp_bz v2 (pp_lj (rr_I x1 21 v2 : rr_S) (fun x5 => pp_ob (R_passes x5 1 8) (fun r7 => pp_ob (R_passes r7 2 8) (fun r9 => pp_ob (R_passes r9 3 8) (fun r11 => pp_ob (R_passes r11 4 8) (fun r13 => pp_ob (R_passes r13 5 8) (fun r15 => pp_ob (R_passes r15 6 6) (fun r17 => pp_ob (R_passes r17 7 6) (fun r19 => pp_ob (R_passes r19 8 6) (fun r21 => pp_ob (R_passOne r21 (r21.1 9)) (fun r23 => pp_lj (rr_I r23.2 9 r23.1 : rr_S) (fun x25 => pp_ob (R_passOne x25 (x25.1 10)) (fun r27 => pp_lj (rr_I r27.2 10 r27.1 : rr_S) (fun x29 => pp_ob (R_passOne x29 (x29.1 11)) (fun r31 => pp_lj (rr_I r31.2 11 r31.1 : rr_S) (fun x33 => some x33)))))))))))))))))
abbrev rmX11_passesAll : Room := { frames := 1, cells := 0, slots := 0, locals := 22 }
set_option maxHeartbeats 4000000 in
set_option maxRecDepth 100000 in
theorem ctX11_passesAll (l : Launch) (g : rr_G) (q : rr_S) (v1 : Int32) (v2 : Int32) {res : rr_S} (h : R_passesAll q v1 v2 = some res) : rr_Mv l yX11_passesAll wsX11_passesAll rmX11_passesAll g q [.int v1, .int v2] res := by
  intro sz
  unfold R_passesAll at h
  refine rr_ofW (by decide) rfl rfl (fun _ z => List.mem_cons_of_mem _ (List.mem_append_right _ z)) (Nat.le_of_ble_eq_true rfl) ?_
  intro p e s m args below meth c ls X hr hlk hsz G hl Q hQ
  subst hsz
  have hx := X.1.1
  have hb := X.1.2.1
  have hown := X.1.2.2.2.1
  have hts := X.1.2.2.2.2
  refine (fun (key : ∀ (H : Heap) (locs : List Loc), rr_H g q s H locs → W p l e (headSpec wsX11_passesAll rmX11_passesAll).room s m args below meth c H locs 0 0 Q (F0 m 0 ls [])) => key _ _ G) ?_
  clear G
  intro H locs G
  have hl : lv_has ls 3 [(0, .ref (g.2.2.2 28)), (1, .int v1), (2, .int v2)] := hl
  have hf13 : Cond.fieldLink RX11 13 (TX11 1).1 (TX11 1).2.1 (TX11 1).2.2.1 ∈ wsX11_passesAll := by decide +kernel
  have hf16 : Cond.fieldLink RX11 16 (TX11 2).1 (TX11 2).2.1 (TX11 2).2.2.1 ∈ wsX11_passesAll := by decide +kernel
  have hf19 : Cond.fieldLink RX11 19 (TX11 3).1 (TX11 3).2.1 (TX11 3).2.2.1 ∈ wsX11_passesAll := by decide +kernel
  have hf22 : Cond.fieldLink RX11 22 (TX11 4).1 (TX11 4).2.1 (TX11 4).2.2.1 ∈ wsX11_passesAll := by decide +kernel
  have hf25 : Cond.fieldLink RX11 25 (TX11 5).1 (TX11 5).2.1 (TX11 5).2.2.1 ∈ wsX11_passesAll := by decide +kernel
  have hf28 : Cond.fieldLink RX11 28 (TX11 6).1 (TX11 6).2.1 (TX11 6).2.2.1 ∈ wsX11_passesAll := by decide +kernel
  have hf31 : Cond.fieldLink RX11 31 (TX11 7).1 (TX11 7).2.1 (TX11 7).2.2.1 ∈ wsX11_passesAll := by decide +kernel
  have hf34 : Cond.fieldLink RX11 34 (TX11 8).1 (TX11 8).2.1 (TX11 8).2.2.1 ∈ wsX11_passesAll := by decide +kernel
  have hf65 : Cond.fieldLink RX11 65 (TX11 9).1 (TX11 9).2.1 (TX11 9).2.2.1 ∈ wsX11_passesAll := by decide +kernel
  have hf111 : Cond.fieldLink RX11 111 (TX11 11).1 (TX11 11).2.1 (TX11 11).2.2.1 ∈ wsX11_passesAll := by decide +kernel
  have hf151 : Cond.fieldLink RX11 151 (TX11 21).1 (TX11 21).2.1 (TX11 21).2.2.1 ∈ wsX11_passesAll := by decide +kernel
  have hf155 : Cond.fieldLink RX11 155 (TX11 22).1 (TX11 22).2.1 (TX11 22).2.2.1 ∈ wsX11_passesAll := by decide +kernel
  have hf165 : Cond.fieldLink RX11 165 (TX11 10).1 (TX11 10).2.1 (TX11 10).2.2.1 ∈ wsX11_passesAll := by decide +kernel
  refine lv_aload_n hx hb dX11_passesAll_0 rfl (lv_at hl 0 rfl) ?_
  refine lv_bipush (v := 65) hx hb dX11_passesAll_1 (by decide) ?_
  refine lv_iload_n hx hb dX11_passesAll_3 rfl (lv_at hl 1 rfl) ?_
  refine lv_imul hx hb dX11_passesAll_4 ?_
  obtain ⟨x1, ex1, h2⟩ := pp_lj_ex h
  clear h
  refine rr_put X G 22 (by decide) hf155 rfl (ty := .int) (by decide +kernel) rfl rfl (ri_22 g _ _) ex1 dX11_passesAll_5 (fun H locs G => ?_)
  refine lv_aload_n hx hb dX11_passesAll_8 rfl (lv_at hl 0 rfl) ?_
  refine lv_iload_n hx hb dX11_passesAll_9 rfl (lv_at hl 2 rfl) ?_
  obtain ⟨hz3, h4⟩ := pp_bz_ex h2
  clear h2
  obtain ⟨x5, ex5, h6⟩ := pp_lj_ex h4
  clear h4
  refine rr_put X G 21 (by decide) hf151 rfl (ty := .boolean) (by decide +kernel) hz3.1 hz3.2 (ri_21 g _ _) ex5 dX11_passesAll_10 (fun H locs G => ?_)
  refine lv_aload_n hx hb dX11_passesAll_13 rfl (lv_at hl 0 rfl) ?_
  refine lv_aload_n hx hb dX11_passesAll_14 rfl (lv_at hl 0 rfl) ?_
  refine rr_get X G 1 (by decide) hf13 (v := .ref (g.2.2.2 1)) rfl dX11_passesAll_15 ?_
  obtain ⟨r7, hc7, h8⟩ := pp_ob_ex h6
  clear h6
  refine rr_calv X G (ctX11_passes l g _ _ _ ra_1 hc7) (cwV 1 hts gX11_passesAll_X11_passes rfl rfl rfl (by decide +kernel) ⟨Nat.le_of_ble_eq_true rfl, Nat.le_of_ble_eq_true rfl⟩) (rest := []) rfl hl.1 rfl (Nat.le_of_ble_eq_true rfl) dX11_passesAll_18 (fun H locs G => ?_)
  refine lv_aload_n hx hb dX11_passesAll_21 rfl (lv_at hl 0 rfl) ?_
  refine lv_aload_n hx hb dX11_passesAll_22 rfl (lv_at hl 0 rfl) ?_
  refine rr_get X G 2 (by decide) hf16 (v := .ref (g.2.2.2 2)) rfl dX11_passesAll_23 ?_
  obtain ⟨r9, hc9, h10⟩ := pp_ob_ex h8
  clear h8
  refine rr_calv X G (ctX11_passes l g _ _ _ ra_2 hc9) (cwV 1 hts gX11_passesAll_X11_passes rfl rfl rfl (by decide +kernel) ⟨Nat.le_of_ble_eq_true rfl, Nat.le_of_ble_eq_true rfl⟩) (rest := []) rfl hl.1 rfl (Nat.le_of_ble_eq_true rfl) dX11_passesAll_26 (fun H locs G => ?_)
  refine lv_aload_n hx hb dX11_passesAll_29 rfl (lv_at hl 0 rfl) ?_
  refine lv_aload_n hx hb dX11_passesAll_30 rfl (lv_at hl 0 rfl) ?_
  refine rr_get X G 3 (by decide) hf19 (v := .ref (g.2.2.2 3)) rfl dX11_passesAll_31 ?_
  obtain ⟨r11, hc11, h12⟩ := pp_ob_ex h10
  clear h10
  refine rr_calv X G (ctX11_passes l g _ _ _ ra_3 hc11) (cwV 1 hts gX11_passesAll_X11_passes rfl rfl rfl (by decide +kernel) ⟨Nat.le_of_ble_eq_true rfl, Nat.le_of_ble_eq_true rfl⟩) (rest := []) rfl hl.1 rfl (Nat.le_of_ble_eq_true rfl) dX11_passesAll_34 (fun H locs G => ?_)
  refine lv_aload_n hx hb dX11_passesAll_37 rfl (lv_at hl 0 rfl) ?_
  refine lv_aload_n hx hb dX11_passesAll_38 rfl (lv_at hl 0 rfl) ?_
  refine rr_get X G 4 (by decide) hf22 (v := .ref (g.2.2.2 4)) rfl dX11_passesAll_39 ?_
  obtain ⟨r13, hc13, h14⟩ := pp_ob_ex h12
  clear h12
  refine rr_calv X G (ctX11_passes l g _ _ _ ra_4 hc13) (cwV 1 hts gX11_passesAll_X11_passes rfl rfl rfl (by decide +kernel) ⟨Nat.le_of_ble_eq_true rfl, Nat.le_of_ble_eq_true rfl⟩) (rest := []) rfl hl.1 rfl (Nat.le_of_ble_eq_true rfl) dX11_passesAll_42 (fun H locs G => ?_)
  refine lv_aload_n hx hb dX11_passesAll_45 rfl (lv_at hl 0 rfl) ?_
  refine lv_aload_n hx hb dX11_passesAll_46 rfl (lv_at hl 0 rfl) ?_
  refine rr_get X G 5 (by decide) hf25 (v := .ref (g.2.2.2 5)) rfl dX11_passesAll_47 ?_
  obtain ⟨r15, hc15, h16⟩ := pp_ob_ex h14
  clear h14
  refine rr_calv X G (ctX11_passes l g _ _ _ ra_5 hc15) (cwV 1 hts gX11_passesAll_X11_passes rfl rfl rfl (by decide +kernel) ⟨Nat.le_of_ble_eq_true rfl, Nat.le_of_ble_eq_true rfl⟩) (rest := []) rfl hl.1 rfl (Nat.le_of_ble_eq_true rfl) dX11_passesAll_50 (fun H locs G => ?_)
  refine lv_aload_n hx hb dX11_passesAll_53 rfl (lv_at hl 0 rfl) ?_
  refine lv_aload_n hx hb dX11_passesAll_54 rfl (lv_at hl 0 rfl) ?_
  refine rr_get X G 6 (by decide) hf28 (v := .ref (g.2.2.2 6)) rfl dX11_passesAll_55 ?_
  obtain ⟨r17, hc17, h18⟩ := pp_ob_ex h16
  clear h16
  refine rr_calv X G (ctX11_passes l g _ _ _ ra_6 hc17) (cwV 1 hts gX11_passesAll_X11_passes rfl rfl rfl (by decide +kernel) ⟨Nat.le_of_ble_eq_true rfl, Nat.le_of_ble_eq_true rfl⟩) (rest := []) rfl hl.1 rfl (Nat.le_of_ble_eq_true rfl) dX11_passesAll_58 (fun H locs G => ?_)
  refine lv_aload_n hx hb dX11_passesAll_61 rfl (lv_at hl 0 rfl) ?_
  refine lv_aload_n hx hb dX11_passesAll_62 rfl (lv_at hl 0 rfl) ?_
  refine rr_get X G 7 (by decide) hf31 (v := .ref (g.2.2.2 7)) rfl dX11_passesAll_63 ?_
  obtain ⟨r19, hc19, h20⟩ := pp_ob_ex h18
  clear h18
  refine rr_calv X G (ctX11_passes l g _ _ _ ra_7 hc19) (cwV 1 hts gX11_passesAll_X11_passes rfl rfl rfl (by decide +kernel) ⟨Nat.le_of_ble_eq_true rfl, Nat.le_of_ble_eq_true rfl⟩) (rest := []) rfl hl.1 rfl (Nat.le_of_ble_eq_true rfl) dX11_passesAll_66 (fun H locs G => ?_)
  refine lv_aload_n hx hb dX11_passesAll_69 rfl (lv_at hl 0 rfl) ?_
  refine lv_aload_n hx hb dX11_passesAll_70 rfl (lv_at hl 0 rfl) ?_
  refine rr_get X G 8 (by decide) hf34 (v := .ref (g.2.2.2 8)) rfl dX11_passesAll_71 ?_
  obtain ⟨r21, hc21, h22⟩ := pp_ob_ex h20
  clear h20
  refine rr_calv X G (ctX11_passes l g _ _ _ ra_8 hc21) (cwV 1 hts gX11_passesAll_X11_passes rfl rfl rfl (by decide +kernel) ⟨Nat.le_of_ble_eq_true rfl, Nat.le_of_ble_eq_true rfl⟩) (rest := []) rfl hl.1 rfl (Nat.le_of_ble_eq_true rfl) dX11_passesAll_74 (fun H locs G => ?_)
  refine lv_aload_n hx hb dX11_passesAll_77 rfl (lv_at hl 0 rfl) ?_
  refine lv_aload_n hx hb dX11_passesAll_78 rfl (lv_at hl 0 rfl) ?_
  refine lv_aload_n hx hb dX11_passesAll_79 rfl (lv_at hl 0 rfl) ?_
  refine rr_get X G 9 (by decide) hf65 (v := .int (r21.1 9)) rfl dX11_passesAll_80 ?_
  obtain ⟨r23, hc23, h24⟩ := pp_ob_ex h22
  clear h22
  refine rr_cali X G (ctX11_passOne l g _ _ hc23) (cwV 1 hts gX11_passesAll_X11_passOne rfl rfl rfl (by decide +kernel) ⟨Nat.le_of_ble_eq_true rfl, Nat.le_of_ble_eq_true rfl⟩) (rest := [.ref (g.2.2.2 28)]) rfl hl.1 rfl (Nat.le_of_ble_eq_true rfl) dX11_passesAll_83 (fun H locs G => ?_)
  obtain ⟨x25, ex25, h26⟩ := pp_lj_ex h24
  clear h24
  refine rr_put X G 9 (by decide) hf65 rfl (ty := .int) (by decide +kernel) rfl rfl (ri_9 g _ _) ex25 dX11_passesAll_86 (fun H locs G => ?_)
  refine lv_aload_n hx hb dX11_passesAll_89 rfl (lv_at hl 0 rfl) ?_
  refine lv_aload_n hx hb dX11_passesAll_90 rfl (lv_at hl 0 rfl) ?_
  refine lv_aload_n hx hb dX11_passesAll_91 rfl (lv_at hl 0 rfl) ?_
  refine rr_get X G 10 (by decide) hf165 (v := .int (x25.1 10)) rfl dX11_passesAll_92 ?_
  obtain ⟨r27, hc27, h28⟩ := pp_ob_ex h26
  clear h26
  refine rr_cali X G (ctX11_passOne l g _ _ hc27) (cwV 1 hts gX11_passesAll_X11_passOne rfl rfl rfl (by decide +kernel) ⟨Nat.le_of_ble_eq_true rfl, Nat.le_of_ble_eq_true rfl⟩) (rest := [.ref (g.2.2.2 28)]) rfl hl.1 rfl (Nat.le_of_ble_eq_true rfl) dX11_passesAll_95 (fun H locs G => ?_)
  obtain ⟨x29, ex29, h30⟩ := pp_lj_ex h28
  clear h28
  refine rr_put X G 10 (by decide) hf165 rfl (ty := .int) (by decide +kernel) rfl rfl (ri_10 g _ _) ex29 dX11_passesAll_98 (fun H locs G => ?_)
  refine lv_aload_n hx hb dX11_passesAll_101 rfl (lv_at hl 0 rfl) ?_
  refine lv_aload_n hx hb dX11_passesAll_102 rfl (lv_at hl 0 rfl) ?_
  refine lv_aload_n hx hb dX11_passesAll_103 rfl (lv_at hl 0 rfl) ?_
  refine rr_get X G 11 (by decide) hf111 (v := .int (x29.1 11)) rfl dX11_passesAll_104 ?_
  obtain ⟨r31, hc31, h32⟩ := pp_ob_ex h30
  clear h30
  refine rr_cali X G (ctX11_passOne l g _ _ hc31) (cwV 1 hts gX11_passesAll_X11_passOne rfl rfl rfl (by decide +kernel) ⟨Nat.le_of_ble_eq_true rfl, Nat.le_of_ble_eq_true rfl⟩) (rest := [.ref (g.2.2.2 28)]) rfl hl.1 rfl (Nat.le_of_ble_eq_true rfl) dX11_passesAll_107 (fun H locs G => ?_)
  obtain ⟨x33, ex33, h34⟩ := pp_lj_ex h32
  clear h32
  refine rr_put X G 11 (by decide) hf111 rfl (ty := .int) (by decide +kernel) rfl rfl (ri_11 g _ _) ex33 dX11_passesAll_110 (fun H locs G => ?_)
  exact rr_vret X hr hlk G h34 hQ dX11_passesAll_113
noncomputable def R_hall (q : rr_S) : Option (Int32 × rr_S) := pp_lj (rr_I q 17 (0 : Int32) : rr_S) (fun x1 => pp_lj (rr_I x1 18 (0 : Int32) : rr_S) (fun x3 => pp_it (fun (self5 : rr_S × Int32 → Option (Int32 × rr_S)) (a5 : rr_S × Int32) => pp_lj (fun (a6 : Unit) => (pp_lj (rr_I a5.1 16 (0 : Int32) : rr_S) (fun x9 => (if a5.2 = (0 : Int32) then some (((-1000 : Int32) - (x9.1 17)), x9) else pp_ob (R_passesAll x9 (1 : Int32) (1 : Int32)) (fun r13 => pp_it (fun (self15 : rr_S × Int32 → Option (Int32 × rr_S)) (a15 : rr_S × Int32) => (if (a15.1.1 18) ≤ a15.2 then some ((a15.1.1 18), a15.1) else pp_ob (R_comes a15.1 a15.2) (fun r19 => (if r19.1 = (0 : Int32) then pp_ob (R_passesAll r19.2 (1 : Int32) (0 : Int32)) (fun r23 => pp_ix a15.2 40 (some (((-2000 : Int32) - (r23.2.1 14 (Int32.toNatClampNeg a15.2))), r23))) else pp_lj (a15.2 + 1 : Int32) (fun x28 => self15 (r19.2, x28)))))) 200 (r13, (0 : Int32))))) : Option (Int32 × rr_S))) (fun j6 => (if a5.2 = (0 : Int32) then j6 () else pp_lj (fun (a34 : Unit) => (pp_ob (R_statement a5.1) (fun r37 => pp_lj (fun (a39 : Int32) => (pp_lj (rr_I r37.2 18 ((r37.2.1 18) + a39) : rr_S) (fun x42 => self5 (x42, r37.1)) : Option (Int32 × rr_S))) (fun j39 => (if r37.1 = (0 : Int32) then j39 (0 : Int32) else j39 (1 : Int32)))) : Option (Int32 × rr_S))) (fun j34 => (if (a5.1.1 17) < (a5.1.1 16) then j34 () else (if (a5.1.1 18) = (0 : Int32) then j34 () else j6 ())))))) 200 (x3, (1 : Int32))))
abbrev rmX11_hall : Room := { frames := 4, cells := 0, slots := 0, locals := 86 }
set_option maxHeartbeats 4000000 in
set_option maxRecDepth 100000 in
theorem ctX11_hall (l : Launch) (g : rr_G) (q : rr_S) {res : (Int32 × rr_S)} (h : R_hall q = some res) : rr_Mi l yX11_hall wsX11_hall rmX11_hall g q [] res := by
  intro sz
  unfold R_hall at h
  refine rr_ofW (by decide) rfl rfl (fun _ z => List.mem_cons_of_mem _ (List.mem_append_right _ z)) (Nat.le_of_ble_eq_true rfl) ?_
  intro p e s m args below meth c ls X hr hlk hsz G hl Q hQ
  subst hsz
  have hx := X.1.1
  have hb := X.1.2.1
  have hown := X.1.2.2.2.1
  have hts := X.1.2.2.2.2
  refine (fun (key : ∀ (H : Heap) (locs : List Loc), rr_H g q s H locs → W p l e (headSpec wsX11_hall rmX11_hall).room s m args below meth c H locs 0 0 Q (F0 m 0 ls [])) => key _ _ G) ?_
  clear G
  intro H locs G
  have hl : lv_has ls 3 [(0, .ref (g.2.2.2 28))] := hl
  have hf43 : Cond.fieldLink RX11 43 (TX11 14).1 (TX11 14).2.1 (TX11 14).2.2.1 ∈ wsX11_hall := by decide +kernel
  have hf77 : Cond.fieldLink RX11 77 (TX11 16).1 (TX11 16).2.1 (TX11 16).2.2.1 ∈ wsX11_hall := by decide +kernel
  have hf84 : Cond.fieldLink RX11 84 (TX11 17).1 (TX11 17).2.1 (TX11 17).2.2.1 ∈ wsX11_hall := by decide +kernel
  have hf104 : Cond.fieldLink RX11 104 (TX11 18).1 (TX11 18).2.1 (TX11 18).2.2.1 ∈ wsX11_hall := by decide +kernel
  refine lv_aload_n hx hb dX11_hall_0 rfl (lv_at hl 0 rfl) ?_
  refine lv_iconst (v := 0) hx hb dX11_hall_1 (by decide) ?_
  obtain ⟨x1, ex1, h2⟩ := pp_lj_ex h
  clear h
  refine rr_put X G 17 (by decide) hf84 rfl (ty := .int) (by decide +kernel) rfl rfl (ri_17 g _ _) ex1 dX11_hall_2 (fun H locs G => ?_)
  refine lv_aload_n hx hb dX11_hall_5 rfl (lv_at hl 0 rfl) ?_
  refine lv_iconst (v := 0) hx hb dX11_hall_6 (by decide) ?_
  obtain ⟨x3, ex3, h4⟩ := pp_lj_ex h2
  clear h2
  refine rr_put X G 18 (by decide) hf104 rfl (ty := .int) (by decide +kernel) rfl rfl (ri_18 g _ _) ex3 dX11_hall_7 (fun H locs G => ?_)
  refine lv_iconst (v := 1) hx hb dX11_hall_10 (by decide) ?_
  refine lv_istore_n (lv' := [(1, .int (1 : Int32)), (0, .ref (g.2.2.2 28))]) hx hb dX11_hall_11 rfl hl (by decide) rfl (fun ls hl => ?_)
  refine pp_loop (I := fun (a5 : rr_S × Int32) => ∀ (H : Heap) (locs : List Loc) (ls : Array Slot), rr_H g a5.1 s H locs → lv_has ls 3 [(0, .ref (g.2.2.2 28)), (1, .int a5.2)] → W p l e (headSpec wsX11_hall rmX11_hall).room s m args below meth c H locs 0 0 Q (F0 m 12 ls [])) ?_ 200 _ h4 H locs ls G (lv_sub hl [1, 0] rfl)
  clear h4
  intro self5 ih5 a5 h5 H locs ls G hl
  refine lv_iload_n hx hb dX11_hall_12 rfl (lv_at hl 1 rfl) ?_
  obtain ⟨j6, ej6, h7⟩ := pp_lj_ex h5
  clear h5
  have hj6 : ∀ (a6 : Unit) (H : Heap) (locs : List Loc) (ls : Array Slot), j6 a6 = some res → rr_H g a5.1 s H locs → lv_has ls 3 [(0, .ref (g.2.2.2 28)), (1, .int a5.2)] → W p l e (headSpec wsX11_hall rmX11_hall).room s m args below meth c H locs 0 0 Q (F0 m 60 ls []) := by
    intro a6 H locs ls h G hl
    have h8 := pp_jmp ej6 h
    clear h h7
    refine lv_aload_n hx hb dX11_hall_60 rfl (lv_at hl 0 rfl) ?_
    refine lv_iconst (v := 0) hx hb dX11_hall_61 (by decide) ?_
    obtain ⟨x9, ex9, h10⟩ := pp_lj_ex h8
    clear h8
    refine rr_put X G 16 (by decide) hf77 rfl (ty := .int) (by decide +kernel) rfl rfl (ri_16 g _ _) ex9 dX11_hall_62 (fun H locs G => ?_)
    refine lv_iload_n hx hb dX11_hall_65 rfl (lv_at hl 1 rfl) ?_
    refine lv_if_ne (tgt := 78) hx hb dX11_hall_66 (by decide) (fun c11 => ?_) (fun c11 => ?_)
    · have h12 := pp_f c11 h10
      clear h10
      refine lv_aload_n hx hb dX11_hall_78 rfl (lv_at hl 0 rfl) ?_
      refine lv_iconst (v := 1) hx hb dX11_hall_79 (by decide) ?_
      refine lv_iconst (v := 1) hx hb dX11_hall_80 (by decide) ?_
      obtain ⟨r13, hc13, h14⟩ := pp_ob_ex h12
      clear h12
      refine rr_calv X G (ctX11_passesAll l g _ _ _ hc13) (cwV 2 hts gX11_hall_X11_passesAll rfl rfl rfl (by decide +kernel) ⟨Nat.le_of_ble_eq_true rfl, Nat.le_of_ble_eq_true rfl⟩) (rest := []) rfl hl.1 rfl (Nat.le_of_ble_eq_true rfl) dX11_hall_81 (fun H locs G => ?_)
      refine lv_iconst (v := 0) hx hb dX11_hall_84 (by decide) ?_
      refine lv_istore_n (lv' := [(2, .int (0 : Int32)), (0, .ref (g.2.2.2 28)), (1, .int a5.2)]) hx hb dX11_hall_85 rfl hl (by decide) rfl (fun ls hl => ?_)
      refine pp_loop (I := fun (a15 : rr_S × Int32) => ∀ (H : Heap) (locs : List Loc) (ls : Array Slot), rr_H g a15.1 s H locs → lv_has ls 3 [(0, .ref (g.2.2.2 28)), (2, .int a15.2)] → W p l e (headSpec wsX11_hall rmX11_hall).room s m args below meth c H locs 0 0 Q (F0 m 86 ls [])) ?_ 200 _ h14 H locs ls G (lv_sub hl [1, 0] rfl)
      clear h14
      intro self15 ih15 a15 h15 H locs ls G hl
      refine lv_iload_n hx hb dX11_hall_86 rfl (lv_at hl 1 rfl) ?_
      refine lv_aload_n hx hb dX11_hall_87 rfl (lv_at hl 0 rfl) ?_
      refine rr_get X G 18 (by decide) hf104 (v := .int (a15.1.1 18)) rfl dX11_hall_88 ?_
      refine lv_icmp_ge (tgt := 128) hx hb dX11_hall_91 (by decide) (fun c16 => ?_) (fun c16 => ?_)
      · have h17 := pp_t c16 h15
        clear h15
        refine lv_aload_n hx hb dX11_hall_128 rfl (lv_at hl 0 rfl) ?_
        refine rr_get X G 18 (by decide) hf104 (v := .int (a15.1.1 18)) rfl dX11_hall_129 ?_
        exact rr_iret X hr hlk rfl G h17 hQ dX11_hall_132
      · have h18 := pp_f c16 h15
        clear h15
        refine lv_aload_n hx hb dX11_hall_94 rfl (lv_at hl 0 rfl) ?_
        refine lv_iload_n hx hb dX11_hall_95 rfl (lv_at hl 1 rfl) ?_
        obtain ⟨r19, hc19, h20⟩ := pp_ob_ex h18
        clear h18
        refine rr_cali X G (ctX11_comes l g _ _ hc19) (cwV 1 hts gX11_hall_X11_comes rfl rfl rfl (by decide +kernel) ⟨Nat.le_of_ble_eq_true rfl, Nat.le_of_ble_eq_true rfl⟩) (rest := []) rfl hl.1 rfl (Nat.le_of_ble_eq_true rfl) dX11_hall_96 (fun H locs G => ?_)
        refine lv_if_eq (tgt := 105) hx hb dX11_hall_99 (by decide) (fun c21 => ?_) (fun c21 => ?_)
        · have h22 := pp_t c21 h20
          clear h20
          refine lv_aload_n hx hb dX11_hall_105 rfl (lv_at hl 0 rfl) ?_
          refine lv_iconst (v := 1) hx hb dX11_hall_106 (by decide) ?_
          refine lv_iconst (v := 0) hx hb dX11_hall_107 (by decide) ?_
          obtain ⟨r23, hc23, h24⟩ := pp_ob_ex h22
          clear h22
          refine rr_calv X G (ctX11_passesAll l g _ _ _ hc23) (cwV 2 hts gX11_hall_X11_passesAll rfl rfl rfl (by decide +kernel) ⟨Nat.le_of_ble_eq_true rfl, Nat.le_of_ble_eq_true rfl⟩) (rest := []) rfl hl.1 rfl (Nat.le_of_ble_eq_true rfl) dX11_hall_108 (fun H locs G => ?_)
          refine lv_sipush (v := -2000) hx hb dX11_hall_111 (by decide) ?_
          refine lv_aload_n hx hb dX11_hall_114 rfl (lv_at hl 0 rfl) ?_
          refine rr_get X G 14 (by decide) hf43 (v := .ref (g.2.2.2 14)) rfl dX11_hall_115 ?_
          refine lv_iload_n hx hb dX11_hall_118 rfl (lv_at hl 1 rfl) ?_
          obtain ⟨hi25, h26⟩ := pp_ix_ex h24
          clear h24
          refine rr_iald X G ra_14 hi25 dX11_hall_119 ?_
          refine lv_isub hx hb dX11_hall_120 ?_
          exact rr_iret X hr hlk rfl G h26 hQ dX11_hall_121
        · have h27 := pp_f c21 h20
          clear h20
          refine lv_goto (tgt := 122) hx hb dX11_hall_102 (by decide) ?_
          obtain ⟨x28, ex28, h29⟩ := pp_lj_ex h27
          clear h27
          refine lv_iinc (v := x28) (lv' := [(2, .int x28), (0, .ref (g.2.2.2 28))]) hx hb dX11_hall_122 hl (k := 1) rfl (by rw [ex28]; rfl) (by decide) rfl (fun ls hl => ?_)
          refine lv_goto (tgt := 86) hx hb dX11_hall_125 (by decide) ?_
          exact ih15 _ h29 H locs ls G (lv_sub hl [1, 0] rfl)
    · have h30 := pp_t c11 h10
      clear h10
      refine lv_sipush (v := -1000) hx hb dX11_hall_69 (by decide) ?_
      refine lv_aload_n hx hb dX11_hall_72 rfl (lv_at hl 0 rfl) ?_
      refine rr_get X G 17 (by decide) hf84 (v := .int (x9.1 17)) rfl dX11_hall_73 ?_
      refine lv_isub hx hb dX11_hall_76 ?_
      exact rr_iret X hr hlk rfl G h30 hQ dX11_hall_77
  refine lv_if_eq (tgt := 60) hx hb dX11_hall_13 (by decide) (fun c31 => ?_) (fun c31 => ?_)
  · have h32 := pp_t c31 h7
    clear h7
    exact hj6 _ H locs ls h32 G hl
  · have h33 := pp_f c31 h7
    clear h7
    refine lv_aload_n hx hb dX11_hall_16 rfl (lv_at hl 0 rfl) ?_
    refine rr_get X G 17 (by decide) hf84 (v := .int (a5.1.1 17)) rfl dX11_hall_17 ?_
    refine lv_aload_n hx hb dX11_hall_20 rfl (lv_at hl 0 rfl) ?_
    refine rr_get X G 16 (by decide) hf77 (v := .int (a5.1.1 16)) rfl dX11_hall_21 ?_
    obtain ⟨j34, ej34, h35⟩ := pp_lj_ex h33
    clear h33
    have hj34 : ∀ (a34 : Unit) (H : Heap) (locs : List Loc) (ls : Array Slot), j34 a34 = some res → rr_H g a5.1 s H locs → lv_has ls 3 [(0, .ref (g.2.2.2 28))] → W p l e (headSpec wsX11_hall rmX11_hall).room s m args below meth c H locs 0 0 Q (F0 m 34 ls []) := by
      intro a34 H locs ls h G hl
      have h36 := pp_jmp ej34 h
      clear h h35
      refine lv_aload_n hx hb dX11_hall_34 rfl (lv_at hl 0 rfl) ?_
      obtain ⟨r37, hc37, h38⟩ := pp_ob_ex h36
      clear h36
      refine rr_cali X G (ctX11_statement l g _ hc37) (cwV 0 hts gX11_hall_X11_statement rfl rfl rfl (by decide +kernel) ⟨Nat.le_of_ble_eq_true rfl, Nat.le_of_ble_eq_true rfl⟩) (rest := []) rfl hl.1 rfl (Nat.le_of_ble_eq_true rfl) dX11_hall_35 (fun H locs G => ?_)
      refine lv_istore_n (lv' := [(1, .int r37.1), (0, .ref (g.2.2.2 28))]) hx hb dX11_hall_38 rfl hl (by decide) rfl (fun ls hl => ?_)
      refine lv_aload_n hx hb dX11_hall_39 rfl (lv_at hl 1 rfl) ?_
      refine lv_dup hx hb dX11_hall_40 rfl ?_
      refine rr_get X G 18 (by decide) hf104 (v := .int (r37.2.1 18)) rfl dX11_hall_41 ?_
      refine lv_iload_n hx hb dX11_hall_44 rfl (lv_at hl 0 rfl) ?_
      obtain ⟨j39, ej39, h40⟩ := pp_lj_ex h38
      clear h38
      have hj39 : ∀ (a39 : Int32) (H : Heap) (locs : List Loc) (ls : Array Slot), j39 a39 = some res → rr_H g r37.2 s H locs → lv_has ls 3 [(0, .ref (g.2.2.2 28)), (1, .int r37.1)] → W p l e (headSpec wsX11_hall rmX11_hall).room s m args below meth c H locs 0 0 Q (F0 m 53 ls [.int a39, .int (r37.2.1 18), .ref (g.2.2.2 28)]) := by
        intro a39 H locs ls h G hl
        have h41 := pp_jmp ej39 h
        clear h h40
        refine lv_iadd hx hb dX11_hall_53 ?_
        obtain ⟨x42, ex42, h43⟩ := pp_lj_ex h41
        clear h41
        refine rr_put X G 18 (by decide) hf104 rfl (ty := .int) (by decide +kernel) rfl rfl (ri_18 g _ _) ex42 dX11_hall_54 (fun H locs G => ?_)
        refine lv_goto (tgt := 12) hx hb dX11_hall_57 (by decide) ?_
        exact ih5 _ h43 H locs ls G hl
      refine lv_if_eq (tgt := 52) hx hb dX11_hall_45 (by decide) (fun c44 => ?_) (fun c44 => ?_)
      · have h45 := pp_t c44 h40
        clear h40
        refine lv_iconst (v := 0) hx hb dX11_hall_52 (by decide) ?_
        exact hj39 _ H locs ls h45 G (lv_sub hl [1, 0] rfl)
      · have h46 := pp_f c44 h40
        clear h40
        refine lv_iconst (v := 1) hx hb dX11_hall_48 (by decide) ?_
        refine lv_goto (tgt := 53) hx hb dX11_hall_49 (by decide) ?_
        exact hj39 _ H locs ls h46 G (lv_sub hl [1, 0] rfl)
    refine lv_icmp_lt (tgt := 34) hx hb dX11_hall_24 (by decide) (fun c47 => ?_) (fun c47 => ?_)
    · have h48 := pp_t c47 h35
      clear h35
      exact hj34 _ H locs ls h48 G (lv_sub hl [0] rfl)
    · have h49 := pp_f c47 h35
      clear h35
      refine lv_aload_n hx hb dX11_hall_27 rfl (lv_at hl 0 rfl) ?_
      refine rr_get X G 18 (by decide) hf104 (v := .int (a5.1.1 18)) rfl dX11_hall_28 ?_
      refine lv_if_ne (tgt := 60) hx hb dX11_hall_31 (by decide) (fun c50 => ?_) (fun c50 => ?_)
      · have h51 := pp_f c50 h49
        clear h49
        exact hj6 _ H locs ls h51 G hl
      · have h52 := pp_t c50 h49
        clear h49
        exact hj34 _ H locs ls h52 G (lv_sub hl [0] rfl)
noncomputable def R_image (q : rr_S) : Option (Int32 × rr_S) := pp_lj (rr_I q 20 (1 : Int32) : rr_S) (fun x1 => pp_ob (R_passesAll x1 (0 : Int32) (1 : Int32)) (fun r3 => some ((r3.1 10), r3)))
abbrev rmX11_image : Room := { frames := 2, cells := 0, slots := 0, locals := 44 }
set_option maxHeartbeats 4000000 in
set_option maxRecDepth 100000 in
theorem ctX11_image (l : Launch) (g : rr_G) (q : rr_S) {res : (Int32 × rr_S)} (h : R_image q = some res) : rr_Mi l yX11_image wsX11_image rmX11_image g q [] res := by
  intro sz
  unfold R_image at h
  refine rr_ofW (by decide) rfl rfl (fun _ z => List.mem_cons_of_mem _ (List.mem_append_right _ z)) (Nat.le_of_ble_eq_true rfl) ?_
  intro p e s m args below meth c ls X hr hlk hsz G hl Q hQ
  subst hsz
  have hx := X.1.1
  have hb := X.1.2.1
  have hown := X.1.2.2.2.1
  have hts := X.1.2.2.2.2
  refine (fun (key : ∀ (H : Heap) (locs : List Loc), rr_H g q s H locs → W p l e (headSpec wsX11_image rmX11_image).room s m args below meth c H locs 0 0 Q (F0 m 0 ls [])) => key _ _ G) ?_
  clear G
  intro H locs G
  have hl : lv_has ls 1 [(0, .ref (g.2.2.2 28))] := hl
  have hf165 : Cond.fieldLink RX11 165 (TX11 10).1 (TX11 10).2.1 (TX11 10).2.2.1 ∈ wsX11_image := by decide +kernel
  have hf168 : Cond.fieldLink RX11 168 (TX11 20).1 (TX11 20).2.1 (TX11 20).2.2.1 ∈ wsX11_image := by decide +kernel
  refine lv_aload_n hx hb dX11_image_0 rfl (lv_at hl 0 rfl) ?_
  refine lv_iconst (v := 1) hx hb dX11_image_1 (by decide) ?_
  obtain ⟨x1, ex1, h2⟩ := pp_lj_ex h
  clear h
  refine rr_put X G 20 (by decide) hf168 rfl (ty := .boolean) (by decide +kernel) rfl rfl (ri_20 g _ _) ex1 dX11_image_2 (fun H locs G => ?_)
  refine lv_aload_n hx hb dX11_image_5 rfl (lv_at hl 0 rfl) ?_
  refine lv_iconst (v := 0) hx hb dX11_image_6 (by decide) ?_
  refine lv_iconst (v := 1) hx hb dX11_image_7 (by decide) ?_
  obtain ⟨r3, hc3, h4⟩ := pp_ob_ex h2
  clear h2
  refine rr_calv X G (ctX11_passesAll l g _ _ _ hc3) (cwV 2 hts gX11_image_X11_passesAll rfl rfl rfl (by decide +kernel) ⟨Nat.le_of_ble_eq_true rfl, Nat.le_of_ble_eq_true rfl⟩) (rest := []) rfl hl.1 rfl (Nat.le_of_ble_eq_true rfl) dX11_image_8 (fun H locs G => ?_)
  refine lv_aload_n hx hb dX11_image_11 rfl (lv_at hl 0 rfl) ?_
  refine rr_get X G 10 (by decide) hf165 (v := .int (r3.1 10)) rfl dX11_image_12 ?_
  exact rr_iret X hr hlk rfl G h4 hQ dX11_image_15
noncomputable def R_on (q : rr_S) : Option (Int32 × rr_S) := (if (q.1 20) = (0 : Int32) then pp_ob (R_no q (-3 : Int32)) (fun r6 => some (r6.1, r6.2)) else pp_ob (R_passesAll q (0 : Int32) (0 : Int32)) (fun r3 => some ((r3.1 10), r3)))
abbrev rmX11_on : Room := { frames := 2, cells := 0, slots := 0, locals := 44 }
set_option maxHeartbeats 4000000 in
set_option maxRecDepth 100000 in
theorem ctX11_on (l : Launch) (g : rr_G) (q : rr_S) {res : (Int32 × rr_S)} (h : R_on q = some res) : rr_Mi l yX11_on wsX11_on rmX11_on g q [] res := by
  intro sz
  unfold R_on at h
  refine rr_ofW (by decide) rfl rfl (fun _ z => List.mem_cons_of_mem _ (List.mem_append_right _ z)) (Nat.le_of_ble_eq_true rfl) ?_
  intro p e s m args below meth c ls X hr hlk hsz G hl Q hQ
  subst hsz
  have hx := X.1.1
  have hb := X.1.2.1
  have hown := X.1.2.2.2.1
  have hts := X.1.2.2.2.2
  refine (fun (key : ∀ (H : Heap) (locs : List Loc), rr_H g q s H locs → W p l e (headSpec wsX11_on rmX11_on).room s m args below meth c H locs 0 0 Q (F0 m 0 ls [])) => key _ _ G) ?_
  clear G
  intro H locs G
  have hl : lv_has ls 1 [(0, .ref (g.2.2.2 28))] := hl
  have hf165 : Cond.fieldLink RX11 165 (TX11 10).1 (TX11 10).2.1 (TX11 10).2.2.1 ∈ wsX11_on := by decide +kernel
  have hf168 : Cond.fieldLink RX11 168 (TX11 20).1 (TX11 20).2.1 (TX11 20).2.2.1 ∈ wsX11_on := by decide +kernel
  refine lv_aload_n hx hb dX11_on_0 rfl (lv_at hl 0 rfl) ?_
  refine rr_get X G 20 (by decide) hf168 (v := .int (q.1 20)) rfl dX11_on_1 ?_
  refine lv_if_ne (tgt := 14) hx hb dX11_on_4 (by decide) (fun c1 => ?_) (fun c1 => ?_)
  · have h2 := pp_f c1 h
    clear h
    refine lv_aload_n hx hb dX11_on_14 rfl (lv_at hl 0 rfl) ?_
    refine lv_iconst (v := 0) hx hb dX11_on_15 (by decide) ?_
    refine lv_iconst (v := 0) hx hb dX11_on_16 (by decide) ?_
    obtain ⟨r3, hc3, h4⟩ := pp_ob_ex h2
    clear h2
    refine rr_calv X G (ctX11_passesAll l g _ _ _ hc3) (cwV 2 hts gX11_on_X11_passesAll rfl rfl rfl (by decide +kernel) ⟨Nat.le_of_ble_eq_true rfl, Nat.le_of_ble_eq_true rfl⟩) (rest := []) rfl hl.1 rfl (Nat.le_of_ble_eq_true rfl) dX11_on_17 (fun H locs G => ?_)
    refine lv_aload_n hx hb dX11_on_20 rfl (lv_at hl 0 rfl) ?_
    refine rr_get X G 10 (by decide) hf165 (v := .int (r3.1 10)) rfl dX11_on_21 ?_
    exact rr_iret X hr hlk rfl G h4 hQ dX11_on_24
  · have h5 := pp_t c1 h
    clear h
    refine lv_aload_n hx hb dX11_on_7 rfl (lv_at hl 0 rfl) ?_
    refine lv_bipush (v := -3) hx hb dX11_on_8 (by decide) ?_
    obtain ⟨r6, hc6, h7⟩ := pp_ob_ex h5
    clear h5
    refine rr_cali X G (ctX11_no l g _ _ hc6) (cwV 1 hts gX11_on_X11_no rfl rfl rfl (by decide +kernel) ⟨Nat.le_of_ble_eq_true rfl, Nat.le_of_ble_eq_true rfl⟩) (rest := []) rfl hl.1 rfl (Nat.le_of_ble_eq_true rfl) dX11_on_10 (fun H locs G => ?_)
    exact rr_iret X hr hlk rfl G h7 hQ dX11_on_13
noncomputable def R_hereOf (q : rr_S) (v1 : Int32) : Option Int32 := pp_it (fun (self1 : Int32 × Int32 → Option Int32) (a1 : Int32 × Int32) => (if (q.1 9) ≤ a1.2 then some a1.1 else pp_ix a1.2 8 (pp_lj (fun (a7 : Int32) => (pp_lj ((a1.1 + a7) : Int32) (fun x10 => pp_lj (a1.2 + 1 : Int32) (fun x12 => self1 (x10, x12))) : Option Int32)) (fun j7 => pp_lj (fun (a14 : Unit) => (j7 (0 : Int32) : Option Int32)) (fun j14 => (if (q.2.1 1 (Int32.toNatClampNeg a1.2)) = v1 then (if (q.2.1 5 (Int32.toNatClampNeg a1.2)) = (0 : Int32) then j7 (1 : Int32) else j14 ()) else j14 ())))))) 200 ((0 : Int32), (0 : Int32))
abbrev rmX11_hereOf : Room := { frames := 0, cells := 0, slots := 0, locals := 0 }
set_option maxHeartbeats 4000000 in
set_option maxRecDepth 100000 in
theorem ctX11_hereOf (l : Launch) (g : rr_G) (q : rr_S) (v1 : Int32) {res : Int32} (h : R_hereOf q v1 = some res) : rr_Mi l yX11_hereOf wsX11_hereOf rmX11_hereOf g q [.int v1] (res, q) := by
  intro sz
  unfold R_hereOf at h
  refine rr_ofW (by decide) rfl rfl (fun _ z => List.mem_cons_of_mem _ (List.mem_append_right _ z)) (Nat.le_of_ble_eq_true rfl) ?_
  intro p e s m args below meth c ls X hr hlk hsz G hl Q hQ
  subst hsz
  have hx := X.1.1
  have hb := X.1.2.1
  have hown := X.1.2.2.2.1
  have hts := X.1.2.2.2.2
  refine (fun (key : ∀ (H : Heap) (locs : List Loc), rr_H g q s H locs → W p l e (headSpec wsX11_hereOf rmX11_hereOf).room s m args below meth c H locs 0 0 Q (F0 m 0 ls [])) => key _ _ G) ?_
  clear G
  intro H locs G
  have hl : lv_has ls 4 [(0, .ref (g.2.2.2 28)), (1, .int v1)] := hl
  have hf13 : Cond.fieldLink RX11 13 (TX11 1).1 (TX11 1).2.1 (TX11 1).2.2.1 ∈ wsX11_hereOf := by decide +kernel
  have hf25 : Cond.fieldLink RX11 25 (TX11 5).1 (TX11 5).2.1 (TX11 5).2.2.1 ∈ wsX11_hereOf := by decide +kernel
  have hf65 : Cond.fieldLink RX11 65 (TX11 9).1 (TX11 9).2.1 (TX11 9).2.2.1 ∈ wsX11_hereOf := by decide +kernel
  refine lv_iconst (v := 0) hx hb dX11_hereOf_0 (by decide) ?_
  refine lv_istore_n (lv' := [(2, .int (0 : Int32)), (0, .ref (g.2.2.2 28)), (1, .int v1)]) hx hb dX11_hereOf_1 rfl hl (by decide) rfl (fun ls hl => ?_)
  refine lv_iconst (v := 0) hx hb dX11_hereOf_2 (by decide) ?_
  refine lv_istore_n (lv' := [(3, .int (0 : Int32)), (2, .int (0 : Int32)), (0, .ref (g.2.2.2 28)), (1, .int v1)]) hx hb dX11_hereOf_3 rfl hl (by decide) rfl (fun ls hl => ?_)
  refine pp_loop (I := fun (a1 : Int32 × Int32) => ∀ (H : Heap) (locs : List Loc) (ls : Array Slot), rr_H g q s H locs → lv_has ls 4 [(0, .ref (g.2.2.2 28)), (1, .int v1), (2, .int a1.1), (3, .int a1.2)] → W p l e (headSpec wsX11_hereOf rmX11_hereOf).room s m args below meth c H locs 0 0 Q (F0 m 4 ls [])) ?_ 200 _ h H locs ls G (lv_sub hl [2, 3, 1, 0] rfl)
  clear h
  intro self1 ih1 a1 h1 H locs ls G hl
  refine lv_iload_n hx hb dX11_hereOf_4 rfl (lv_at hl 3 rfl) ?_
  refine lv_aload_n hx hb dX11_hereOf_5 rfl (lv_at hl 0 rfl) ?_
  refine rr_get X G 9 (by decide) hf65 (v := .int (q.1 9)) rfl dX11_hereOf_6 ?_
  refine lv_icmp_ge (tgt := 45) hx hb dX11_hereOf_9 (by decide) (fun c2 => ?_) (fun c2 => ?_)
  · have h3 := pp_t c2 h1
    clear h1
    refine lv_iload_n hx hb dX11_hereOf_45 rfl (lv_at hl 2 rfl) ?_
    exact rr_iretR X hr hlk rfl G h3 hQ dX11_hereOf_46
  · have h4 := pp_f c2 h1
    clear h1
    refine lv_iload_n hx hb dX11_hereOf_12 rfl (lv_at hl 2 rfl) ?_
    refine lv_aload_n hx hb dX11_hereOf_13 rfl (lv_at hl 0 rfl) ?_
    refine rr_get X G 1 (by decide) hf13 (v := .ref (g.2.2.2 1)) rfl dX11_hereOf_14 ?_
    refine lv_iload_n hx hb dX11_hereOf_17 rfl (lv_at hl 3 rfl) ?_
    obtain ⟨hi5, h6⟩ := pp_ix_ex h4
    clear h4
    refine rr_iald X G ra_1 hi5 dX11_hereOf_18 ?_
    refine lv_iload_n hx hb dX11_hereOf_19 rfl (lv_at hl 1 rfl) ?_
    obtain ⟨j7, ej7, h8⟩ := pp_lj_ex h6
    clear h6
    have hj7 : ∀ (a7 : Int32) (H : Heap) (locs : List Loc) (ls : Array Slot), j7 a7 = some res → rr_H g q s H locs → lv_has ls 4 [(0, .ref (g.2.2.2 28)), (1, .int v1), (3, .int a1.2)] → W p l e (headSpec wsX11_hereOf rmX11_hereOf).room s m args below meth c H locs 0 0 Q (F0 m 37 ls [.int a7, .int a1.1]) := by
      intro a7 H locs ls h G hl
      have h9 := pp_jmp ej7 h
      clear h h8
      refine lv_iadd hx hb dX11_hereOf_37 ?_
      obtain ⟨x10, ex10, h11⟩ := pp_lj_ex h9
      clear h9
      refine lv_nmi ex10 ?_
      refine lv_istore_n (lv' := [(2, .int x10), (0, .ref (g.2.2.2 28)), (1, .int v1), (3, .int a1.2)]) hx hb dX11_hereOf_38 rfl hl (by decide) rfl (fun ls hl => ?_)
      obtain ⟨x12, ex12, h13⟩ := pp_lj_ex h11
      clear h11
      refine lv_iinc (v := x12) (lv' := [(3, .int x12), (2, .int x10), (0, .ref (g.2.2.2 28)), (1, .int v1)]) hx hb dX11_hereOf_39 hl (k := 3) rfl (by rw [ex12]; rfl) (by decide) rfl (fun ls hl => ?_)
      refine lv_goto (tgt := 4) hx hb dX11_hereOf_42 (by decide) ?_
      exact ih1 _ h13 H locs ls G (lv_sub hl [2, 3, 1, 0] rfl)
    obtain ⟨j14, ej14, h15⟩ := pp_lj_ex h8
    clear h8
    have hj14 : ∀ (a14 : Unit) (H : Heap) (locs : List Loc) (ls : Array Slot), j14 a14 = some res → rr_H g q s H locs → lv_has ls 4 [(0, .ref (g.2.2.2 28)), (1, .int v1), (3, .int a1.2)] → W p l e (headSpec wsX11_hereOf rmX11_hereOf).room s m args below meth c H locs 0 0 Q (F0 m 36 ls [.int a1.1]) := by
      intro a14 H locs ls h G hl
      have h16 := pp_jmp ej14 h
      clear h h15
      refine lv_iconst (v := 0) hx hb dX11_hereOf_36 (by decide) ?_
      exact hj7 _ H locs ls h16 G hl
    refine lv_icmp_ne (tgt := 36) hx hb dX11_hereOf_20 (by decide) (fun c17 => ?_) (fun c17 => ?_)
    · have h18 := pp_f c17 h15
      clear h15
      exact hj14 _ H locs ls h18 G (lv_sub hl [0, 1, 3] rfl)
    · have h19 := pp_t c17 h15
      clear h15
      refine lv_aload_n hx hb dX11_hereOf_23 rfl (lv_at hl 0 rfl) ?_
      refine rr_get X G 5 (by decide) hf25 (v := .ref (g.2.2.2 5)) rfl dX11_hereOf_24 ?_
      refine lv_iload_n hx hb dX11_hereOf_27 rfl (lv_at hl 3 rfl) ?_
      refine rr_iald X G ra_5 hi5 dX11_hereOf_28 ?_
      refine lv_if_ne (tgt := 36) hx hb dX11_hereOf_29 (by decide) (fun c20 => ?_) (fun c20 => ?_)
      · have h21 := pp_f c20 h19
        clear h19
        exact hj14 _ H locs ls h21 G (lv_sub hl [0, 1, 3] rfl)
      · have h22 := pp_t c20 h19
        clear h19
        refine lv_iconst (v := 1) hx hb dX11_hereOf_32 (by decide) ?_
        refine lv_goto (tgt := 37) hx hb dX11_hereOf_33 (by decide) ?_
        exact hj7 _ H locs ls h22 G (lv_sub hl [0, 1, 3] rfl)
noncomputable def R_aimOf (q : rr_S) (v1 : Int32) : Option Int32 := pp_ix v1 8 ((if (q.2.1 2 (Int32.toNatClampNeg v1)) = (3 : Int32) then pp_ob (R_clamped ((q.2.1 3 (Int32.toNatClampNeg v1)) - ((q.1 10) / (10 : Int32))) (0 : Int32) (9 : Int32)) (fun r6 => some r6) else some (q.2.1 3 (Int32.toNatClampNeg v1))))
abbrev rmX11_aimOf : Room := { frames := 1, cells := 0, slots := 0, locals := 22 }
set_option maxHeartbeats 4000000 in
set_option maxRecDepth 100000 in
theorem ctX11_aimOf (l : Launch) (g : rr_G) (q : rr_S) (v1 : Int32) {res : Int32} (h : R_aimOf q v1 = some res) : rr_Mi l yX11_aimOf wsX11_aimOf rmX11_aimOf g q [.int v1] (res, q) := by
  intro sz
  unfold R_aimOf at h
  refine rr_ofW (by decide) rfl rfl (fun _ z => List.mem_cons_of_mem _ (List.mem_append_right _ z)) (Nat.le_of_ble_eq_true rfl) ?_
  intro p e s m args below meth c ls X hr hlk hsz G hl Q hQ
  subst hsz
  have hx := X.1.1
  have hb := X.1.2.1
  have hown := X.1.2.2.2.1
  have hts := X.1.2.2.2.2
  refine (fun (key : ∀ (H : Heap) (locs : List Loc), rr_H g q s H locs → W p l e (headSpec wsX11_aimOf rmX11_aimOf).room s m args below meth c H locs 0 0 Q (F0 m 0 ls [])) => key _ _ G) ?_
  clear G
  intro H locs G
  have hl : lv_has ls 2 [(0, .ref (g.2.2.2 28)), (1, .int v1)] := hl
  have hf16 : Cond.fieldLink RX11 16 (TX11 2).1 (TX11 2).2.1 (TX11 2).2.2.1 ∈ wsX11_aimOf := by decide +kernel
  have hf19 : Cond.fieldLink RX11 19 (TX11 3).1 (TX11 3).2.1 (TX11 3).2.2.1 ∈ wsX11_aimOf := by decide +kernel
  have hf165 : Cond.fieldLink RX11 165 (TX11 10).1 (TX11 10).2.1 (TX11 10).2.2.1 ∈ wsX11_aimOf := by decide +kernel
  refine lv_aload_n hx hb dX11_aimOf_0 rfl (lv_at hl 0 rfl) ?_
  refine rr_get X G 2 (by decide) hf16 (v := .ref (g.2.2.2 2)) rfl dX11_aimOf_1 ?_
  refine lv_iload_n hx hb dX11_aimOf_4 rfl (lv_at hl 1 rfl) ?_
  obtain ⟨hi1, h2⟩ := pp_ix_ex h
  clear h
  refine rr_iald X G ra_2 hi1 dX11_aimOf_5 ?_
  refine lv_iconst (v := 3) hx hb dX11_aimOf_6 (by decide) ?_
  refine lv_icmp_ne (tgt := 33) hx hb dX11_aimOf_7 (by decide) (fun c3 => ?_) (fun c3 => ?_)
  · have h4 := pp_f c3 h2
    clear h2
    refine lv_aload_n hx hb dX11_aimOf_33 rfl (lv_at hl 0 rfl) ?_
    refine rr_get X G 3 (by decide) hf19 (v := .ref (g.2.2.2 3)) rfl dX11_aimOf_34 ?_
    refine lv_iload_n hx hb dX11_aimOf_37 rfl (lv_at hl 1 rfl) ?_
    refine rr_iald X G ra_3 hi1 dX11_aimOf_38 ?_
    exact rr_iretR X hr hlk rfl G h4 hQ dX11_aimOf_39
  · have h5 := pp_t c3 h2
    clear h2
    refine lv_aload_n hx hb dX11_aimOf_10 rfl (lv_at hl 0 rfl) ?_
    refine rr_get X G 3 (by decide) hf19 (v := .ref (g.2.2.2 3)) rfl dX11_aimOf_11 ?_
    refine lv_iload_n hx hb dX11_aimOf_14 rfl (lv_at hl 1 rfl) ?_
    refine rr_iald X G ra_3 hi1 dX11_aimOf_15 ?_
    refine lv_aload_n hx hb dX11_aimOf_16 rfl (lv_at hl 0 rfl) ?_
    refine rr_get X G 10 (by decide) hf165 (v := .int (q.1 10)) rfl dX11_aimOf_17 ?_
    refine lv_bipush (v := 10) hx hb dX11_aimOf_20 (by decide) ?_
    refine lv_idiv hx hb dX11_aimOf_22 (by decide) ?_
    refine lv_isub hx hb dX11_aimOf_23 ?_
    refine lv_iconst (v := 0) hx hb dX11_aimOf_24 (by decide) ?_
    refine lv_bipush (v := 9) hx hb dX11_aimOf_25 (by decide) ?_
    obtain ⟨r6, hc6, h7⟩ := pp_ob_ex h5
    clear h5
    refine rr_csi X G (ctX11_clamped l _ _ _ hc6) (va_cwS 3 hts gX11_aimOf_X11_clamped rfl rfl rfl (by decide +kernel) ⟨Nat.le_of_ble_eq_true rfl, Nat.le_of_ble_eq_true rfl⟩) (rest := []) rfl hl.1 rfl (Nat.le_of_ble_eq_true rfl) dX11_aimOf_27 (fun H locs G => ?_)
    refine lv_goto (tgt := 39) hx hb dX11_aimOf_30 (by decide) ?_
    exact rr_iretR X hr hlk rfl G h7 hQ dX11_aimOf_39
noncomputable def R_dodgeOf (q : rr_S) (v1 : Int32) : Option Int32 := pp_ix v1 8 (pp_lj (fun (a3 : Int32) => (pp_lj (fun (a6 : Unit) => (some a3 : Option Int32)) (fun j6 => (if (q.2.1 2 (Int32.toNatClampNeg v1)) = (4 : Int32) then pp_ob (R_holds q v1) (fun r12 => (if r12 = (0 : Int32) then j6 () else some (a3 + (2 : Int32)))) else j6 ())) : Option Int32)) (fun j3 => pp_lj (fun (a17 : Unit) => (j3 ((q.2.1 4 (Int32.toNatClampNeg v1)) + (3 : Int32)) : Option Int32)) (fun j17 => (if (q.2.1 2 (Int32.toNatClampNeg v1)) = (1 : Int32) then j17 () else (if (q.2.1 2 (Int32.toNatClampNeg v1)) = (4 : Int32) then j17 () else j3 (q.2.1 4 (Int32.toNatClampNeg v1)))))))
abbrev rmX11_dodgeOf : Room := { frames := 1, cells := 0, slots := 0, locals := 23 }
set_option maxHeartbeats 4000000 in
set_option maxRecDepth 100000 in
theorem ctX11_dodgeOf (l : Launch) (g : rr_G) (q : rr_S) (v1 : Int32) {res : Int32} (h : R_dodgeOf q v1 = some res) : rr_Mi l yX11_dodgeOf wsX11_dodgeOf rmX11_dodgeOf g q [.int v1] (res, q) := by
  intro sz
  unfold R_dodgeOf at h
  refine rr_ofW (by decide) rfl rfl (fun _ z => List.mem_cons_of_mem _ (List.mem_append_right _ z)) (Nat.le_of_ble_eq_true rfl) ?_
  intro p e s m args below meth c ls X hr hlk hsz G hl Q hQ
  subst hsz
  have hx := X.1.1
  have hb := X.1.2.1
  have hown := X.1.2.2.2.1
  have hts := X.1.2.2.2.2
  refine (fun (key : ∀ (H : Heap) (locs : List Loc), rr_H g q s H locs → W p l e (headSpec wsX11_dodgeOf rmX11_dodgeOf).room s m args below meth c H locs 0 0 Q (F0 m 0 ls [])) => key _ _ G) ?_
  clear G
  intro H locs G
  have hl : lv_has ls 3 [(0, .ref (g.2.2.2 28)), (1, .int v1)] := hl
  have hf16 : Cond.fieldLink RX11 16 (TX11 2).1 (TX11 2).2.1 (TX11 2).2.2.1 ∈ wsX11_dodgeOf := by decide +kernel
  have hf22 : Cond.fieldLink RX11 22 (TX11 4).1 (TX11 4).2.1 (TX11 4).2.2.1 ∈ wsX11_dodgeOf := by decide +kernel
  refine lv_aload_n hx hb dX11_dodgeOf_0 rfl (lv_at hl 0 rfl) ?_
  refine rr_get X G 2 (by decide) hf16 (v := .ref (g.2.2.2 2)) rfl dX11_dodgeOf_1 ?_
  refine lv_iload_n hx hb dX11_dodgeOf_4 rfl (lv_at hl 1 rfl) ?_
  obtain ⟨hi1, h2⟩ := pp_ix_ex h
  clear h
  refine rr_iald X G ra_2 hi1 dX11_dodgeOf_5 ?_
  refine lv_iconst (v := 1) hx hb dX11_dodgeOf_6 (by decide) ?_
  obtain ⟨j3, ej3, h4⟩ := pp_lj_ex h2
  clear h2
  have hj3 : ∀ (a3 : Int32) (H : Heap) (locs : List Loc) (ls : Array Slot), j3 a3 = some res → rr_H g q s H locs → lv_has ls 3 [(0, .ref (g.2.2.2 28)), (1, .int v1)] → W p l e (headSpec wsX11_dodgeOf rmX11_dodgeOf).room s m args below meth c H locs 0 0 Q (F0 m 37 ls [.int a3]) := by
    intro a3 H locs ls h G hl
    have h5 := pp_jmp ej3 h
    clear h h4
    refine lv_istore_n (lv' := [(2, .int a3), (0, .ref (g.2.2.2 28)), (1, .int v1)]) hx hb dX11_dodgeOf_37 rfl hl (by decide) rfl (fun ls hl => ?_)
    refine lv_aload_n hx hb dX11_dodgeOf_38 rfl (lv_at hl 1 rfl) ?_
    refine rr_get X G 2 (by decide) hf16 (v := .ref (g.2.2.2 2)) rfl dX11_dodgeOf_39 ?_
    refine lv_iload_n hx hb dX11_dodgeOf_42 rfl (lv_at hl 2 rfl) ?_
    refine rr_iald X G ra_2 hi1 dX11_dodgeOf_43 ?_
    refine lv_iconst (v := 4) hx hb dX11_dodgeOf_44 (by decide) ?_
    obtain ⟨j6, ej6, h7⟩ := pp_lj_ex h5
    clear h5
    have hj6 : ∀ (a6 : Unit) (H : Heap) (locs : List Loc) (ls : Array Slot), j6 a6 = some res → rr_H g q s H locs → lv_has ls 3 [(2, .int a3)] → W p l e (headSpec wsX11_dodgeOf rmX11_dodgeOf).room s m args below meth c H locs 0 0 Q (F0 m 62 ls []) := by
      intro a6 H locs ls h G hl
      have h8 := pp_jmp ej6 h
      clear h h7
      refine lv_iload_n hx hb dX11_dodgeOf_62 rfl (lv_at hl 0 rfl) ?_
      exact rr_iretR X hr hlk rfl G h8 hQ dX11_dodgeOf_63
    refine lv_icmp_ne (tgt := 62) hx hb dX11_dodgeOf_45 (by decide) (fun c9 => ?_) (fun c9 => ?_)
    · have h10 := pp_f c9 h7
      clear h7
      exact hj6 _ H locs ls h10 G (lv_sub hl [0] rfl)
    · have h11 := pp_t c9 h7
      clear h7
      refine lv_aload_n hx hb dX11_dodgeOf_48 rfl (lv_at hl 1 rfl) ?_
      refine lv_iload_n hx hb dX11_dodgeOf_49 rfl (lv_at hl 2 rfl) ?_
      obtain ⟨r12, hc12, h13⟩ := pp_ob_ex h11
      clear h11
      refine rr_cali X G (ctX11_holds l g _ _ hc12) (cwV 1 hts gX11_dodgeOf_X11_holds rfl rfl rfl (by decide +kernel) ⟨Nat.le_of_ble_eq_true rfl, Nat.le_of_ble_eq_true rfl⟩) (rest := []) rfl hl.1 rfl (Nat.le_of_ble_eq_true rfl) dX11_dodgeOf_50 (fun H locs G => ?_)
      refine lv_if_eq (tgt := 62) hx hb dX11_dodgeOf_53 (by decide) (fun c14 => ?_) (fun c14 => ?_)
      · have h15 := pp_t c14 h13
        clear h13
        exact hj6 _ H locs ls h15 G (lv_sub hl [0] rfl)
      · have h16 := pp_f c14 h13
        clear h13
        refine lv_iload_n hx hb dX11_dodgeOf_56 rfl (lv_at hl 0 rfl) ?_
        refine lv_iconst (v := 2) hx hb dX11_dodgeOf_57 (by decide) ?_
        refine lv_iadd hx hb dX11_dodgeOf_58 ?_
        refine lv_goto (tgt := 63) hx hb dX11_dodgeOf_59 (by decide) ?_
        exact rr_iretR X hr hlk rfl G h16 hQ dX11_dodgeOf_63
  obtain ⟨j17, ej17, h18⟩ := pp_lj_ex h4
  clear h4
  have hj17 : ∀ (a17 : Unit) (H : Heap) (locs : List Loc) (ls : Array Slot), j17 a17 = some res → rr_H g q s H locs → lv_has ls 3 [(0, .ref (g.2.2.2 28)), (1, .int v1)] → W p l e (headSpec wsX11_dodgeOf rmX11_dodgeOf).room s m args below meth c H locs 0 0 Q (F0 m 20 ls []) := by
    intro a17 H locs ls h G hl
    have h19 := pp_jmp ej17 h
    clear h h18
    refine lv_aload_n hx hb dX11_dodgeOf_20 rfl (lv_at hl 0 rfl) ?_
    refine rr_get X G 4 (by decide) hf22 (v := .ref (g.2.2.2 4)) rfl dX11_dodgeOf_21 ?_
    refine lv_iload_n hx hb dX11_dodgeOf_24 rfl (lv_at hl 1 rfl) ?_
    refine rr_iald X G ra_4 hi1 dX11_dodgeOf_25 ?_
    refine lv_iconst (v := 3) hx hb dX11_dodgeOf_26 (by decide) ?_
    refine lv_iadd hx hb dX11_dodgeOf_27 ?_
    refine lv_goto (tgt := 37) hx hb dX11_dodgeOf_28 (by decide) ?_
    exact hj3 _ H locs ls h19 G hl
  refine lv_icmp_eq (tgt := 20) hx hb dX11_dodgeOf_7 (by decide) (fun c20 => ?_) (fun c20 => ?_)
  · have h21 := pp_t c20 h18
    clear h18
    exact hj17 _ H locs ls h21 G hl
  · have h22 := pp_f c20 h18
    clear h18
    refine lv_aload_n hx hb dX11_dodgeOf_10 rfl (lv_at hl 0 rfl) ?_
    refine rr_get X G 2 (by decide) hf16 (v := .ref (g.2.2.2 2)) rfl dX11_dodgeOf_11 ?_
    refine lv_iload_n hx hb dX11_dodgeOf_14 rfl (lv_at hl 1 rfl) ?_
    refine rr_iald X G ra_2 hi1 dX11_dodgeOf_15 ?_
    refine lv_iconst (v := 4) hx hb dX11_dodgeOf_16 (by decide) ?_
    refine lv_icmp_ne (tgt := 31) hx hb dX11_dodgeOf_17 (by decide) (fun c23 => ?_) (fun c23 => ?_)
    · have h24 := pp_f c23 h22
      clear h22
      refine lv_aload_n hx hb dX11_dodgeOf_31 rfl (lv_at hl 0 rfl) ?_
      refine rr_get X G 4 (by decide) hf22 (v := .ref (g.2.2.2 4)) rfl dX11_dodgeOf_32 ?_
      refine lv_iload_n hx hb dX11_dodgeOf_35 rfl (lv_at hl 1 rfl) ?_
      refine rr_iald X G ra_4 hi1 dX11_dodgeOf_36 ?_
      exact hj3 _ H locs ls h24 G hl
    · have h25 := pp_t c23 h22
      clear h22
      exact hj17 _ H locs ls h25 G hl
noncomputable def R_graspOf (q : rr_S) (v1 : Int32) : Option Int32 := pp_ix v1 8 (pp_lj ((((q.2.1 3 (Int32.toNatClampNeg v1)) + (q.2.1 4 (Int32.toNatClampNeg v1))) / (2 : Int32)) : Int32) (fun x3 => pp_lj (fun (a5 : Unit) => (pp_lj (fun (a8 : Unit) => (some (x3 + (4 : Int32)) : Option Int32)) (fun j8 => (if (q.2.1 2 (Int32.toNatClampNeg v1)) = (5 : Int32) then (if (q.2.1 5 (Int32.toNatClampNeg v1)) = (0 : Int32) then pp_ob (R_hereOf q (q.2.1 1 (Int32.toNatClampNeg v1))) (fun r17 => (if r17 = (1 : Int32) then some (((2 : Int32) * x3) + (8 : Int32)) else j8 ())) else j8 ()) else j8 ())) : Option Int32)) (fun j5 => (if (q.2.1 2 (Int32.toNatClampNeg v1)) = (2 : Int32) then j5 () else (if (q.2.1 2 (Int32.toNatClampNeg v1)) = (5 : Int32) then j5 () else some x3)))))
abbrev rmX11_graspOf : Room := { frames := 1, cells := 0, slots := 0, locals := 23 }
set_option maxHeartbeats 4000000 in
set_option maxRecDepth 100000 in
theorem ctX11_graspOf (l : Launch) (g : rr_G) (q : rr_S) (v1 : Int32) {res : Int32} (h : R_graspOf q v1 = some res) : rr_Mi l yX11_graspOf wsX11_graspOf rmX11_graspOf g q [.int v1] (res, q) := by
  intro sz
  unfold R_graspOf at h
  refine rr_ofW (by decide) rfl rfl (fun _ z => List.mem_cons_of_mem _ (List.mem_append_right _ z)) (Nat.le_of_ble_eq_true rfl) ?_
  intro p e s m args below meth c ls X hr hlk hsz G hl Q hQ
  subst hsz
  have hx := X.1.1
  have hb := X.1.2.1
  have hown := X.1.2.2.2.1
  have hts := X.1.2.2.2.2
  refine (fun (key : ∀ (H : Heap) (locs : List Loc), rr_H g q s H locs → W p l e (headSpec wsX11_graspOf rmX11_graspOf).room s m args below meth c H locs 0 0 Q (F0 m 0 ls [])) => key _ _ G) ?_
  clear G
  intro H locs G
  have hl : lv_has ls 3 [(0, .ref (g.2.2.2 28)), (1, .int v1)] := hl
  have hf13 : Cond.fieldLink RX11 13 (TX11 1).1 (TX11 1).2.1 (TX11 1).2.2.1 ∈ wsX11_graspOf := by decide +kernel
  have hf16 : Cond.fieldLink RX11 16 (TX11 2).1 (TX11 2).2.1 (TX11 2).2.2.1 ∈ wsX11_graspOf := by decide +kernel
  have hf19 : Cond.fieldLink RX11 19 (TX11 3).1 (TX11 3).2.1 (TX11 3).2.2.1 ∈ wsX11_graspOf := by decide +kernel
  have hf22 : Cond.fieldLink RX11 22 (TX11 4).1 (TX11 4).2.1 (TX11 4).2.2.1 ∈ wsX11_graspOf := by decide +kernel
  have hf25 : Cond.fieldLink RX11 25 (TX11 5).1 (TX11 5).2.1 (TX11 5).2.2.1 ∈ wsX11_graspOf := by decide +kernel
  refine lv_aload_n hx hb dX11_graspOf_0 rfl (lv_at hl 0 rfl) ?_
  refine rr_get X G 3 (by decide) hf19 (v := .ref (g.2.2.2 3)) rfl dX11_graspOf_1 ?_
  refine lv_iload_n hx hb dX11_graspOf_4 rfl (lv_at hl 1 rfl) ?_
  obtain ⟨hi1, h2⟩ := pp_ix_ex h
  clear h
  refine rr_iald X G ra_3 hi1 dX11_graspOf_5 ?_
  refine lv_aload_n hx hb dX11_graspOf_6 rfl (lv_at hl 0 rfl) ?_
  refine rr_get X G 4 (by decide) hf22 (v := .ref (g.2.2.2 4)) rfl dX11_graspOf_7 ?_
  refine lv_iload_n hx hb dX11_graspOf_10 rfl (lv_at hl 1 rfl) ?_
  refine rr_iald X G ra_4 hi1 dX11_graspOf_11 ?_
  refine lv_iadd hx hb dX11_graspOf_12 ?_
  refine lv_iconst (v := 2) hx hb dX11_graspOf_13 (by decide) ?_
  refine lv_idiv hx hb dX11_graspOf_14 (by decide) ?_
  obtain ⟨x3, ex3, h4⟩ := pp_lj_ex h2
  clear h2
  refine lv_nmi ex3 ?_
  refine lv_istore_n (lv' := [(2, .int x3), (0, .ref (g.2.2.2 28)), (1, .int v1)]) hx hb dX11_graspOf_15 rfl hl (by decide) rfl (fun ls hl => ?_)
  refine lv_aload_n hx hb dX11_graspOf_16 rfl (lv_at hl 1 rfl) ?_
  refine rr_get X G 2 (by decide) hf16 (v := .ref (g.2.2.2 2)) rfl dX11_graspOf_17 ?_
  refine lv_iload_n hx hb dX11_graspOf_20 rfl (lv_at hl 2 rfl) ?_
  refine rr_iald X G ra_2 hi1 dX11_graspOf_21 ?_
  refine lv_iconst (v := 2) hx hb dX11_graspOf_22 (by decide) ?_
  obtain ⟨j5, ej5, h6⟩ := pp_lj_ex h4
  clear h4
  have hj5 : ∀ (a5 : Unit) (H : Heap) (locs : List Loc) (ls : Array Slot), j5 a5 = some res → rr_H g q s H locs → lv_has ls 3 [(0, .ref (g.2.2.2 28)), (1, .int v1), (2, .int x3)] → W p l e (headSpec wsX11_graspOf rmX11_graspOf).room s m args below meth c H locs 0 0 Q (F0 m 38 ls []) := by
    intro a5 H locs ls h G hl
    have h7 := pp_jmp ej5 h
    clear h h6
    refine lv_aload_n hx hb dX11_graspOf_38 rfl (lv_at hl 0 rfl) ?_
    refine rr_get X G 2 (by decide) hf16 (v := .ref (g.2.2.2 2)) rfl dX11_graspOf_39 ?_
    refine lv_iload_n hx hb dX11_graspOf_42 rfl (lv_at hl 1 rfl) ?_
    refine rr_iald X G ra_2 hi1 dX11_graspOf_43 ?_
    refine lv_iconst (v := 5) hx hb dX11_graspOf_44 (by decide) ?_
    obtain ⟨j8, ej8, h9⟩ := pp_lj_ex h7
    clear h7
    have hj8 : ∀ (a8 : Unit) (H : Heap) (locs : List Loc) (ls : Array Slot), j8 a8 = some res → rr_H g q s H locs → lv_has ls 3 [(2, .int x3)] → W p l e (headSpec wsX11_graspOf rmX11_graspOf).room s m args below meth c H locs 0 0 Q (F0 m 80 ls []) := by
      intro a8 H locs ls h G hl
      have h10 := pp_jmp ej8 h
      clear h h9
      refine lv_iload_n hx hb dX11_graspOf_80 rfl (lv_at hl 0 rfl) ?_
      refine lv_iconst (v := 4) hx hb dX11_graspOf_81 (by decide) ?_
      refine lv_iadd hx hb dX11_graspOf_82 ?_
      exact rr_iretR X hr hlk rfl G h10 hQ dX11_graspOf_83
    refine lv_icmp_ne (tgt := 80) hx hb dX11_graspOf_45 (by decide) (fun c11 => ?_) (fun c11 => ?_)
    · have h12 := pp_f c11 h9
      clear h9
      exact hj8 _ H locs ls h12 G (lv_sub hl [2] rfl)
    · have h13 := pp_t c11 h9
      clear h9
      refine lv_aload_n hx hb dX11_graspOf_48 rfl (lv_at hl 0 rfl) ?_
      refine rr_get X G 5 (by decide) hf25 (v := .ref (g.2.2.2 5)) rfl dX11_graspOf_49 ?_
      refine lv_iload_n hx hb dX11_graspOf_52 rfl (lv_at hl 1 rfl) ?_
      refine rr_iald X G ra_5 hi1 dX11_graspOf_53 ?_
      refine lv_if_ne (tgt := 80) hx hb dX11_graspOf_54 (by decide) (fun c14 => ?_) (fun c14 => ?_)
      · have h15 := pp_f c14 h13
        clear h13
        exact hj8 _ H locs ls h15 G (lv_sub hl [2] rfl)
      · have h16 := pp_t c14 h13
        clear h13
        refine lv_aload_n hx hb dX11_graspOf_57 rfl (lv_at hl 0 rfl) ?_
        refine lv_aload_n hx hb dX11_graspOf_58 rfl (lv_at hl 0 rfl) ?_
        refine rr_get X G 1 (by decide) hf13 (v := .ref (g.2.2.2 1)) rfl dX11_graspOf_59 ?_
        refine lv_iload_n hx hb dX11_graspOf_62 rfl (lv_at hl 1 rfl) ?_
        refine rr_iald X G ra_1 hi1 dX11_graspOf_63 ?_
        obtain ⟨r17, hc17, h18⟩ := pp_ob_ex h16
        clear h16
        refine rr_cali X G (ctX11_hereOf l g _ _ hc17) (cwV 1 hts gX11_graspOf_X11_hereOf rfl rfl rfl (by decide +kernel) ⟨Nat.le_of_ble_eq_true rfl, Nat.le_of_ble_eq_true rfl⟩) (rest := []) rfl hl.1 rfl (Nat.le_of_ble_eq_true rfl) dX11_graspOf_64 (fun H locs G => ?_)
        refine lv_iconst (v := 1) hx hb dX11_graspOf_67 (by decide) ?_
        refine lv_icmp_ne (tgt := 80) hx hb dX11_graspOf_68 (by decide) (fun c19 => ?_) (fun c19 => ?_)
        · have h20 := pp_f c19 h18
          clear h18
          exact hj8 _ H locs ls h20 G (lv_sub hl [2] rfl)
        · have h21 := pp_t c19 h18
          clear h18
          refine lv_iconst (v := 2) hx hb dX11_graspOf_71 (by decide) ?_
          refine lv_iload_n hx hb dX11_graspOf_72 rfl (lv_at hl 2 rfl) ?_
          refine lv_imul hx hb dX11_graspOf_73 ?_
          refine lv_bipush (v := 8) hx hb dX11_graspOf_74 (by decide) ?_
          refine lv_iadd hx hb dX11_graspOf_76 ?_
          refine lv_goto (tgt := 83) hx hb dX11_graspOf_77 (by decide) ?_
          exact rr_iretR X hr hlk rfl G h21 hQ dX11_graspOf_83
  refine lv_icmp_eq (tgt := 38) hx hb dX11_graspOf_23 (by decide) (fun c22 => ?_) (fun c22 => ?_)
  · have h23 := pp_t c22 h6
    clear h6
    exact hj5 _ H locs ls h23 G (lv_sub hl [1, 2, 0] rfl)
  · have h24 := pp_f c22 h6
    clear h6
    refine lv_aload_n hx hb dX11_graspOf_26 rfl (lv_at hl 1 rfl) ?_
    refine rr_get X G 2 (by decide) hf16 (v := .ref (g.2.2.2 2)) rfl dX11_graspOf_27 ?_
    refine lv_iload_n hx hb dX11_graspOf_30 rfl (lv_at hl 2 rfl) ?_
    refine rr_iald X G ra_2 hi1 dX11_graspOf_31 ?_
    refine lv_iconst (v := 5) hx hb dX11_graspOf_32 (by decide) ?_
    refine lv_icmp_eq (tgt := 38) hx hb dX11_graspOf_33 (by decide) (fun c25 => ?_) (fun c25 => ?_)
    · have h26 := pp_t c25 h24
      clear h24
      exact hj5 _ H locs ls h26 G (lv_sub hl [1, 2, 0] rfl)
    · have h27 := pp_f c25 h24
      clear h24
      refine lv_iload_n hx hb dX11_graspOf_36 rfl (lv_at hl 0 rfl) ?_
      exact rr_iretR X hr hlk rfl G h27 hQ dX11_graspOf_37
noncomputable def R_hitOf (q : rr_S) (v1 : Int32) (v2 : Int32) (v3 : Int32) : Option Int32 := pp_ob (R_aimOf q v1) (fun r1 => pp_ob (R_dodgeOf q v2) (fun r3 => pp_lj (fun (a5 : Int32) => (pp_ob (R_clamped ((((10 : Int32) + r1) - r3) + a5) (1 : Int32) (19 : Int32)) (fun r8 => some r8) : Option Int32)) (fun j5 => (if v3 = (0 : Int32) then j5 (4 : Int32) else (if v3 = (1 : Int32) then j5 (2 : Int32) else j5 (-4 : Int32))))))
abbrev rmX11_hitOf : Room := { frames := 2, cells := 0, slots := 0, locals := 45 }
set_option maxHeartbeats 4000000 in
set_option maxRecDepth 100000 in
theorem ctX11_hitOf (l : Launch) (g : rr_G) (q : rr_S) (v1 : Int32) (v2 : Int32) (v3 : Int32) {res : Int32} (h : R_hitOf q v1 v2 v3 = some res) : rr_Mi l yX11_hitOf wsX11_hitOf rmX11_hitOf g q [.int v1, .int v2, .int v3] (res, q) := by
  intro sz
  unfold R_hitOf at h
  refine rr_ofW (by decide) rfl rfl (fun _ z => List.mem_cons_of_mem _ (List.mem_append_right _ z)) (Nat.le_of_ble_eq_true rfl) ?_
  intro p e s m args below meth c ls X hr hlk hsz G hl Q hQ
  subst hsz
  have hx := X.1.1
  have hb := X.1.2.1
  have hown := X.1.2.2.2.1
  have hts := X.1.2.2.2.2
  refine (fun (key : ∀ (H : Heap) (locs : List Loc), rr_H g q s H locs → W p l e (headSpec wsX11_hitOf rmX11_hitOf).room s m args below meth c H locs 0 0 Q (F0 m 0 ls [])) => key _ _ G) ?_
  clear G
  intro H locs G
  have hl : lv_has ls 4 [(0, .ref (g.2.2.2 28)), (1, .int v1), (2, .int v2), (3, .int v3)] := hl
  refine lv_bipush (v := 10) hx hb dX11_hitOf_0 (by decide) ?_
  refine lv_aload_n hx hb dX11_hitOf_2 rfl (lv_at hl 0 rfl) ?_
  refine lv_iload_n hx hb dX11_hitOf_3 rfl (lv_at hl 1 rfl) ?_
  obtain ⟨r1, hc1, h2⟩ := pp_ob_ex h
  clear h
  refine rr_cali X G (ctX11_aimOf l g _ _ hc1) (cwV 1 hts gX11_hitOf_X11_aimOf rfl rfl rfl (by decide +kernel) ⟨Nat.le_of_ble_eq_true rfl, Nat.le_of_ble_eq_true rfl⟩) (rest := [.int (10 : Int32)]) rfl hl.1 rfl (Nat.le_of_ble_eq_true rfl) dX11_hitOf_4 (fun H locs G => ?_)
  refine lv_iadd hx hb dX11_hitOf_7 ?_
  refine lv_aload_n hx hb dX11_hitOf_8 rfl (lv_at hl 0 rfl) ?_
  refine lv_iload_n hx hb dX11_hitOf_9 rfl (lv_at hl 2 rfl) ?_
  obtain ⟨r3, hc3, h4⟩ := pp_ob_ex h2
  clear h2
  refine rr_cali X G (ctX11_dodgeOf l g _ _ hc3) (cwV 1 hts gX11_hitOf_X11_dodgeOf rfl rfl rfl (by decide +kernel) ⟨Nat.le_of_ble_eq_true rfl, Nat.le_of_ble_eq_true rfl⟩) (rest := [.int ((10 : Int32) + r1)]) rfl hl.1 rfl (Nat.le_of_ble_eq_true rfl) dX11_hitOf_10 (fun H locs G => ?_)
  refine lv_isub hx hb dX11_hitOf_13 ?_
  refine lv_iload_n hx hb dX11_hitOf_14 rfl (lv_at hl 3 rfl) ?_
  obtain ⟨j5, ej5, h6⟩ := pp_lj_ex h4
  clear h4
  have hj5 : ∀ (a5 : Int32) (H : Heap) (locs : List Loc) (ls : Array Slot), j5 a5 = some res → rr_H g q s H locs → lv_has ls 4 [] → W p l e (headSpec wsX11_hitOf rmX11_hitOf).room s m args below meth c H locs 0 0 Q (F0 m 33 ls [.int a5, .int (((10 : Int32) + r1) - r3)]) := by
    intro a5 H locs ls h G hl
    have h7 := pp_jmp ej5 h
    clear h h6
    refine lv_iadd hx hb dX11_hitOf_33 ?_
    refine lv_iconst (v := 1) hx hb dX11_hitOf_34 (by decide) ?_
    refine lv_bipush (v := 19) hx hb dX11_hitOf_35 (by decide) ?_
    obtain ⟨r8, hc8, h9⟩ := pp_ob_ex h7
    clear h7
    refine rr_csi X G (ctX11_clamped l _ _ _ hc8) (va_cwS 3 hts gX11_hitOf_X11_clamped rfl rfl rfl (by decide +kernel) ⟨Nat.le_of_ble_eq_true rfl, Nat.le_of_ble_eq_true rfl⟩) (rest := []) rfl hl.1 rfl (Nat.le_of_ble_eq_true rfl) dX11_hitOf_37 (fun H locs G => ?_)
    exact rr_iretR X hr hlk rfl G h9 hQ dX11_hitOf_40
  refine lv_if_ne (tgt := 22) hx hb dX11_hitOf_15 (by decide) (fun c10 => ?_) (fun c10 => ?_)
  · have h11 := pp_f c10 h6
    clear h6
    refine lv_iload_n hx hb dX11_hitOf_22 rfl (lv_at hl 3 rfl) ?_
    refine lv_iconst (v := 1) hx hb dX11_hitOf_23 (by decide) ?_
    refine lv_icmp_ne (tgt := 31) hx hb dX11_hitOf_24 (by decide) (fun c12 => ?_) (fun c12 => ?_)
    · have h13 := pp_f c12 h11
      clear h11
      refine lv_bipush (v := -4) hx hb dX11_hitOf_31 (by decide) ?_
      exact hj5 _ H locs ls h13 G (lv_sub hl [] rfl)
    · have h14 := pp_t c12 h11
      clear h11
      refine lv_iconst (v := 2) hx hb dX11_hitOf_27 (by decide) ?_
      refine lv_goto (tgt := 33) hx hb dX11_hitOf_28 (by decide) ?_
      exact hj5 _ H locs ls h14 G (lv_sub hl [] rfl)
  · have h15 := pp_t c10 h6
    clear h6
    refine lv_iconst (v := 4) hx hb dX11_hitOf_18 (by decide) ?_
    refine lv_goto (tgt := 33) hx hb dX11_hitOf_19 (by decide) ?_
    exact hj5 _ H locs ls h15 G (lv_sub hl [] rfl)
noncomputable def R_caughtOf (q : rr_S) (v1 : Int32) (v2 : Int32) : Option Int32 := pp_ob (R_graspOf q v1) (fun r1 => pp_lj (fun (a3 : Int32) => (pp_ob (R_clamped (r1 + a3) (1 : Int32) (19 : Int32)) (fun r6 => some r6) : Option Int32)) (fun j3 => (if v2 = (0 : Int32) then j3 (-3 : Int32) else (if v2 = (1 : Int32) then j3 (0 : Int32) else j3 (8 : Int32)))))
abbrev rmX11_caughtOf : Room := { frames := 2, cells := 0, slots := 0, locals := 45 }
set_option maxHeartbeats 4000000 in
set_option maxRecDepth 100000 in
theorem ctX11_caughtOf (l : Launch) (g : rr_G) (q : rr_S) (v1 : Int32) (v2 : Int32) {res : Int32} (h : R_caughtOf q v1 v2 = some res) : rr_Mi l yX11_caughtOf wsX11_caughtOf rmX11_caughtOf g q [.int v1, .int v2] (res, q) := by
  intro sz
  unfold R_caughtOf at h
  refine rr_ofW (by decide) rfl rfl (fun _ z => List.mem_cons_of_mem _ (List.mem_append_right _ z)) (Nat.le_of_ble_eq_true rfl) ?_
  intro p e s m args below meth c ls X hr hlk hsz G hl Q hQ
  subst hsz
  have hx := X.1.1
  have hb := X.1.2.1
  have hown := X.1.2.2.2.1
  have hts := X.1.2.2.2.2
  refine (fun (key : ∀ (H : Heap) (locs : List Loc), rr_H g q s H locs → W p l e (headSpec wsX11_caughtOf rmX11_caughtOf).room s m args below meth c H locs 0 0 Q (F0 m 0 ls [])) => key _ _ G) ?_
  clear G
  intro H locs G
  have hl : lv_has ls 3 [(0, .ref (g.2.2.2 28)), (1, .int v1), (2, .int v2)] := hl
  refine lv_aload_n hx hb dX11_caughtOf_0 rfl (lv_at hl 0 rfl) ?_
  refine lv_iload_n hx hb dX11_caughtOf_1 rfl (lv_at hl 1 rfl) ?_
  obtain ⟨r1, hc1, h2⟩ := pp_ob_ex h
  clear h
  refine rr_cali X G (ctX11_graspOf l g _ _ hc1) (cwV 1 hts gX11_caughtOf_X11_graspOf rfl rfl rfl (by decide +kernel) ⟨Nat.le_of_ble_eq_true rfl, Nat.le_of_ble_eq_true rfl⟩) (rest := []) rfl hl.1 rfl (Nat.le_of_ble_eq_true rfl) dX11_caughtOf_2 (fun H locs G => ?_)
  refine lv_iload_n hx hb dX11_caughtOf_5 rfl (lv_at hl 2 rfl) ?_
  obtain ⟨j3, ej3, h4⟩ := pp_lj_ex h2
  clear h2
  have hj3 : ∀ (a3 : Int32) (H : Heap) (locs : List Loc) (ls : Array Slot), j3 a3 = some res → rr_H g q s H locs → lv_has ls 3 [] → W p l e (headSpec wsX11_caughtOf rmX11_caughtOf).room s m args below meth c H locs 0 0 Q (F0 m 25 ls [.int a3, .int r1]) := by
    intro a3 H locs ls h G hl
    have h5 := pp_jmp ej3 h
    clear h h4
    refine lv_iadd hx hb dX11_caughtOf_25 ?_
    refine lv_iconst (v := 1) hx hb dX11_caughtOf_26 (by decide) ?_
    refine lv_bipush (v := 19) hx hb dX11_caughtOf_27 (by decide) ?_
    obtain ⟨r6, hc6, h7⟩ := pp_ob_ex h5
    clear h5
    refine rr_csi X G (ctX11_clamped l _ _ _ hc6) (va_cwS 3 hts gX11_caughtOf_X11_clamped rfl rfl rfl (by decide +kernel) ⟨Nat.le_of_ble_eq_true rfl, Nat.le_of_ble_eq_true rfl⟩) (rest := []) rfl hl.1 rfl (Nat.le_of_ble_eq_true rfl) dX11_caughtOf_29 (fun H locs G => ?_)
    exact rr_iretR X hr hlk rfl G h7 hQ dX11_caughtOf_32
  refine lv_if_ne (tgt := 14) hx hb dX11_caughtOf_6 (by decide) (fun c8 => ?_) (fun c8 => ?_)
  · have h9 := pp_f c8 h4
    clear h4
    refine lv_iload_n hx hb dX11_caughtOf_14 rfl (lv_at hl 2 rfl) ?_
    refine lv_iconst (v := 1) hx hb dX11_caughtOf_15 (by decide) ?_
    refine lv_icmp_ne (tgt := 23) hx hb dX11_caughtOf_16 (by decide) (fun c10 => ?_) (fun c10 => ?_)
    · have h11 := pp_f c10 h9
      clear h9
      refine lv_bipush (v := 8) hx hb dX11_caughtOf_23 (by decide) ?_
      exact hj3 _ H locs ls h11 G (lv_sub hl [] rfl)
    · have h12 := pp_t c10 h9
      clear h9
      refine lv_iconst (v := 0) hx hb dX11_caughtOf_19 (by decide) ?_
      refine lv_goto (tgt := 25) hx hb dX11_caughtOf_20 (by decide) ?_
      exact hj3 _ H locs ls h12 G (lv_sub hl [] rfl)
  · have h13 := pp_t c8 h4
    clear h4
    refine lv_bipush (v := -3) hx hb dX11_caughtOf_9 (by decide) ?_
    refine lv_goto (tgt := 25) hx hb dX11_caughtOf_11 (by decide) ?_
    exact hj3 _ H locs ls h13 G (lv_sub hl [] rfl)
noncomputable def R_player (q : rr_S) (v1 : Int32) (v2 : Int32) : Option (Int32 × rr_S) := pp_ob (R_isPlayer q v1) (fun r1 => (if r1 = (0 : Int32) then pp_ob (R_no q (-1 : Int32)) (fun r46 => some (r46.1, r46.2)) else (if v2 = (0 : Int32) then pp_ix v1 8 (some ((q.2.1 1 (Int32.toNatClampNeg v1)), q)) else (if v2 = (1 : Int32) then pp_ix v1 8 (some ((q.2.1 2 (Int32.toNatClampNeg v1)), q)) else (if v2 = (2 : Int32) then pp_ix v1 8 ((if (q.2.1 5 (Int32.toNatClampNeg v1)) = (0 : Int32) then some ((1 : Int32), q) else some ((0 : Int32), q))) else (if v2 = (3 : Int32) then pp_ob (R_holds q v1) (fun r26 => some (r26, q)) else (if v2 = (4 : Int32) then pp_ob (R_aimOf q v1) (fun r31 => some (r31, q)) else (if v2 = (5 : Int32) then pp_ob (R_dodgeOf q v1) (fun r36 => some (r36, q)) else (if v2 = (6 : Int32) then pp_ob (R_graspOf q v1) (fun r41 => some (r41, q)) else pp_ob (R_no q (-2 : Int32)) (fun r43 => some (r43.1, r43.2)))))))))))
abbrev rmX11_player : Room := { frames := 2, cells := 0, slots := 0, locals := 45 }
set_option maxHeartbeats 4000000 in
set_option maxRecDepth 100000 in
theorem ctX11_player (l : Launch) (g : rr_G) (q : rr_S) (v1 : Int32) (v2 : Int32) {res : (Int32 × rr_S)} (h : R_player q v1 v2 = some res) : rr_Mi l yX11_player wsX11_player rmX11_player g q [.int v1, .int v2] res := by
  intro sz
  unfold R_player at h
  refine rr_ofW (by decide) rfl rfl (fun _ z => List.mem_cons_of_mem _ (List.mem_append_right _ z)) (Nat.le_of_ble_eq_true rfl) ?_
  intro p e s m args below meth c ls X hr hlk hsz G hl Q hQ
  subst hsz
  have hx := X.1.1
  have hb := X.1.2.1
  have hown := X.1.2.2.2.1
  have hts := X.1.2.2.2.2
  refine (fun (key : ∀ (H : Heap) (locs : List Loc), rr_H g q s H locs → W p l e (headSpec wsX11_player rmX11_player).room s m args below meth c H locs 0 0 Q (F0 m 0 ls [])) => key _ _ G) ?_
  clear G
  intro H locs G
  have hl : lv_has ls 3 [(0, .ref (g.2.2.2 28)), (1, .int v1), (2, .int v2)] := hl
  have hf13 : Cond.fieldLink RX11 13 (TX11 1).1 (TX11 1).2.1 (TX11 1).2.2.1 ∈ wsX11_player := by decide +kernel
  have hf16 : Cond.fieldLink RX11 16 (TX11 2).1 (TX11 2).2.1 (TX11 2).2.2.1 ∈ wsX11_player := by decide +kernel
  have hf25 : Cond.fieldLink RX11 25 (TX11 5).1 (TX11 5).2.1 (TX11 5).2.2.1 ∈ wsX11_player := by decide +kernel
  refine lv_aload_n hx hb dX11_player_0 rfl (lv_at hl 0 rfl) ?_
  refine lv_iload_n hx hb dX11_player_1 rfl (lv_at hl 1 rfl) ?_
  obtain ⟨r1, hc1, h2⟩ := pp_ob_ex h
  clear h
  refine rr_cali X G (ctX11_isPlayer l g _ _ hc1) (cwV 1 hts gX11_player_X11_isPlayer rfl rfl rfl (by decide +kernel) ⟨Nat.le_of_ble_eq_true rfl, Nat.le_of_ble_eq_true rfl⟩) (rest := []) rfl hl.1 rfl (Nat.le_of_ble_eq_true rfl) dX11_player_2 (fun H locs G => ?_)
  refine lv_if_ne (tgt := 14) hx hb dX11_player_5 (by decide) (fun c3 => ?_) (fun c3 => ?_)
  · have h4 := pp_f c3 h2
    clear h2
    refine lv_iload_n hx hb dX11_player_14 rfl (lv_at hl 2 rfl) ?_
    by_cases c5 : v2 = (0 : Int32)
    · have h6 := pp_t c5 h4
      clear h4
      refine lv_tableIn (off := 41) (tgt := 56) hx hb dX11_player_15 (by rw [c5]; decide) (by rw [c5]; decide) (by rw [c5]; decide) (by decide) ?_
      refine lv_aload_n hx hb dX11_player_56 rfl (lv_at hl 0 rfl) ?_
      refine rr_get X G 1 (by decide) hf13 (v := .ref (g.2.2.2 1)) rfl dX11_player_57 ?_
      refine lv_iload_n hx hb dX11_player_60 rfl (lv_at hl 1 rfl) ?_
      obtain ⟨hi8, h9⟩ := pp_ix_ex h6
      clear h6
      refine rr_iald X G ra_1 hi8 dX11_player_61 ?_
      exact rr_iret X hr hlk rfl G h9 hQ dX11_player_62
    have h7 := pp_f c5 h4
    clear h4
    by_cases c10 : v2 = (1 : Int32)
    · have h11 := pp_t c10 h7
      clear h7
      refine lv_tableIn (off := 48) (tgt := 63) hx hb dX11_player_15 (by rw [c10]; decide) (by rw [c10]; decide) (by rw [c10]; decide) (by decide) ?_
      refine lv_aload_n hx hb dX11_player_63 rfl (lv_at hl 0 rfl) ?_
      refine rr_get X G 2 (by decide) hf16 (v := .ref (g.2.2.2 2)) rfl dX11_player_64 ?_
      refine lv_iload_n hx hb dX11_player_67 rfl (lv_at hl 1 rfl) ?_
      obtain ⟨hi13, h14⟩ := pp_ix_ex h11
      clear h11
      refine rr_iald X G ra_2 hi13 dX11_player_68 ?_
      exact rr_iret X hr hlk rfl G h14 hQ dX11_player_69
    have h12 := pp_f c10 h7
    clear h7
    by_cases c15 : v2 = (2 : Int32)
    · have h16 := pp_t c15 h12
      clear h12
      refine lv_tableIn (off := 55) (tgt := 70) hx hb dX11_player_15 (by rw [c15]; decide) (by rw [c15]; decide) (by rw [c15]; decide) (by decide) ?_
      refine lv_aload_n hx hb dX11_player_70 rfl (lv_at hl 0 rfl) ?_
      refine rr_get X G 5 (by decide) hf25 (v := .ref (g.2.2.2 5)) rfl dX11_player_71 ?_
      refine lv_iload_n hx hb dX11_player_74 rfl (lv_at hl 1 rfl) ?_
      obtain ⟨hi18, h19⟩ := pp_ix_ex h16
      clear h16
      refine rr_iald X G ra_5 hi18 dX11_player_75 ?_
      refine lv_if_ne (tgt := 83) hx hb dX11_player_76 (by decide) (fun c20 => ?_) (fun c20 => ?_)
      · have h21 := pp_f c20 h19
        clear h19
        refine lv_iconst (v := 0) hx hb dX11_player_83 (by decide) ?_
        exact rr_iret X hr hlk rfl G h21 hQ dX11_player_84
      · have h22 := pp_t c20 h19
        clear h19
        refine lv_iconst (v := 1) hx hb dX11_player_79 (by decide) ?_
        refine lv_goto (tgt := 84) hx hb dX11_player_80 (by decide) ?_
        exact rr_iret X hr hlk rfl G h22 hQ dX11_player_84
    have h17 := pp_f c15 h12
    clear h12
    by_cases c23 : v2 = (3 : Int32)
    · have h24 := pp_t c23 h17
      clear h17
      refine lv_tableIn (off := 70) (tgt := 85) hx hb dX11_player_15 (by rw [c23]; decide) (by rw [c23]; decide) (by rw [c23]; decide) (by decide) ?_
      refine lv_aload_n hx hb dX11_player_85 rfl (lv_at hl 0 rfl) ?_
      refine lv_iload_n hx hb dX11_player_86 rfl (lv_at hl 1 rfl) ?_
      obtain ⟨r26, hc26, h27⟩ := pp_ob_ex h24
      clear h24
      refine rr_cali X G (ctX11_holds l g _ _ hc26) (cwV 1 hts gX11_player_X11_holds rfl rfl rfl (by decide +kernel) ⟨Nat.le_of_ble_eq_true rfl, Nat.le_of_ble_eq_true rfl⟩) (rest := []) rfl hl.1 rfl (Nat.le_of_ble_eq_true rfl) dX11_player_87 (fun H locs G => ?_)
      exact rr_iret X hr hlk rfl G h27 hQ dX11_player_90
    have h25 := pp_f c23 h17
    clear h17
    by_cases c28 : v2 = (4 : Int32)
    · have h29 := pp_t c28 h25
      clear h25
      refine lv_tableIn (off := 76) (tgt := 91) hx hb dX11_player_15 (by rw [c28]; decide) (by rw [c28]; decide) (by rw [c28]; decide) (by decide) ?_
      refine lv_aload_n hx hb dX11_player_91 rfl (lv_at hl 0 rfl) ?_
      refine lv_iload_n hx hb dX11_player_92 rfl (lv_at hl 1 rfl) ?_
      obtain ⟨r31, hc31, h32⟩ := pp_ob_ex h29
      clear h29
      refine rr_cali X G (ctX11_aimOf l g _ _ hc31) (cwV 1 hts gX11_player_X11_aimOf rfl rfl rfl (by decide +kernel) ⟨Nat.le_of_ble_eq_true rfl, Nat.le_of_ble_eq_true rfl⟩) (rest := []) rfl hl.1 rfl (Nat.le_of_ble_eq_true rfl) dX11_player_93 (fun H locs G => ?_)
      exact rr_iret X hr hlk rfl G h32 hQ dX11_player_96
    have h30 := pp_f c28 h25
    clear h25
    by_cases c33 : v2 = (5 : Int32)
    · have h34 := pp_t c33 h30
      clear h30
      refine lv_tableIn (off := 82) (tgt := 97) hx hb dX11_player_15 (by rw [c33]; decide) (by rw [c33]; decide) (by rw [c33]; decide) (by decide) ?_
      refine lv_aload_n hx hb dX11_player_97 rfl (lv_at hl 0 rfl) ?_
      refine lv_iload_n hx hb dX11_player_98 rfl (lv_at hl 1 rfl) ?_
      obtain ⟨r36, hc36, h37⟩ := pp_ob_ex h34
      clear h34
      refine rr_cali X G (ctX11_dodgeOf l g _ _ hc36) (cwV 1 hts gX11_player_X11_dodgeOf rfl rfl rfl (by decide +kernel) ⟨Nat.le_of_ble_eq_true rfl, Nat.le_of_ble_eq_true rfl⟩) (rest := []) rfl hl.1 rfl (Nat.le_of_ble_eq_true rfl) dX11_player_99 (fun H locs G => ?_)
      exact rr_iret X hr hlk rfl G h37 hQ dX11_player_102
    have h35 := pp_f c33 h30
    clear h30
    by_cases c38 : v2 = (6 : Int32)
    · have h39 := pp_t c38 h35
      clear h35
      refine lv_tableIn (off := 88) (tgt := 103) hx hb dX11_player_15 (by rw [c38]; decide) (by rw [c38]; decide) (by rw [c38]; decide) (by decide) ?_
      refine lv_aload_n hx hb dX11_player_103 rfl (lv_at hl 0 rfl) ?_
      refine lv_iload_n hx hb dX11_player_104 rfl (lv_at hl 1 rfl) ?_
      obtain ⟨r41, hc41, h42⟩ := pp_ob_ex h39
      clear h39
      refine rr_cali X G (ctX11_graspOf l g _ _ hc41) (cwV 1 hts gX11_player_X11_graspOf rfl rfl rfl (by decide +kernel) ⟨Nat.le_of_ble_eq_true rfl, Nat.le_of_ble_eq_true rfl⟩) (rest := []) rfl hl.1 rfl (Nat.le_of_ble_eq_true rfl) dX11_player_105 (fun H locs G => ?_)
      exact rr_iret X hr hlk rfl G h42 hQ dX11_player_108
    have h40 := pp_f c38 h35
    clear h35
    refine lv_tableOut (tgt := 109) hx hb dX11_player_15 (by have n0 := lv_neT c5 (a := 0) (by decide); have n1 := lv_neT c10 (a := 1) (by decide); have n2 := lv_neT c15 (a := 2) (by decide); have n3 := lv_neT c23 (a := 3) (by decide); have n4 := lv_neT c28 (a := 4) (by decide); have n5 := lv_neT c33 (a := 5) (by decide); have n6 := lv_neT c38 (a := 6) (by decide); omega) (by decide) ?_
    refine lv_aload_n hx hb dX11_player_109 rfl (lv_at hl 0 rfl) ?_
    refine lv_bipush (v := -2) hx hb dX11_player_110 (by decide) ?_
    obtain ⟨r43, hc43, h44⟩ := pp_ob_ex h40
    clear h40
    refine rr_cali X G (ctX11_no l g _ _ hc43) (cwV 1 hts gX11_player_X11_no rfl rfl rfl (by decide +kernel) ⟨Nat.le_of_ble_eq_true rfl, Nat.le_of_ble_eq_true rfl⟩) (rest := []) rfl hl.1 rfl (Nat.le_of_ble_eq_true rfl) dX11_player_112 (fun H locs G => ?_)
    exact rr_iret X hr hlk rfl G h44 hQ dX11_player_115
  · have h45 := pp_t c3 h2
    clear h2
    refine lv_aload_n hx hb dX11_player_8 rfl (lv_at hl 0 rfl) ?_
    refine lv_iconst (v := -1) hx hb dX11_player_9 (by decide) ?_
    obtain ⟨r46, hc46, h47⟩ := pp_ob_ex h45
    clear h45
    refine rr_cali X G (ctX11_no l g _ _ hc46) (cwV 1 hts gX11_player_X11_no rfl rfl rfl (by decide +kernel) ⟨Nat.le_of_ble_eq_true rfl, Nat.le_of_ble_eq_true rfl⟩) (rest := []) rfl hl.1 rfl (Nat.le_of_ble_eq_true rfl) dX11_player_10 (fun H locs G => ?_)
    exact rr_iret X hr hlk rfl G h47 hQ dX11_player_13
noncomputable def R_ball (q : rr_S) (v1 : Int32) (v2 : Int32) : Option (Int32 × rr_S) := pp_ob (R_isBall v1) (fun r1 => (if r1 = (0 : Int32) then pp_ob (R_no q (-1 : Int32)) (fun r23 => some (r23.1, r23.2)) else (if v2 = (0 : Int32) then pp_ix v1 6 (some ((q.2.1 6 (Int32.toNatClampNeg v1)), q)) else (if v2 = (1 : Int32) then pp_ix v1 6 (some ((q.2.1 7 (Int32.toNatClampNeg v1)), q)) else (if v2 = (2 : Int32) then pp_ix v1 6 (some ((q.2.1 8 (Int32.toNatClampNeg v1)), q)) else pp_ob (R_no q (-2 : Int32)) (fun r20 => some (r20.1, r20.2)))))))
abbrev rmX11_ball : Room := { frames := 1, cells := 0, slots := 0, locals := 21 }
set_option maxHeartbeats 4000000 in
set_option maxRecDepth 100000 in
theorem ctX11_ball (l : Launch) (g : rr_G) (q : rr_S) (v1 : Int32) (v2 : Int32) {res : (Int32 × rr_S)} (h : R_ball q v1 v2 = some res) : rr_Mi l yX11_ball wsX11_ball rmX11_ball g q [.int v1, .int v2] res := by
  intro sz
  unfold R_ball at h
  refine rr_ofW (by decide) rfl rfl (fun _ z => List.mem_cons_of_mem _ (List.mem_append_right _ z)) (Nat.le_of_ble_eq_true rfl) ?_
  intro p e s m args below meth c ls X hr hlk hsz G hl Q hQ
  subst hsz
  have hx := X.1.1
  have hb := X.1.2.1
  have hown := X.1.2.2.2.1
  have hts := X.1.2.2.2.2
  refine (fun (key : ∀ (H : Heap) (locs : List Loc), rr_H g q s H locs → W p l e (headSpec wsX11_ball rmX11_ball).room s m args below meth c H locs 0 0 Q (F0 m 0 ls [])) => key _ _ G) ?_
  clear G
  intro H locs G
  have hl : lv_has ls 3 [(0, .ref (g.2.2.2 28)), (1, .int v1), (2, .int v2)] := hl
  have hf28 : Cond.fieldLink RX11 28 (TX11 6).1 (TX11 6).2.1 (TX11 6).2.2.1 ∈ wsX11_ball := by decide +kernel
  have hf31 : Cond.fieldLink RX11 31 (TX11 7).1 (TX11 7).2.1 (TX11 7).2.2.1 ∈ wsX11_ball := by decide +kernel
  have hf34 : Cond.fieldLink RX11 34 (TX11 8).1 (TX11 8).2.1 (TX11 8).2.2.1 ∈ wsX11_ball := by decide +kernel
  refine lv_iload_n hx hb dX11_ball_0 rfl (lv_at hl 1 rfl) ?_
  obtain ⟨r1, hc1, h2⟩ := pp_ob_ex h
  clear h
  refine rr_csi X G (ctX11_isBall l _ hc1) (va_cwS 1 hts gX11_ball_X11_isBall rfl rfl rfl (by decide +kernel) ⟨Nat.le_of_ble_eq_true rfl, Nat.le_of_ble_eq_true rfl⟩) (rest := []) rfl hl.1 rfl (Nat.le_of_ble_eq_true rfl) dX11_ball_1 (fun H locs G => ?_)
  refine lv_if_ne (tgt := 13) hx hb dX11_ball_4 (by decide) (fun c3 => ?_) (fun c3 => ?_)
  · have h4 := pp_f c3 h2
    clear h2
    refine lv_iload_n hx hb dX11_ball_13 rfl (lv_at hl 2 rfl) ?_
    by_cases c5 : v2 = (0 : Int32)
    · have h6 := pp_t c5 h4
      clear h4
      refine lv_tableIn (off := 26) (tgt := 40) hx hb dX11_ball_14 (by rw [c5]; decide) (by rw [c5]; decide) (by rw [c5]; decide) (by decide) ?_
      refine lv_aload_n hx hb dX11_ball_40 rfl (lv_at hl 0 rfl) ?_
      refine rr_get X G 6 (by decide) hf28 (v := .ref (g.2.2.2 6)) rfl dX11_ball_41 ?_
      refine lv_iload_n hx hb dX11_ball_44 rfl (lv_at hl 1 rfl) ?_
      obtain ⟨hi8, h9⟩ := pp_ix_ex h6
      clear h6
      refine rr_iald X G ra_6 hi8 dX11_ball_45 ?_
      exact rr_iret X hr hlk rfl G h9 hQ dX11_ball_46
    have h7 := pp_f c5 h4
    clear h4
    by_cases c10 : v2 = (1 : Int32)
    · have h11 := pp_t c10 h7
      clear h7
      refine lv_tableIn (off := 33) (tgt := 47) hx hb dX11_ball_14 (by rw [c10]; decide) (by rw [c10]; decide) (by rw [c10]; decide) (by decide) ?_
      refine lv_aload_n hx hb dX11_ball_47 rfl (lv_at hl 0 rfl) ?_
      refine rr_get X G 7 (by decide) hf31 (v := .ref (g.2.2.2 7)) rfl dX11_ball_48 ?_
      refine lv_iload_n hx hb dX11_ball_51 rfl (lv_at hl 1 rfl) ?_
      obtain ⟨hi13, h14⟩ := pp_ix_ex h11
      clear h11
      refine rr_iald X G ra_7 hi13 dX11_ball_52 ?_
      exact rr_iret X hr hlk rfl G h14 hQ dX11_ball_53
    have h12 := pp_f c10 h7
    clear h7
    by_cases c15 : v2 = (2 : Int32)
    · have h16 := pp_t c15 h12
      clear h12
      refine lv_tableIn (off := 40) (tgt := 54) hx hb dX11_ball_14 (by rw [c15]; decide) (by rw [c15]; decide) (by rw [c15]; decide) (by decide) ?_
      refine lv_aload_n hx hb dX11_ball_54 rfl (lv_at hl 0 rfl) ?_
      refine rr_get X G 8 (by decide) hf34 (v := .ref (g.2.2.2 8)) rfl dX11_ball_55 ?_
      refine lv_iload_n hx hb dX11_ball_58 rfl (lv_at hl 1 rfl) ?_
      obtain ⟨hi18, h19⟩ := pp_ix_ex h16
      clear h16
      refine rr_iald X G ra_8 hi18 dX11_ball_59 ?_
      exact rr_iret X hr hlk rfl G h19 hQ dX11_ball_60
    have h17 := pp_f c15 h12
    clear h12
    refine lv_tableOut (tgt := 61) hx hb dX11_ball_14 (by have n0 := lv_neT c5 (a := 0) (by decide); have n1 := lv_neT c10 (a := 1) (by decide); have n2 := lv_neT c15 (a := 2) (by decide); omega) (by decide) ?_
    refine lv_aload_n hx hb dX11_ball_61 rfl (lv_at hl 0 rfl) ?_
    refine lv_bipush (v := -2) hx hb dX11_ball_62 (by decide) ?_
    obtain ⟨r20, hc20, h21⟩ := pp_ob_ex h17
    clear h17
    refine rr_cali X G (ctX11_no l g _ _ hc20) (cwV 1 hts gX11_ball_X11_no rfl rfl rfl (by decide +kernel) ⟨Nat.le_of_ble_eq_true rfl, Nat.le_of_ble_eq_true rfl⟩) (rest := []) rfl hl.1 rfl (Nat.le_of_ble_eq_true rfl) dX11_ball_64 (fun H locs G => ?_)
    exact rr_iret X hr hlk rfl G h21 hQ dX11_ball_67
  · have h22 := pp_t c3 h2
    clear h2
    refine lv_aload_n hx hb dX11_ball_7 rfl (lv_at hl 0 rfl) ?_
    refine lv_iconst (v := -1) hx hb dX11_ball_8 (by decide) ?_
    obtain ⟨r23, hc23, h24⟩ := pp_ob_ex h22
    clear h22
    refine rr_cali X G (ctX11_no l g _ _ hc23) (cwV 1 hts gX11_ball_X11_no rfl rfl rfl (by decide +kernel) ⟨Nat.le_of_ble_eq_true rfl, Nat.le_of_ble_eq_true rfl⟩) (rest := []) rfl hl.1 rfl (Nat.le_of_ble_eq_true rfl) dX11_ball_9 (fun H locs G => ?_)
    exact rr_iret X hr hlk rfl G h24 hQ dX11_ball_12
noncomputable def R_areAgainst (q : rr_S) (v1 : Int32) (v2 : Int32) : Option Int32 := pp_ob (R_isHere q v1) (fun r1 => pp_lj (fun (a3 : Unit) => (some (0 : Int32) : Option Int32)) (fun j3 => (if r1 = (0 : Int32) then j3 () else pp_ob (R_isHere q v2) (fun r9 => (if r9 = (0 : Int32) then j3 () else pp_ix v1 8 (pp_ix v2 8 ((if (q.2.1 1 (Int32.toNatClampNeg v1)) = (q.2.1 1 (Int32.toNatClampNeg v2)) then j3 () else some (1 : Int32)))))))))
abbrev rmX11_areAgainst : Room := { frames := 2, cells := 0, slots := 0, locals := 42 }
set_option maxHeartbeats 4000000 in
set_option maxRecDepth 100000 in
theorem ctX11_areAgainst (l : Launch) (g : rr_G) (q : rr_S) (v1 : Int32) (v2 : Int32) {res : Int32} (h : R_areAgainst q v1 v2 = some res) : rr_Mi l yX11_areAgainst wsX11_areAgainst rmX11_areAgainst g q [.int v1, .int v2] (res, q) := by
  intro sz
  unfold R_areAgainst at h
  refine rr_ofW (by decide) rfl rfl (fun _ z => List.mem_cons_of_mem _ (List.mem_append_right _ z)) (Nat.le_of_ble_eq_true rfl) ?_
  intro p e s m args below meth c ls X hr hlk hsz G hl Q hQ
  subst hsz
  have hx := X.1.1
  have hb := X.1.2.1
  have hown := X.1.2.2.2.1
  have hts := X.1.2.2.2.2
  refine (fun (key : ∀ (H : Heap) (locs : List Loc), rr_H g q s H locs → W p l e (headSpec wsX11_areAgainst rmX11_areAgainst).room s m args below meth c H locs 0 0 Q (F0 m 0 ls [])) => key _ _ G) ?_
  clear G
  intro H locs G
  have hl : lv_has ls 3 [(0, .ref (g.2.2.2 28)), (1, .int v1), (2, .int v2)] := hl
  have hf13 : Cond.fieldLink RX11 13 (TX11 1).1 (TX11 1).2.1 (TX11 1).2.2.1 ∈ wsX11_areAgainst := by decide +kernel
  refine lv_aload_n hx hb dX11_areAgainst_0 rfl (lv_at hl 0 rfl) ?_
  refine lv_iload_n hx hb dX11_areAgainst_1 rfl (lv_at hl 1 rfl) ?_
  obtain ⟨r1, hc1, h2⟩ := pp_ob_ex h
  clear h
  refine rr_cali X G (ctX11_isHere l g _ _ hc1) (cwV 1 hts gX11_areAgainst_X11_isHere rfl rfl rfl (by decide +kernel) ⟨Nat.le_of_ble_eq_true rfl, Nat.le_of_ble_eq_true rfl⟩) (rest := []) rfl hl.1 rfl (Nat.le_of_ble_eq_true rfl) dX11_areAgainst_2 (fun H locs G => ?_)
  obtain ⟨j3, ej3, h4⟩ := pp_lj_ex h2
  clear h2
  have hj3 : ∀ (a3 : Unit) (H : Heap) (locs : List Loc) (ls : Array Slot), j3 a3 = some res → rr_H g q s H locs → lv_has ls 3 [] → W p l e (headSpec wsX11_areAgainst rmX11_areAgainst).room s m args below meth c H locs 0 0 Q (F0 m 35 ls []) := by
    intro a3 H locs ls h G hl
    have h5 := pp_jmp ej3 h
    clear h h4
    refine lv_iconst (v := 0) hx hb dX11_areAgainst_35 (by decide) ?_
    exact rr_iretR X hr hlk rfl G h5 hQ dX11_areAgainst_36
  refine lv_if_eq (tgt := 35) hx hb dX11_areAgainst_5 (by decide) (fun c6 => ?_) (fun c6 => ?_)
  · have h7 := pp_t c6 h4
    clear h4
    exact hj3 _ H locs ls h7 G (lv_sub hl [] rfl)
  · have h8 := pp_f c6 h4
    clear h4
    refine lv_aload_n hx hb dX11_areAgainst_8 rfl (lv_at hl 0 rfl) ?_
    refine lv_iload_n hx hb dX11_areAgainst_9 rfl (lv_at hl 2 rfl) ?_
    obtain ⟨r9, hc9, h10⟩ := pp_ob_ex h8
    clear h8
    refine rr_cali X G (ctX11_isHere l g _ _ hc9) (cwV 1 hts gX11_areAgainst_X11_isHere rfl rfl rfl (by decide +kernel) ⟨Nat.le_of_ble_eq_true rfl, Nat.le_of_ble_eq_true rfl⟩) (rest := []) rfl hl.1 rfl (Nat.le_of_ble_eq_true rfl) dX11_areAgainst_10 (fun H locs G => ?_)
    refine lv_if_eq (tgt := 35) hx hb dX11_areAgainst_13 (by decide) (fun c11 => ?_) (fun c11 => ?_)
    · have h12 := pp_t c11 h10
      clear h10
      exact hj3 _ H locs ls h12 G (lv_sub hl [] rfl)
    · have h13 := pp_f c11 h10
      clear h10
      refine lv_aload_n hx hb dX11_areAgainst_16 rfl (lv_at hl 0 rfl) ?_
      refine rr_get X G 1 (by decide) hf13 (v := .ref (g.2.2.2 1)) rfl dX11_areAgainst_17 ?_
      refine lv_iload_n hx hb dX11_areAgainst_20 rfl (lv_at hl 1 rfl) ?_
      obtain ⟨hi14, h15⟩ := pp_ix_ex h13
      clear h13
      refine rr_iald X G ra_1 hi14 dX11_areAgainst_21 ?_
      refine lv_aload_n hx hb dX11_areAgainst_22 rfl (lv_at hl 0 rfl) ?_
      refine rr_get X G 1 (by decide) hf13 (v := .ref (g.2.2.2 1)) rfl dX11_areAgainst_23 ?_
      refine lv_iload_n hx hb dX11_areAgainst_26 rfl (lv_at hl 2 rfl) ?_
      obtain ⟨hi16, h17⟩ := pp_ix_ex h15
      clear h15
      refine rr_iald X G ra_1 hi16 dX11_areAgainst_27 ?_
      refine lv_icmp_eq (tgt := 35) hx hb dX11_areAgainst_28 (by decide) (fun c18 => ?_) (fun c18 => ?_)
      · have h19 := pp_t c18 h17
        clear h17
        exact hj3 _ H locs ls h19 G (lv_sub hl [] rfl)
      · have h20 := pp_f c18 h17
        clear h17
        refine lv_iconst (v := 1) hx hb dX11_areAgainst_31 (by decide) ?_
        refine lv_goto (tgt := 36) hx hb dX11_areAgainst_32 (by decide) ?_
        exact rr_iretR X hr hlk rfl G h20 hQ dX11_areAgainst_36
noncomputable def R_odds (q : rr_S) (v1 : Int32) (v2 : Int32) (v3 : Int32) (v4 : Int32) : Option (Int32 × rr_S) := pp_ob (R_isPlayer q v1) (fun r1 => pp_lj (fun (a3 : Int32) => ((if a3 = (0 : Int32) then pp_ob (R_hitOf q v1 v2 v3) (fun r8 => pp_ob (R_caughtOf q v2 v3) (fun r10 => (if v4 = (0 : Int32) then some (r8, q) else (if v4 = (1 : Int32) then some (r10, q) else some ((((40 : Int32) - r8) - r10), q))))) else pp_ob (R_no q a3) (fun r19 => some (r19.1, r19.2))) : Option (Int32 × rr_S))) (fun j3 => pp_lj (fun (a21 : Unit) => (j3 (-1 : Int32) : Option (Int32 × rr_S))) (fun j21 => (if r1 = (0 : Int32) then j21 () else pp_ob (R_isPlayer q v2) (fun r27 => (if r27 = (0 : Int32) then j21 () else pp_ob (R_isIn v3 (0 : Int32) (2 : Int32)) (fun r31 => pp_lj (fun (a33 : Unit) => (j3 (-2 : Int32) : Option (Int32 × rr_S))) (fun j33 => (if r31 = (0 : Int32) then j33 () else pp_ob (R_isIn v4 (0 : Int32) (2 : Int32)) (fun r39 => (if r39 = (0 : Int32) then j33 () else pp_ob (R_areAgainst q v1 v2) (fun r43 => (if r43 = (0 : Int32) then j3 (-3 : Int32) else j3 (0 : Int32))))))))))))))
abbrev rmX11_odds : Room := { frames := 3, cells := 0, slots := 0, locals := 68 }
set_option maxHeartbeats 4000000 in
set_option maxRecDepth 100000 in
theorem ctX11_odds (l : Launch) (g : rr_G) (q : rr_S) (v1 : Int32) (v2 : Int32) (v3 : Int32) (v4 : Int32) {res : (Int32 × rr_S)} (h : R_odds q v1 v2 v3 v4 = some res) : rr_Mi l yX11_odds wsX11_odds rmX11_odds g q [.int v1, .int v2, .int v3, .int v4] res := by
  intro sz
  unfold R_odds at h
  refine rr_ofW (by decide) rfl rfl (fun _ z => List.mem_cons_of_mem _ (List.mem_append_right _ z)) (Nat.le_of_ble_eq_true rfl) ?_
  intro p e s m args below meth c ls X hr hlk hsz G hl Q hQ
  subst hsz
  have hx := X.1.1
  have hb := X.1.2.1
  have hown := X.1.2.2.2.1
  have hts := X.1.2.2.2.2
  refine (fun (key : ∀ (H : Heap) (locs : List Loc), rr_H g q s H locs → W p l e (headSpec wsX11_odds rmX11_odds).room s m args below meth c H locs 0 0 Q (F0 m 0 ls [])) => key _ _ G) ?_
  clear G
  intro H locs G
  have hl : lv_has ls 8 [(0, .ref (g.2.2.2 28)), (1, .int v1), (2, .int v2), (3, .int v3), (4, .int v4)] := hl
  refine lv_aload_n hx hb dX11_odds_0 rfl (lv_at hl 0 rfl) ?_
  refine lv_iload_n hx hb dX11_odds_1 rfl (lv_at hl 1 rfl) ?_
  obtain ⟨r1, hc1, h2⟩ := pp_ob_ex h
  clear h
  refine rr_cali X G (ctX11_isPlayer l g _ _ hc1) (cwV 1 hts gX11_odds_X11_isPlayer rfl rfl rfl (by decide +kernel) ⟨Nat.le_of_ble_eq_true rfl, Nat.le_of_ble_eq_true rfl⟩) (rest := []) rfl hl.1 rfl (Nat.le_of_ble_eq_true rfl) dX11_odds_2 (fun H locs G => ?_)
  obtain ⟨j3, ej3, h4⟩ := pp_lj_ex h2
  clear h2
  have hj3 : ∀ (a3 : Int32) (H : Heap) (locs : List Loc) (ls : Array Slot), j3 a3 = some res → rr_H g q s H locs → lv_has ls 8 [(0, .ref (g.2.2.2 28)), (1, .int v1), (2, .int v2), (3, .int v3), (4, .int v4)] → W p l e (headSpec wsX11_odds rmX11_odds).room s m args below meth c H locs 0 0 Q (F0 m 59 ls [.int a3]) := by
    intro a3 H locs ls h G hl
    have h5 := pp_jmp ej3 h
    clear h h4
    refine lv_istore (lv' := [(5, .int a3), (0, .ref (g.2.2.2 28)), (1, .int v1), (2, .int v2), (3, .int v3), (4, .int v4)]) hx hb dX11_odds_59 hl (by decide) rfl (fun ls hl => ?_)
    refine lv_iload hx hb dX11_odds_61 (lv_at hl 0 rfl) ?_
    refine lv_if_eq (tgt := 73) hx hb dX11_odds_63 (by decide) (fun c6 => ?_) (fun c6 => ?_)
    · have h7 := pp_t c6 h5
      clear h5
      refine lv_aload_n hx hb dX11_odds_73 rfl (lv_at hl 1 rfl) ?_
      refine lv_iload_n hx hb dX11_odds_74 rfl (lv_at hl 2 rfl) ?_
      refine lv_iload_n hx hb dX11_odds_75 rfl (lv_at hl 3 rfl) ?_
      refine lv_iload_n hx hb dX11_odds_76 rfl (lv_at hl 4 rfl) ?_
      obtain ⟨r8, hc8, h9⟩ := pp_ob_ex h7
      clear h7
      refine rr_cali X G (ctX11_hitOf l g _ _ _ _ hc8) (cwV 3 hts gX11_odds_X11_hitOf rfl rfl rfl (by decide +kernel) ⟨Nat.le_of_ble_eq_true rfl, Nat.le_of_ble_eq_true rfl⟩) (rest := []) rfl hl.1 rfl (Nat.le_of_ble_eq_true rfl) dX11_odds_77 (fun H locs G => ?_)
      refine lv_istore (lv' := [(6, .int r8), (5, .int a3), (0, .ref (g.2.2.2 28)), (1, .int v1), (2, .int v2), (3, .int v3), (4, .int v4)]) hx hb dX11_odds_80 hl (by decide) rfl (fun ls hl => ?_)
      refine lv_aload_n hx hb dX11_odds_82 rfl (lv_at hl 2 rfl) ?_
      refine lv_iload_n hx hb dX11_odds_83 rfl (lv_at hl 4 rfl) ?_
      refine lv_iload_n hx hb dX11_odds_84 rfl (lv_at hl 5 rfl) ?_
      obtain ⟨r10, hc10, h11⟩ := pp_ob_ex h9
      clear h9
      refine rr_cali X G (ctX11_caughtOf l g _ _ _ hc10) (cwV 2 hts gX11_odds_X11_caughtOf rfl rfl rfl (by decide +kernel) ⟨Nat.le_of_ble_eq_true rfl, Nat.le_of_ble_eq_true rfl⟩) (rest := []) rfl hl.1 rfl (Nat.le_of_ble_eq_true rfl) dX11_odds_85 (fun H locs G => ?_)
      refine lv_istore (lv' := [(7, .int r10), (6, .int r8), (5, .int a3), (0, .ref (g.2.2.2 28)), (1, .int v1), (2, .int v2), (3, .int v3), (4, .int v4)]) hx hb dX11_odds_88 hl (by decide) rfl (fun ls hl => ?_)
      refine lv_iload hx hb dX11_odds_90 (lv_at hl 7 rfl) ?_
      refine lv_if_ne (tgt := 100) hx hb dX11_odds_92 (by decide) (fun c12 => ?_) (fun c12 => ?_)
      · have h13 := pp_f c12 h11
        clear h11
        refine lv_iload hx hb dX11_odds_100 (lv_at hl 7 rfl) ?_
        refine lv_iconst (v := 1) hx hb dX11_odds_102 (by decide) ?_
        refine lv_icmp_ne (tgt := 111) hx hb dX11_odds_103 (by decide) (fun c14 => ?_) (fun c14 => ?_)
        · have h15 := pp_f c14 h13
          clear h13
          refine lv_bipush (v := 40) hx hb dX11_odds_111 (by decide) ?_
          refine lv_iload hx hb dX11_odds_113 (lv_at hl 1 rfl) ?_
          refine lv_isub hx hb dX11_odds_115 ?_
          refine lv_iload hx hb dX11_odds_116 (lv_at hl 0 rfl) ?_
          refine lv_isub hx hb dX11_odds_118 ?_
          exact rr_iret X hr hlk rfl G h15 hQ dX11_odds_119
        · have h16 := pp_t c14 h13
          clear h13
          refine lv_iload hx hb dX11_odds_106 (lv_at hl 0 rfl) ?_
          refine lv_goto (tgt := 119) hx hb dX11_odds_108 (by decide) ?_
          exact rr_iret X hr hlk rfl G h16 hQ dX11_odds_119
      · have h17 := pp_t c12 h11
        clear h11
        refine lv_iload hx hb dX11_odds_95 (lv_at hl 1 rfl) ?_
        refine lv_goto (tgt := 119) hx hb dX11_odds_97 (by decide) ?_
        exact rr_iret X hr hlk rfl G h17 hQ dX11_odds_119
    · have h18 := pp_f c6 h5
      clear h5
      refine lv_aload_n hx hb dX11_odds_66 rfl (lv_at hl 1 rfl) ?_
      refine lv_iload hx hb dX11_odds_67 (lv_at hl 0 rfl) ?_
      obtain ⟨r19, hc19, h20⟩ := pp_ob_ex h18
      clear h18
      refine rr_cali X G (ctX11_no l g _ _ hc19) (cwV 1 hts gX11_odds_X11_no rfl rfl rfl (by decide +kernel) ⟨Nat.le_of_ble_eq_true rfl, Nat.le_of_ble_eq_true rfl⟩) (rest := []) rfl hl.1 rfl (Nat.le_of_ble_eq_true rfl) dX11_odds_69 (fun H locs G => ?_)
      exact rr_iret X hr hlk rfl G h20 hQ dX11_odds_72
  obtain ⟨j21, ej21, h22⟩ := pp_lj_ex h4
  clear h4
  have hj21 : ∀ (a21 : Unit) (H : Heap) (locs : List Loc) (ls : Array Slot), j21 a21 = some res → rr_H g q s H locs → lv_has ls 8 [(0, .ref (g.2.2.2 28)), (1, .int v1), (2, .int v2), (3, .int v3), (4, .int v4)] → W p l e (headSpec wsX11_odds rmX11_odds).room s m args below meth c H locs 0 0 Q (F0 m 16 ls []) := by
    intro a21 H locs ls h G hl
    have h23 := pp_jmp ej21 h
    clear h h22
    refine lv_iconst (v := -1) hx hb dX11_odds_16 (by decide) ?_
    refine lv_goto (tgt := 59) hx hb dX11_odds_17 (by decide) ?_
    exact hj3 _ H locs ls h23 G hl
  refine lv_if_eq (tgt := 16) hx hb dX11_odds_5 (by decide) (fun c24 => ?_) (fun c24 => ?_)
  · have h25 := pp_t c24 h22
    clear h22
    exact hj21 _ H locs ls h25 G hl
  · have h26 := pp_f c24 h22
    clear h22
    refine lv_aload_n hx hb dX11_odds_8 rfl (lv_at hl 0 rfl) ?_
    refine lv_iload_n hx hb dX11_odds_9 rfl (lv_at hl 2 rfl) ?_
    obtain ⟨r27, hc27, h28⟩ := pp_ob_ex h26
    clear h26
    refine rr_cali X G (ctX11_isPlayer l g _ _ hc27) (cwV 1 hts gX11_odds_X11_isPlayer rfl rfl rfl (by decide +kernel) ⟨Nat.le_of_ble_eq_true rfl, Nat.le_of_ble_eq_true rfl⟩) (rest := []) rfl hl.1 rfl (Nat.le_of_ble_eq_true rfl) dX11_odds_10 (fun H locs G => ?_)
    refine lv_if_ne (tgt := 20) hx hb dX11_odds_13 (by decide) (fun c29 => ?_) (fun c29 => ?_)
    · have h30 := pp_f c29 h28
      clear h28
      refine lv_iload_n hx hb dX11_odds_20 rfl (lv_at hl 3 rfl) ?_
      refine lv_iconst (v := 0) hx hb dX11_odds_21 (by decide) ?_
      refine lv_iconst (v := 2) hx hb dX11_odds_22 (by decide) ?_
      obtain ⟨r31, hc31, h32⟩ := pp_ob_ex h30
      clear h30
      refine rr_csi X G (ctX11_isIn l _ _ _ hc31) (va_cwS 3 hts gX11_odds_X11_isIn rfl rfl rfl (by decide +kernel) ⟨Nat.le_of_ble_eq_true rfl, Nat.le_of_ble_eq_true rfl⟩) (rest := []) rfl hl.1 rfl (Nat.le_of_ble_eq_true rfl) dX11_odds_23 (fun H locs G => ?_)
      obtain ⟨j33, ej33, h34⟩ := pp_lj_ex h32
      clear h32
      have hj33 : ∀ (a33 : Unit) (H : Heap) (locs : List Loc) (ls : Array Slot), j33 a33 = some res → rr_H g q s H locs → lv_has ls 8 [(0, .ref (g.2.2.2 28)), (1, .int v1), (2, .int v2), (3, .int v3), (4, .int v4)] → W p l e (headSpec wsX11_odds rmX11_odds).room s m args below meth c H locs 0 0 Q (F0 m 39 ls []) := by
        intro a33 H locs ls h G hl
        have h35 := pp_jmp ej33 h
        clear h h34
        refine lv_bipush (v := -2) hx hb dX11_odds_39 (by decide) ?_
        refine lv_goto (tgt := 59) hx hb dX11_odds_41 (by decide) ?_
        exact hj3 _ H locs ls h35 G hl
      refine lv_if_eq (tgt := 39) hx hb dX11_odds_26 (by decide) (fun c36 => ?_) (fun c36 => ?_)
      · have h37 := pp_t c36 h34
        clear h34
        exact hj33 _ H locs ls h37 G hl
      · have h38 := pp_f c36 h34
        clear h34
        refine lv_iload hx hb dX11_odds_29 (lv_at hl 4 rfl) ?_
        refine lv_iconst (v := 0) hx hb dX11_odds_31 (by decide) ?_
        refine lv_iconst (v := 2) hx hb dX11_odds_32 (by decide) ?_
        obtain ⟨r39, hc39, h40⟩ := pp_ob_ex h38
        clear h38
        refine rr_csi X G (ctX11_isIn l _ _ _ hc39) (va_cwS 3 hts gX11_odds_X11_isIn rfl rfl rfl (by decide +kernel) ⟨Nat.le_of_ble_eq_true rfl, Nat.le_of_ble_eq_true rfl⟩) (rest := []) rfl hl.1 rfl (Nat.le_of_ble_eq_true rfl) dX11_odds_33 (fun H locs G => ?_)
        refine lv_if_ne (tgt := 44) hx hb dX11_odds_36 (by decide) (fun c41 => ?_) (fun c41 => ?_)
        · have h42 := pp_f c41 h40
          clear h40
          refine lv_aload_n hx hb dX11_odds_44 rfl (lv_at hl 0 rfl) ?_
          refine lv_iload_n hx hb dX11_odds_45 rfl (lv_at hl 1 rfl) ?_
          refine lv_iload_n hx hb dX11_odds_46 rfl (lv_at hl 2 rfl) ?_
          obtain ⟨r43, hc43, h44⟩ := pp_ob_ex h42
          clear h42
          refine rr_cali X G (ctX11_areAgainst l g _ _ _ hc43) (cwV 2 hts gX11_odds_X11_areAgainst rfl rfl rfl (by decide +kernel) ⟨Nat.le_of_ble_eq_true rfl, Nat.le_of_ble_eq_true rfl⟩) (rest := []) rfl hl.1 rfl (Nat.le_of_ble_eq_true rfl) dX11_odds_47 (fun H locs G => ?_)
          refine lv_if_ne (tgt := 58) hx hb dX11_odds_50 (by decide) (fun c45 => ?_) (fun c45 => ?_)
          · have h46 := pp_f c45 h44
            clear h44
            refine lv_iconst (v := 0) hx hb dX11_odds_58 (by decide) ?_
            exact hj3 _ H locs ls h46 G hl
          · have h47 := pp_t c45 h44
            clear h44
            refine lv_bipush (v := -3) hx hb dX11_odds_53 (by decide) ?_
            refine lv_goto (tgt := 59) hx hb dX11_odds_55 (by decide) ?_
            exact hj3 _ H locs ls h47 G hl
        · have h48 := pp_t c41 h40
          clear h40
          exact hj33 _ H locs ls h48 G hl
    · have h49 := pp_t c29 h28
      clear h28
      exact hj21 _ H locs ls h49 G hl
noncomputable def R_goesTenth (q : rr_S) : Option rr_S := pp_lj (rr_I q 10 ((q.1 10) + (1 : Int32)) : rr_S) (fun x1 => pp_it (fun (self3 : rr_S × Int32 → Option rr_S) (a3 : rr_S × Int32) => (if (6 : Int32) ≤ a3.2 then some a3.1 else pp_ix a3.2 6 (pp_lj (fun (a9 : rr_S) => (pp_lj (a3.2 + 1 : Int32) (fun x12 => self3 (a9, x12)) : Option rr_S)) (fun j9 => (if (0 : Int32) ≤ (a3.1.2.1 6 (Int32.toNatClampNeg a3.2)) then pp_lj (rr_A a3.1 8 (Int32.toNatClampNeg a3.2) ((a3.1.2.1 8 (Int32.toNatClampNeg a3.2)) + (1 : Int32)) : rr_S) (fun x16 => (if (x16.2.1 8 (Int32.toNatClampNeg a3.2)) ≤ (9 : Int32) then j9 x16 else pp_ix (x16.2.1 6 (Int32.toNatClampNeg a3.2)) 8 (pp_ob (R_falls x16 a3.2 ((1 : Int32) - (x16.2.1 1 (Int32.toNatClampNeg (x16.2.1 6 (Int32.toNatClampNeg a3.2)))))) (fun r23 => j9 r23)))) else j9 a3.1))))) 200 (x1, (0 : Int32)))
abbrev rmX11_goesTenth : Room := { frames := 1, cells := 0, slots := 0, locals := 22 }
set_option maxHeartbeats 4000000 in
set_option maxRecDepth 100000 in
theorem ctX11_goesTenth (l : Launch) (g : rr_G) (q : rr_S) {res : rr_S} (h : R_goesTenth q = some res) : rr_Mv l yX11_goesTenth wsX11_goesTenth rmX11_goesTenth g q [] res := by
  intro sz
  unfold R_goesTenth at h
  refine rr_ofW (by decide) rfl rfl (fun _ z => List.mem_cons_of_mem _ (List.mem_append_right _ z)) (Nat.le_of_ble_eq_true rfl) ?_
  intro p e s m args below meth c ls X hr hlk hsz G hl Q hQ
  subst hsz
  have hx := X.1.1
  have hb := X.1.2.1
  have hown := X.1.2.2.2.1
  have hts := X.1.2.2.2.2
  refine (fun (key : ∀ (H : Heap) (locs : List Loc), rr_H g q s H locs → W p l e (headSpec wsX11_goesTenth rmX11_goesTenth).room s m args below meth c H locs 0 0 Q (F0 m 0 ls [])) => key _ _ G) ?_
  clear G
  intro H locs G
  have hl : lv_has ls 2 [(0, .ref (g.2.2.2 28))] := hl
  have hf13 : Cond.fieldLink RX11 13 (TX11 1).1 (TX11 1).2.1 (TX11 1).2.2.1 ∈ wsX11_goesTenth := by decide +kernel
  have hf28 : Cond.fieldLink RX11 28 (TX11 6).1 (TX11 6).2.1 (TX11 6).2.2.1 ∈ wsX11_goesTenth := by decide +kernel
  have hf34 : Cond.fieldLink RX11 34 (TX11 8).1 (TX11 8).2.1 (TX11 8).2.2.1 ∈ wsX11_goesTenth := by decide +kernel
  have hf165 : Cond.fieldLink RX11 165 (TX11 10).1 (TX11 10).2.1 (TX11 10).2.2.1 ∈ wsX11_goesTenth := by decide +kernel
  refine lv_aload_n hx hb dX11_goesTenth_0 rfl (lv_at hl 0 rfl) ?_
  refine lv_dup hx hb dX11_goesTenth_1 rfl ?_
  refine rr_get X G 10 (by decide) hf165 (v := .int (q.1 10)) rfl dX11_goesTenth_2 ?_
  refine lv_iconst (v := 1) hx hb dX11_goesTenth_5 (by decide) ?_
  refine lv_iadd hx hb dX11_goesTenth_6 ?_
  obtain ⟨x1, ex1, h2⟩ := pp_lj_ex h
  clear h
  refine rr_put X G 10 (by decide) hf165 rfl (ty := .int) (by decide +kernel) rfl rfl (ri_10 g _ _) ex1 dX11_goesTenth_7 (fun H locs G => ?_)
  refine lv_iconst (v := 0) hx hb dX11_goesTenth_10 (by decide) ?_
  refine lv_istore_n (lv' := [(1, .int (0 : Int32)), (0, .ref (g.2.2.2 28))]) hx hb dX11_goesTenth_11 rfl hl (by decide) rfl (fun ls hl => ?_)
  refine pp_loop (I := fun (a3 : rr_S × Int32) => ∀ (H : Heap) (locs : List Loc) (ls : Array Slot), rr_H g a3.1 s H locs → lv_has ls 2 [(0, .ref (g.2.2.2 28)), (1, .int a3.2)] → W p l e (headSpec wsX11_goesTenth rmX11_goesTenth).room s m args below meth c H locs 0 0 Q (F0 m 12 ls [])) ?_ 200 _ h2 H locs ls G (lv_sub hl [1, 0] rfl)
  clear h2
  intro self3 ih3 a3 h3 H locs ls G hl
  refine lv_iload_n hx hb dX11_goesTenth_12 rfl (lv_at hl 1 rfl) ?_
  refine lv_bipush (v := 6) hx hb dX11_goesTenth_13 (by decide) ?_
  refine lv_icmp_ge (tgt := 75) hx hb dX11_goesTenth_15 (by decide) (fun c4 => ?_) (fun c4 => ?_)
  · have h5 := pp_t c4 h3
    clear h3
    exact rr_vret X hr hlk G h5 hQ dX11_goesTenth_75
  · have h6 := pp_f c4 h3
    clear h3
    refine lv_aload_n hx hb dX11_goesTenth_18 rfl (lv_at hl 0 rfl) ?_
    refine rr_get X G 6 (by decide) hf28 (v := .ref (g.2.2.2 6)) rfl dX11_goesTenth_19 ?_
    refine lv_iload_n hx hb dX11_goesTenth_22 rfl (lv_at hl 1 rfl) ?_
    obtain ⟨hi7, h8⟩ := pp_ix_ex h6
    clear h6
    refine rr_iald X G ra_6 hi7 dX11_goesTenth_23 ?_
    obtain ⟨j9, ej9, h10⟩ := pp_lj_ex h8
    clear h8
    have hj9 : ∀ (a9 : rr_S) (H : Heap) (locs : List Loc) (ls : Array Slot), j9 a9 = some res → rr_H g a9 s H locs → lv_has ls 2 [(0, .ref (g.2.2.2 28)), (1, .int a3.2)] → W p l e (headSpec wsX11_goesTenth rmX11_goesTenth).room s m args below meth c H locs 0 0 Q (F0 m 69 ls []) := by
      intro a9 H locs ls h G hl
      have h11 := pp_jmp ej9 h
      clear h h10
      obtain ⟨x12, ex12, h13⟩ := pp_lj_ex h11
      clear h11
      refine lv_iinc (v := x12) (lv' := [(1, .int x12), (0, .ref (g.2.2.2 28))]) hx hb dX11_goesTenth_69 hl (k := 1) rfl (by rw [ex12]; rfl) (by decide) rfl (fun ls hl => ?_)
      refine lv_goto (tgt := 12) hx hb dX11_goesTenth_72 (by decide) ?_
      exact ih3 _ h13 H locs ls G (lv_sub hl [1, 0] rfl)
    refine lv_if_ge (tgt := 30) hx hb dX11_goesTenth_24 (by decide) (fun c14 => ?_) (fun c14 => ?_)
    · have h15 := pp_t c14 h10
      clear h10
      refine lv_aload_n hx hb dX11_goesTenth_30 rfl (lv_at hl 0 rfl) ?_
      refine rr_get X G 8 (by decide) hf34 (v := .ref (g.2.2.2 8)) rfl dX11_goesTenth_31 ?_
      refine lv_iload_n hx hb dX11_goesTenth_34 rfl (lv_at hl 1 rfl) ?_
      refine lv_dup2_11 hx hb dX11_goesTenth_35 rfl rfl ?_
      refine rr_iald X G ra_8 hi7 dX11_goesTenth_36 ?_
      refine lv_iconst (v := 1) hx hb dX11_goesTenth_37 (by decide) ?_
      refine lv_iadd hx hb dX11_goesTenth_38 ?_
      obtain ⟨x16, ex16, h17⟩ := pp_lj_ex h15
      clear h15
      refine rr_iast X G ra_8 hi7 ex16 dX11_goesTenth_39 (fun H locs G => ?_)
      refine lv_aload_n hx hb dX11_goesTenth_40 rfl (lv_at hl 0 rfl) ?_
      refine rr_get X G 8 (by decide) hf34 (v := .ref (g.2.2.2 8)) rfl dX11_goesTenth_41 ?_
      refine lv_iload_n hx hb dX11_goesTenth_44 rfl (lv_at hl 1 rfl) ?_
      refine rr_iald X G ra_8 hi7 dX11_goesTenth_45 ?_
      refine lv_bipush (v := 9) hx hb dX11_goesTenth_46 (by decide) ?_
      refine lv_icmp_le (tgt := 69) hx hb dX11_goesTenth_48 (by decide) (fun c18 => ?_) (fun c18 => ?_)
      · have h19 := pp_t c18 h17
        clear h17
        exact hj9 _ H locs ls h19 G hl
      · have h20 := pp_f c18 h17
        clear h17
        refine lv_aload_n hx hb dX11_goesTenth_51 rfl (lv_at hl 0 rfl) ?_
        refine lv_iload_n hx hb dX11_goesTenth_52 rfl (lv_at hl 1 rfl) ?_
        refine lv_iconst (v := 1) hx hb dX11_goesTenth_53 (by decide) ?_
        refine lv_aload_n hx hb dX11_goesTenth_54 rfl (lv_at hl 0 rfl) ?_
        refine rr_get X G 1 (by decide) hf13 (v := .ref (g.2.2.2 1)) rfl dX11_goesTenth_55 ?_
        refine lv_aload_n hx hb dX11_goesTenth_58 rfl (lv_at hl 0 rfl) ?_
        refine rr_get X G 6 (by decide) hf28 (v := .ref (g.2.2.2 6)) rfl dX11_goesTenth_59 ?_
        refine lv_iload_n hx hb dX11_goesTenth_62 rfl (lv_at hl 1 rfl) ?_
        refine rr_iald X G ra_6 hi7 dX11_goesTenth_63 ?_
        obtain ⟨hi21, h22⟩ := pp_ix_ex h20
        clear h20
        refine rr_iald X G ra_1 hi21 dX11_goesTenth_64 ?_
        refine lv_isub hx hb dX11_goesTenth_65 ?_
        obtain ⟨r23, hc23, h24⟩ := pp_ob_ex h22
        clear h22
        refine rr_calv X G (ctX11_falls l g _ _ _ hc23) (cwV 2 hts gX11_goesTenth_X11_falls rfl rfl rfl (by decide +kernel) ⟨Nat.le_of_ble_eq_true rfl, Nat.le_of_ble_eq_true rfl⟩) (rest := []) rfl hl.1 rfl (Nat.le_of_ble_eq_true rfl) dX11_goesTenth_66 (fun H locs G => ?_)
        exact hj9 _ H locs ls h24 G hl
    · have h25 := pp_f c14 h10
      clear h10
      refine lv_goto (tgt := 69) hx hb dX11_goesTenth_27 (by decide) ?_
      exact hj9 _ H locs ls h25 G hl
noncomputable def R_longest (q : rr_S) (v1 : Int32) : Option Int32 := pp_it (fun (self1 : Int32 × Int32 → Option Int32) (a1 : Int32 × Int32) => (if (q.1 9) ≤ a1.2 then some a1.1 else pp_ix a1.2 8 (pp_lj (fun (a7 : Int32) => (pp_lj (a1.2 + 1 : Int32) (fun x10 => self1 (a7, x10)) : Option Int32)) (fun j7 => (if (q.2.1 1 (Int32.toNatClampNeg a1.2)) = v1 then (if (q.2.1 5 (Int32.toNatClampNeg a1.2)) ≤ (0 : Int32) then j7 a1.1 else pp_lj (fun (a18 : Unit) => (j7 a1.2 : Option Int32)) (fun j18 => (if a1.1 < (0 : Int32) then j18 () else pp_ix a1.1 8 ((if (q.2.1 5 (Int32.toNatClampNeg a1.1)) ≤ (q.2.1 5 (Int32.toNatClampNeg a1.2)) then j7 a1.1 else j18 ()))))) else j7 a1.1))))) 200 ((-9 : Int32), (0 : Int32))
abbrev rmX11_longest : Room := { frames := 0, cells := 0, slots := 0, locals := 0 }
set_option maxHeartbeats 4000000 in
set_option maxRecDepth 100000 in
theorem ctX11_longest (l : Launch) (g : rr_G) (q : rr_S) (v1 : Int32) {res : Int32} (h : R_longest q v1 = some res) : rr_Mi l yX11_longest wsX11_longest rmX11_longest g q [.int v1] (res, q) := by
  intro sz
  unfold R_longest at h
  refine rr_ofW (by decide) rfl rfl (fun _ z => List.mem_cons_of_mem _ (List.mem_append_right _ z)) (Nat.le_of_ble_eq_true rfl) ?_
  intro p e s m args below meth c ls X hr hlk hsz G hl Q hQ
  subst hsz
  have hx := X.1.1
  have hb := X.1.2.1
  have hown := X.1.2.2.2.1
  have hts := X.1.2.2.2.2
  refine (fun (key : ∀ (H : Heap) (locs : List Loc), rr_H g q s H locs → W p l e (headSpec wsX11_longest rmX11_longest).room s m args below meth c H locs 0 0 Q (F0 m 0 ls [])) => key _ _ G) ?_
  clear G
  intro H locs G
  have hl : lv_has ls 4 [(0, .ref (g.2.2.2 28)), (1, .int v1)] := hl
  have hf13 : Cond.fieldLink RX11 13 (TX11 1).1 (TX11 1).2.1 (TX11 1).2.2.1 ∈ wsX11_longest := by decide +kernel
  have hf25 : Cond.fieldLink RX11 25 (TX11 5).1 (TX11 5).2.1 (TX11 5).2.2.1 ∈ wsX11_longest := by decide +kernel
  have hf65 : Cond.fieldLink RX11 65 (TX11 9).1 (TX11 9).2.1 (TX11 9).2.2.1 ∈ wsX11_longest := by decide +kernel
  refine lv_bipush (v := -9) hx hb dX11_longest_0 (by decide) ?_
  refine lv_istore_n (lv' := [(2, .int (-9 : Int32)), (0, .ref (g.2.2.2 28)), (1, .int v1)]) hx hb dX11_longest_2 rfl hl (by decide) rfl (fun ls hl => ?_)
  refine lv_iconst (v := 0) hx hb dX11_longest_3 (by decide) ?_
  refine lv_istore_n (lv' := [(3, .int (0 : Int32)), (2, .int (-9 : Int32)), (0, .ref (g.2.2.2 28)), (1, .int v1)]) hx hb dX11_longest_4 rfl hl (by decide) rfl (fun ls hl => ?_)
  refine pp_loop (I := fun (a1 : Int32 × Int32) => ∀ (H : Heap) (locs : List Loc) (ls : Array Slot), rr_H g q s H locs → lv_has ls 4 [(0, .ref (g.2.2.2 28)), (1, .int v1), (2, .int a1.1), (3, .int a1.2)] → W p l e (headSpec wsX11_longest rmX11_longest).room s m args below meth c H locs 0 0 Q (F0 m 5 ls [])) ?_ 200 _ h H locs ls G (lv_sub hl [2, 3, 1, 0] rfl)
  clear h
  intro self1 ih1 a1 h1 H locs ls G hl
  refine lv_iload_n hx hb dX11_longest_5 rfl (lv_at hl 3 rfl) ?_
  refine lv_aload_n hx hb dX11_longest_6 rfl (lv_at hl 0 rfl) ?_
  refine rr_get X G 9 (by decide) hf65 (v := .int (q.1 9)) rfl dX11_longest_7 ?_
  refine lv_icmp_ge (tgt := 59) hx hb dX11_longest_10 (by decide) (fun c2 => ?_) (fun c2 => ?_)
  · have h3 := pp_t c2 h1
    clear h1
    refine lv_iload_n hx hb dX11_longest_59 rfl (lv_at hl 2 rfl) ?_
    exact rr_iretR X hr hlk rfl G h3 hQ dX11_longest_60
  · have h4 := pp_f c2 h1
    clear h1
    refine lv_aload_n hx hb dX11_longest_13 rfl (lv_at hl 0 rfl) ?_
    refine rr_get X G 1 (by decide) hf13 (v := .ref (g.2.2.2 1)) rfl dX11_longest_14 ?_
    refine lv_iload_n hx hb dX11_longest_17 rfl (lv_at hl 3 rfl) ?_
    obtain ⟨hi5, h6⟩ := pp_ix_ex h4
    clear h4
    refine rr_iald X G ra_1 hi5 dX11_longest_18 ?_
    refine lv_iload_n hx hb dX11_longest_19 rfl (lv_at hl 1 rfl) ?_
    obtain ⟨j7, ej7, h8⟩ := pp_lj_ex h6
    clear h6
    have hj7 : ∀ (a7 : Int32) (H : Heap) (locs : List Loc) (ls : Array Slot), j7 a7 = some res → rr_H g q s H locs → lv_has ls 4 [(0, .ref (g.2.2.2 28)), (1, .int v1), (2, .int a7), (3, .int a1.2)] → W p l e (headSpec wsX11_longest rmX11_longest).room s m args below meth c H locs 0 0 Q (F0 m 53 ls []) := by
      intro a7 H locs ls h G hl
      have h9 := pp_jmp ej7 h
      clear h h8
      obtain ⟨x10, ex10, h11⟩ := pp_lj_ex h9
      clear h9
      refine lv_iinc (v := x10) (lv' := [(3, .int x10), (0, .ref (g.2.2.2 28)), (1, .int v1), (2, .int a7)]) hx hb dX11_longest_53 hl (k := 3) rfl (by rw [ex10]; rfl) (by decide) rfl (fun ls hl => ?_)
      refine lv_goto (tgt := 5) hx hb dX11_longest_56 (by decide) ?_
      exact ih1 _ h11 H locs ls G (lv_sub hl [1, 2, 3, 0] rfl)
    refine lv_icmp_ne (tgt := 53) hx hb dX11_longest_20 (by decide) (fun c12 => ?_) (fun c12 => ?_)
    · have h13 := pp_f c12 h8
      clear h8
      exact hj7 _ H locs ls h13 G hl
    · have h14 := pp_t c12 h8
      clear h8
      refine lv_aload_n hx hb dX11_longest_23 rfl (lv_at hl 0 rfl) ?_
      refine rr_get X G 5 (by decide) hf25 (v := .ref (g.2.2.2 5)) rfl dX11_longest_24 ?_
      refine lv_iload_n hx hb dX11_longest_27 rfl (lv_at hl 3 rfl) ?_
      refine rr_iald X G ra_5 hi5 dX11_longest_28 ?_
      refine lv_if_le (tgt := 53) hx hb dX11_longest_29 (by decide) (fun c15 => ?_) (fun c15 => ?_)
      · have h16 := pp_t c15 h14
        clear h14
        exact hj7 _ H locs ls h16 G hl
      · have h17 := pp_f c15 h14
        clear h14
        refine lv_iload_n hx hb dX11_longest_32 rfl (lv_at hl 2 rfl) ?_
        obtain ⟨j18, ej18, h19⟩ := pp_lj_ex h17
        clear h17
        have hj18 : ∀ (a18 : Unit) (H : Heap) (locs : List Loc) (ls : Array Slot), j18 a18 = some res → rr_H g q s H locs → lv_has ls 4 [(0, .ref (g.2.2.2 28)), (1, .int v1), (3, .int a1.2)] → W p l e (headSpec wsX11_longest rmX11_longest).room s m args below meth c H locs 0 0 Q (F0 m 51 ls []) := by
          intro a18 H locs ls h G hl
          have h20 := pp_jmp ej18 h
          clear h h19
          refine lv_iload_n hx hb dX11_longest_51 rfl (lv_at hl 2 rfl) ?_
          refine lv_istore_n (lv' := [(2, .int a1.2), (0, .ref (g.2.2.2 28)), (1, .int v1), (3, .int a1.2)]) hx hb dX11_longest_52 rfl hl (by decide) rfl (fun ls hl => ?_)
          exact hj7 _ H locs ls h20 G (lv_sub hl [1, 2, 0, 3] rfl)
        refine lv_if_lt (tgt := 51) hx hb dX11_longest_33 (by decide) (fun c21 => ?_) (fun c21 => ?_)
        · have h22 := pp_t c21 h19
          clear h19
          exact hj18 _ H locs ls h22 G (lv_sub hl [0, 1, 3] rfl)
        · have h23 := pp_f c21 h19
          clear h19
          refine lv_aload_n hx hb dX11_longest_36 rfl (lv_at hl 0 rfl) ?_
          refine rr_get X G 5 (by decide) hf25 (v := .ref (g.2.2.2 5)) rfl dX11_longest_37 ?_
          refine lv_iload_n hx hb dX11_longest_40 rfl (lv_at hl 3 rfl) ?_
          refine rr_iald X G ra_5 hi5 dX11_longest_41 ?_
          refine lv_aload_n hx hb dX11_longest_42 rfl (lv_at hl 0 rfl) ?_
          refine rr_get X G 5 (by decide) hf25 (v := .ref (g.2.2.2 5)) rfl dX11_longest_43 ?_
          refine lv_iload_n hx hb dX11_longest_46 rfl (lv_at hl 2 rfl) ?_
          obtain ⟨hi24, h25⟩ := pp_ix_ex h23
          clear h23
          refine rr_iald X G ra_5 hi24 dX11_longest_47 ?_
          refine lv_icmp_ge (tgt := 53) hx hb dX11_longest_48 (by decide) (fun c26 => ?_) (fun c26 => ?_)
          · have h27 := pp_t c26 h25
            clear h25
            exact hj7 _ H locs ls h27 G hl
          · have h28 := pp_f c26 h25
            clear h25
            exact hj18 _ H locs ls h28 G (lv_sub hl [0, 1, 3] rfl)
noncomputable def R_canThrow (q : rr_S) (v1 : Int32) (v2 : Int32) : Option Int32 := pp_ix v1 6 (pp_lj (fun (a3 : Unit) => (some (0 : Int32) : Option Int32)) (fun j3 => (if (q.2.1 6 (Int32.toNatClampNeg v1)) < (0 : Int32) then j3 () else pp_ob (R_areAgainst q (q.2.1 6 (Int32.toNatClampNeg v1)) v2) (fun r9 => (if r9 = (0 : Int32) then j3 () else some (1 : Int32))))))
abbrev rmX11_canThrow : Room := { frames := 3, cells := 0, slots := 0, locals := 64 }
set_option maxHeartbeats 4000000 in
set_option maxRecDepth 100000 in
theorem ctX11_canThrow (l : Launch) (g : rr_G) (q : rr_S) (v1 : Int32) (v2 : Int32) {res : Int32} (h : R_canThrow q v1 v2 = some res) : rr_Mi l yX11_canThrow wsX11_canThrow rmX11_canThrow g q [.int v1, .int v2] (res, q) := by
  intro sz
  unfold R_canThrow at h
  refine rr_ofW (by decide) rfl rfl (fun _ z => List.mem_cons_of_mem _ (List.mem_append_right _ z)) (Nat.le_of_ble_eq_true rfl) ?_
  intro p e s m args below meth c ls X hr hlk hsz G hl Q hQ
  subst hsz
  have hx := X.1.1
  have hb := X.1.2.1
  have hown := X.1.2.2.2.1
  have hts := X.1.2.2.2.2
  refine (fun (key : ∀ (H : Heap) (locs : List Loc), rr_H g q s H locs → W p l e (headSpec wsX11_canThrow rmX11_canThrow).room s m args below meth c H locs 0 0 Q (F0 m 0 ls [])) => key _ _ G) ?_
  clear G
  intro H locs G
  have hl : lv_has ls 3 [(0, .ref (g.2.2.2 28)), (1, .int v1), (2, .int v2)] := hl
  have hf28 : Cond.fieldLink RX11 28 (TX11 6).1 (TX11 6).2.1 (TX11 6).2.2.1 ∈ wsX11_canThrow := by decide +kernel
  refine lv_aload_n hx hb dX11_canThrow_0 rfl (lv_at hl 0 rfl) ?_
  refine rr_get X G 6 (by decide) hf28 (v := .ref (g.2.2.2 6)) rfl dX11_canThrow_1 ?_
  refine lv_iload_n hx hb dX11_canThrow_4 rfl (lv_at hl 1 rfl) ?_
  obtain ⟨hi1, h2⟩ := pp_ix_ex h
  clear h
  refine rr_iald X G ra_6 hi1 dX11_canThrow_5 ?_
  obtain ⟨j3, ej3, h4⟩ := pp_lj_ex h2
  clear h2
  have hj3 : ∀ (a3 : Unit) (H : Heap) (locs : List Loc) (ls : Array Slot), j3 a3 = some res → rr_H g q s H locs → lv_has ls 3 [] → W p l e (headSpec wsX11_canThrow rmX11_canThrow).room s m args below meth c H locs 0 0 Q (F0 m 27 ls []) := by
    intro a3 H locs ls h G hl
    have h5 := pp_jmp ej3 h
    clear h h4
    refine lv_iconst (v := 0) hx hb dX11_canThrow_27 (by decide) ?_
    exact rr_iretR X hr hlk rfl G h5 hQ dX11_canThrow_28
  refine lv_if_lt (tgt := 27) hx hb dX11_canThrow_6 (by decide) (fun c6 => ?_) (fun c6 => ?_)
  · have h7 := pp_t c6 h4
    clear h4
    exact hj3 _ H locs ls h7 G (lv_sub hl [] rfl)
  · have h8 := pp_f c6 h4
    clear h4
    refine lv_aload_n hx hb dX11_canThrow_9 rfl (lv_at hl 0 rfl) ?_
    refine lv_aload_n hx hb dX11_canThrow_10 rfl (lv_at hl 0 rfl) ?_
    refine rr_get X G 6 (by decide) hf28 (v := .ref (g.2.2.2 6)) rfl dX11_canThrow_11 ?_
    refine lv_iload_n hx hb dX11_canThrow_14 rfl (lv_at hl 1 rfl) ?_
    refine rr_iald X G ra_6 hi1 dX11_canThrow_15 ?_
    refine lv_iload_n hx hb dX11_canThrow_16 rfl (lv_at hl 2 rfl) ?_
    obtain ⟨r9, hc9, h10⟩ := pp_ob_ex h8
    clear h8
    refine rr_cali X G (ctX11_areAgainst l g _ _ _ hc9) (cwV 2 hts gX11_canThrow_X11_areAgainst rfl rfl rfl (by decide +kernel) ⟨Nat.le_of_ble_eq_true rfl, Nat.le_of_ble_eq_true rfl⟩) (rest := []) rfl hl.1 rfl (Nat.le_of_ble_eq_true rfl) dX11_canThrow_17 (fun H locs G => ?_)
    refine lv_if_eq (tgt := 27) hx hb dX11_canThrow_20 (by decide) (fun c11 => ?_) (fun c11 => ?_)
    · have h12 := pp_t c11 h10
      clear h10
      exact hj3 _ H locs ls h12 G (lv_sub hl [] rfl)
    · have h13 := pp_f c11 h10
      clear h10
      refine lv_iconst (v := 1) hx hb dX11_canThrow_23 (by decide) ?_
      refine lv_goto (tgt := 28) hx hb dX11_canThrow_24 (by decide) ?_
      exact rr_iretR X hr hlk rfl G h13 hQ dX11_canThrow_28
noncomputable def R_finishes (q : rr_S) (v1 : Int32) (v2 : Int32) (v3 : Int32) : Option rr_S := pp_ix v1 6 (pp_lj ((q.2.1 6 (Int32.toNatClampNeg v1)) : Int32) (fun x3 => pp_ix v2 8 (pp_ob (R_falls q v1 (q.2.1 1 (Int32.toNatClampNeg v2))) (fun r7 => pp_lj (fun (a9 : rr_S) => (pp_lj (fun (a12 : rr_S) => (pp_ob (R_goesTenth a12) (fun r15 => some r15) : Option rr_S)) (fun j12 => (if v3 = (1 : Int32) then pp_ob (R_goesOut a9 x3) (fun r20 => pp_ob (R_longest r20 (r20.2.1 1 (Int32.toNatClampNeg v2))) (fun r22 => pp_lj (fun (a24 : rr_S) => (pp_ob (R_holds a24 v2) (fun r27 => pp_ob (R_bits r27) (fun r29 => (if (2 : Int32) ≤ r29 then j12 a24 else pp_ob (R_isHeld a24 v1 v2) (fun r34 => j12 r34)))) : Option rr_S)) (fun j24 => (if r22 < (0 : Int32) then j24 r20 else pp_ix r22 8 (pp_lj (rr_A r20 5 (Int32.toNatClampNeg r22) (0 : Int32) : rr_S) (fun x41 => j24 x41)))))) else j12 a9)) : Option rr_S)) (fun j9 => (if v3 = (0 : Int32) then pp_ob (R_goesOut r7 v2) (fun r46 => j9 r46) else j9 r7))))))
abbrev rmX11_finishes : Room := { frames := 2, cells := 0, slots := 0, locals := 44 }
set_option maxHeartbeats 4000000 in
set_option maxRecDepth 100000 in
theorem ctX11_finishes (l : Launch) (g : rr_G) (q : rr_S) (v1 : Int32) (v2 : Int32) (v3 : Int32) {res : rr_S} (h : R_finishes q v1 v2 v3 = some res) : rr_Mv l yX11_finishes wsX11_finishes rmX11_finishes g q [.int v1, .int v2, .int v3] res := by
  intro sz
  unfold R_finishes at h
  refine rr_ofW (by decide) rfl rfl (fun _ z => List.mem_cons_of_mem _ (List.mem_append_right _ z)) (Nat.le_of_ble_eq_true rfl) ?_
  intro p e s m args below meth c ls X hr hlk hsz G hl Q hQ
  subst hsz
  have hx := X.1.1
  have hb := X.1.2.1
  have hown := X.1.2.2.2.1
  have hts := X.1.2.2.2.2
  refine (fun (key : ∀ (H : Heap) (locs : List Loc), rr_H g q s H locs → W p l e (headSpec wsX11_finishes rmX11_finishes).room s m args below meth c H locs 0 0 Q (F0 m 0 ls [])) => key _ _ G) ?_
  clear G
  intro H locs G
  have hl : lv_has ls 6 [(0, .ref (g.2.2.2 28)), (1, .int v1), (2, .int v2), (3, .int v3)] := hl
  have hf13 : Cond.fieldLink RX11 13 (TX11 1).1 (TX11 1).2.1 (TX11 1).2.2.1 ∈ wsX11_finishes := by decide +kernel
  have hf25 : Cond.fieldLink RX11 25 (TX11 5).1 (TX11 5).2.1 (TX11 5).2.2.1 ∈ wsX11_finishes := by decide +kernel
  have hf28 : Cond.fieldLink RX11 28 (TX11 6).1 (TX11 6).2.1 (TX11 6).2.2.1 ∈ wsX11_finishes := by decide +kernel
  refine lv_aload_n hx hb dX11_finishes_0 rfl (lv_at hl 0 rfl) ?_
  refine rr_get X G 6 (by decide) hf28 (v := .ref (g.2.2.2 6)) rfl dX11_finishes_1 ?_
  refine lv_iload_n hx hb dX11_finishes_4 rfl (lv_at hl 1 rfl) ?_
  obtain ⟨hi1, h2⟩ := pp_ix_ex h
  clear h
  refine rr_iald X G ra_6 hi1 dX11_finishes_5 ?_
  obtain ⟨x3, ex3, h4⟩ := pp_lj_ex h2
  clear h2
  refine lv_nmi ex3 ?_
  refine lv_istore (lv' := [(4, .int x3), (0, .ref (g.2.2.2 28)), (1, .int v1), (2, .int v2), (3, .int v3)]) hx hb dX11_finishes_6 hl (by decide) rfl (fun ls hl => ?_)
  refine lv_aload_n hx hb dX11_finishes_8 rfl (lv_at hl 1 rfl) ?_
  refine lv_iload_n hx hb dX11_finishes_9 rfl (lv_at hl 2 rfl) ?_
  refine lv_aload_n hx hb dX11_finishes_10 rfl (lv_at hl 1 rfl) ?_
  refine rr_get X G 1 (by decide) hf13 (v := .ref (g.2.2.2 1)) rfl dX11_finishes_11 ?_
  refine lv_iload_n hx hb dX11_finishes_14 rfl (lv_at hl 3 rfl) ?_
  obtain ⟨hi5, h6⟩ := pp_ix_ex h4
  clear h4
  refine rr_iald X G ra_1 hi5 dX11_finishes_15 ?_
  obtain ⟨r7, hc7, h8⟩ := pp_ob_ex h6
  clear h6
  refine rr_calv X G (ctX11_falls l g _ _ _ hc7) (cwV 2 hts gX11_finishes_X11_falls rfl rfl rfl (by decide +kernel) ⟨Nat.le_of_ble_eq_true rfl, Nat.le_of_ble_eq_true rfl⟩) (rest := []) rfl hl.1 rfl (Nat.le_of_ble_eq_true rfl) dX11_finishes_16 (fun H locs G => ?_)
  refine lv_iload_n hx hb dX11_finishes_19 rfl (lv_at hl 4 rfl) ?_
  obtain ⟨j9, ej9, h10⟩ := pp_lj_ex h8
  clear h8
  have hj9 : ∀ (a9 : rr_S) (H : Heap) (locs : List Loc) (ls : Array Slot), j9 a9 = some res → rr_H g a9 s H locs → lv_has ls 6 [(0, .ref (g.2.2.2 28)), (1, .int v1), (2, .int v2), (3, .int v3), (4, .int x3)] → W p l e (headSpec wsX11_finishes rmX11_finishes).room s m args below meth c H locs 0 0 Q (F0 m 28 ls []) := by
    intro a9 H locs ls h G hl
    have h11 := pp_jmp ej9 h
    clear h h10
    refine lv_iload_n hx hb dX11_finishes_28 rfl (lv_at hl 3 rfl) ?_
    refine lv_iconst (v := 1) hx hb dX11_finishes_29 (by decide) ?_
    obtain ⟨j12, ej12, h13⟩ := pp_lj_ex h11
    clear h11
    have hj12 : ∀ (a12 : rr_S) (H : Heap) (locs : List Loc) (ls : Array Slot), j12 a12 = some res → rr_H g a12 s H locs → lv_has ls 6 [(0, .ref (g.2.2.2 28))] → W p l e (headSpec wsX11_finishes rmX11_finishes).room s m args below meth c H locs 0 0 Q (F0 m 82 ls []) := by
      intro a12 H locs ls h G hl
      have h14 := pp_jmp ej12 h
      clear h h13
      refine lv_aload_n hx hb dX11_finishes_82 rfl (lv_at hl 0 rfl) ?_
      obtain ⟨r15, hc15, h16⟩ := pp_ob_ex h14
      clear h14
      refine rr_calv X G (ctX11_goesTenth l g _ hc15) (cwV 0 hts gX11_finishes_X11_goesTenth rfl rfl rfl (by decide +kernel) ⟨Nat.le_of_ble_eq_true rfl, Nat.le_of_ble_eq_true rfl⟩) (rest := []) rfl hl.1 rfl (Nat.le_of_ble_eq_true rfl) dX11_finishes_83 (fun H locs G => ?_)
      exact rr_vret X hr hlk G h16 hQ dX11_finishes_86
    refine lv_icmp_ne (tgt := 82) hx hb dX11_finishes_30 (by decide) (fun c17 => ?_) (fun c17 => ?_)
    · have h18 := pp_f c17 h13
      clear h13
      exact hj12 _ H locs ls h18 G (lv_sub hl [0] rfl)
    · have h19 := pp_t c17 h13
      clear h13
      refine lv_aload_n hx hb dX11_finishes_33 rfl (lv_at hl 0 rfl) ?_
      refine lv_iload hx hb dX11_finishes_34 (lv_at hl 4 rfl) ?_
      obtain ⟨r20, hc20, h21⟩ := pp_ob_ex h19
      clear h19
      refine rr_calv X G (ctX11_goesOut l g _ _ hc20) (cwV 1 hts gX11_finishes_X11_goesOut rfl rfl rfl (by decide +kernel) ⟨Nat.le_of_ble_eq_true rfl, Nat.le_of_ble_eq_true rfl⟩) (rest := []) rfl hl.1 rfl (Nat.le_of_ble_eq_true rfl) dX11_finishes_36 (fun H locs G => ?_)
      refine lv_aload_n hx hb dX11_finishes_39 rfl (lv_at hl 0 rfl) ?_
      refine lv_aload_n hx hb dX11_finishes_40 rfl (lv_at hl 0 rfl) ?_
      refine rr_get X G 1 (by decide) hf13 (v := .ref (g.2.2.2 1)) rfl dX11_finishes_41 ?_
      refine lv_iload_n hx hb dX11_finishes_44 rfl (lv_at hl 2 rfl) ?_
      refine rr_iald X G ra_1 hi5 dX11_finishes_45 ?_
      obtain ⟨r22, hc22, h23⟩ := pp_ob_ex h21
      clear h21
      refine rr_cali X G (ctX11_longest l g _ _ hc22) (cwV 1 hts gX11_finishes_X11_longest rfl rfl rfl (by decide +kernel) ⟨Nat.le_of_ble_eq_true rfl, Nat.le_of_ble_eq_true rfl⟩) (rest := []) rfl hl.1 rfl (Nat.le_of_ble_eq_true rfl) dX11_finishes_46 (fun H locs G => ?_)
      refine lv_istore (lv' := [(5, .int r22), (0, .ref (g.2.2.2 28)), (1, .int v1), (2, .int v2), (3, .int v3), (4, .int x3)]) hx hb dX11_finishes_49 hl (by decide) rfl (fun ls hl => ?_)
      refine lv_iload hx hb dX11_finishes_51 (lv_at hl 0 rfl) ?_
      obtain ⟨j24, ej24, h25⟩ := pp_lj_ex h23
      clear h23
      have hj24 : ∀ (a24 : rr_S) (H : Heap) (locs : List Loc) (ls : Array Slot), j24 a24 = some res → rr_H g a24 s H locs → lv_has ls 6 [(0, .ref (g.2.2.2 28)), (1, .int v1), (2, .int v2)] → W p l e (headSpec wsX11_finishes rmX11_finishes).room s m args below meth c H locs 0 0 Q (F0 m 64 ls []) := by
        intro a24 H locs ls h G hl
        have h26 := pp_jmp ej24 h
        clear h h25
        refine lv_aload_n hx hb dX11_finishes_64 rfl (lv_at hl 0 rfl) ?_
        refine lv_iload_n hx hb dX11_finishes_65 rfl (lv_at hl 2 rfl) ?_
        obtain ⟨r27, hc27, h28⟩ := pp_ob_ex h26
        clear h26
        refine rr_cali X G (ctX11_holds l g _ _ hc27) (cwV 1 hts gX11_finishes_X11_holds rfl rfl rfl (by decide +kernel) ⟨Nat.le_of_ble_eq_true rfl, Nat.le_of_ble_eq_true rfl⟩) (rest := []) rfl hl.1 rfl (Nat.le_of_ble_eq_true rfl) dX11_finishes_66 (fun H locs G => ?_)
        obtain ⟨r29, hc29, h30⟩ := pp_ob_ex h28
        clear h28
        refine rr_csi X G (ctX11_bits l _ hc29) (va_cwS 1 hts gX11_finishes_X11_bits rfl rfl rfl (by decide +kernel) ⟨Nat.le_of_ble_eq_true rfl, Nat.le_of_ble_eq_true rfl⟩) (rest := []) rfl hl.1 rfl (Nat.le_of_ble_eq_true rfl) dX11_finishes_69 (fun H locs G => ?_)
        refine lv_iconst (v := 2) hx hb dX11_finishes_72 (by decide) ?_
        refine lv_icmp_ge (tgt := 82) hx hb dX11_finishes_73 (by decide) (fun c31 => ?_) (fun c31 => ?_)
        · have h32 := pp_t c31 h30
          clear h30
          exact hj12 _ H locs ls h32 G (lv_sub hl [0] rfl)
        · have h33 := pp_f c31 h30
          clear h30
          refine lv_aload_n hx hb dX11_finishes_76 rfl (lv_at hl 0 rfl) ?_
          refine lv_iload_n hx hb dX11_finishes_77 rfl (lv_at hl 1 rfl) ?_
          refine lv_iload_n hx hb dX11_finishes_78 rfl (lv_at hl 2 rfl) ?_
          obtain ⟨r34, hc34, h35⟩ := pp_ob_ex h33
          clear h33
          refine rr_calv X G (ctX11_isHeld l g _ _ _ hc34) (cwV 2 hts gX11_finishes_X11_isHeld rfl rfl rfl (by decide +kernel) ⟨Nat.le_of_ble_eq_true rfl, Nat.le_of_ble_eq_true rfl⟩) (rest := []) rfl hl.1 rfl (Nat.le_of_ble_eq_true rfl) dX11_finishes_79 (fun H locs G => ?_)
          exact hj12 _ H locs ls h35 G (lv_sub hl [0] rfl)
      refine lv_if_lt (tgt := 64) hx hb dX11_finishes_53 (by decide) (fun c36 => ?_) (fun c36 => ?_)
      · have h37 := pp_t c36 h25
        clear h25
        exact hj24 _ H locs ls h37 G (lv_sub hl [1, 2, 3] rfl)
      · have h38 := pp_f c36 h25
        clear h25
        refine lv_aload_n hx hb dX11_finishes_56 rfl (lv_at hl 1 rfl) ?_
        refine rr_get X G 5 (by decide) hf25 (v := .ref (g.2.2.2 5)) rfl dX11_finishes_57 ?_
        refine lv_iload hx hb dX11_finishes_60 (lv_at hl 0 rfl) ?_
        refine lv_iconst (v := 0) hx hb dX11_finishes_62 (by decide) ?_
        obtain ⟨hi39, h40⟩ := pp_ix_ex h38
        clear h38
        obtain ⟨x41, ex41, h42⟩ := pp_lj_ex h40
        clear h40
        refine rr_iast X G ra_5 hi39 ex41 dX11_finishes_63 (fun H locs G => ?_)
        exact hj24 _ H locs ls h42 G (lv_sub hl [1, 2, 3] rfl)
  refine lv_if_ne (tgt := 28) hx hb dX11_finishes_20 (by decide) (fun c43 => ?_) (fun c43 => ?_)
  · have h44 := pp_f c43 h10
    clear h10
    exact hj9 _ H locs ls h44 G (lv_sub hl [1, 2, 3, 4, 0] rfl)
  · have h45 := pp_t c43 h10
    clear h10
    refine lv_aload_n hx hb dX11_finishes_23 rfl (lv_at hl 1 rfl) ?_
    refine lv_iload_n hx hb dX11_finishes_24 rfl (lv_at hl 3 rfl) ?_
    obtain ⟨r46, hc46, h47⟩ := pp_ob_ex h45
    clear h45
    refine rr_calv X G (ctX11_goesOut l g _ _ hc46) (cwV 1 hts gX11_finishes_X11_goesOut rfl rfl rfl (by decide +kernel) ⟨Nat.le_of_ble_eq_true rfl, Nat.le_of_ble_eq_true rfl⟩) (rest := []) rfl hl.1 rfl (Nat.le_of_ble_eq_true rfl) dX11_finishes_25 (fun H locs G => ?_)
    exact hj9 _ H locs ls h47 G (lv_sub hl [1, 2, 3, 4, 0] rfl)
noncomputable def R_throwIt (q : rr_S) (v1 : Int32) (v2 : Int32) (v3 : Int32) (v4 : Int32) : Option (Int32 × rr_S) := pp_ob (R_isBall v1) (fun r1 => pp_lj (fun (a3 : Int32) => ((if a3 = (0 : Int32) then pp_ob (R_finishes q v1 v2 v4) (fun r8 => some ((r8.1 10), r8)) else pp_ob (R_no q a3) (fun r11 => some (r11.1, r11.2))) : Option (Int32 × rr_S))) (fun j3 => pp_lj (fun (a13 : Unit) => (j3 (-1 : Int32) : Option (Int32 × rr_S))) (fun j13 => (if r1 = (0 : Int32) then j13 () else pp_ob (R_isPlayer q v2) (fun r19 => (if r19 = (0 : Int32) then j13 () else pp_ob (R_isIn v3 (0 : Int32) (2 : Int32)) (fun r23 => pp_lj (fun (a25 : Unit) => (j3 (-2 : Int32) : Option (Int32 × rr_S))) (fun j25 => (if r23 = (0 : Int32) then j25 () else pp_ob (R_isIn v4 (0 : Int32) (2 : Int32)) (fun r31 => (if r31 = (0 : Int32) then j25 () else pp_ob (R_canThrow q v1 v2) (fun r35 => (if r35 = (0 : Int32) then j3 (-3 : Int32) else (if (q.1 10) = (9999 : Int32) then j3 (-6 : Int32) else j3 (0 : Int32)))))))))))))))
abbrev rmX11_throwIt : Room := { frames := 4, cells := 0, slots := 0, locals := 86 }
set_option maxHeartbeats 4000000 in
set_option maxRecDepth 100000 in
theorem ctX11_throwIt (l : Launch) (g : rr_G) (q : rr_S) (v1 : Int32) (v2 : Int32) (v3 : Int32) (v4 : Int32) {res : (Int32 × rr_S)} (h : R_throwIt q v1 v2 v3 v4 = some res) : rr_Mi l yX11_throwIt wsX11_throwIt rmX11_throwIt g q [.int v1, .int v2, .int v3, .int v4] res := by
  intro sz
  unfold R_throwIt at h
  refine rr_ofW (by decide) rfl rfl (fun _ z => List.mem_cons_of_mem _ (List.mem_append_right _ z)) (Nat.le_of_ble_eq_true rfl) ?_
  intro p e s m args below meth c ls X hr hlk hsz G hl Q hQ
  subst hsz
  have hx := X.1.1
  have hb := X.1.2.1
  have hown := X.1.2.2.2.1
  have hts := X.1.2.2.2.2
  refine (fun (key : ∀ (H : Heap) (locs : List Loc), rr_H g q s H locs → W p l e (headSpec wsX11_throwIt rmX11_throwIt).room s m args below meth c H locs 0 0 Q (F0 m 0 ls [])) => key _ _ G) ?_
  clear G
  intro H locs G
  have hl : lv_has ls 6 [(0, .ref (g.2.2.2 28)), (1, .int v1), (2, .int v2), (3, .int v3), (4, .int v4)] := hl
  have hf165 : Cond.fieldLink RX11 165 (TX11 10).1 (TX11 10).2.1 (TX11 10).2.2.1 ∈ wsX11_throwIt := by decide +kernel
  refine lv_iload_n hx hb dX11_throwIt_0 rfl (lv_at hl 1 rfl) ?_
  obtain ⟨r1, hc1, h2⟩ := pp_ob_ex h
  clear h
  refine rr_csi X G (ctX11_isBall l _ hc1) (va_cwS 1 hts gX11_throwIt_X11_isBall rfl rfl rfl (by decide +kernel) ⟨Nat.le_of_ble_eq_true rfl, Nat.le_of_ble_eq_true rfl⟩) (rest := []) rfl hl.1 rfl (Nat.le_of_ble_eq_true rfl) dX11_throwIt_1 (fun H locs G => ?_)
  obtain ⟨j3, ej3, h4⟩ := pp_lj_ex h2
  clear h2
  have hj3 : ∀ (a3 : Int32) (H : Heap) (locs : List Loc) (ls : Array Slot), j3 a3 = some res → rr_H g q s H locs → lv_has ls 6 [(0, .ref (g.2.2.2 28)), (1, .int v1), (2, .int v2), (4, .int v4)] → W p l e (headSpec wsX11_throwIt rmX11_throwIt).room s m args below meth c H locs 0 0 Q (F0 m 73 ls [.int a3]) := by
    intro a3 H locs ls h G hl
    have h5 := pp_jmp ej3 h
    clear h h4
    refine lv_istore (lv' := [(5, .int a3), (0, .ref (g.2.2.2 28)), (1, .int v1), (2, .int v2), (4, .int v4)]) hx hb dX11_throwIt_73 hl (by decide) rfl (fun ls hl => ?_)
    refine lv_iload hx hb dX11_throwIt_75 (lv_at hl 0 rfl) ?_
    refine lv_if_eq (tgt := 87) hx hb dX11_throwIt_77 (by decide) (fun c6 => ?_) (fun c6 => ?_)
    · have h7 := pp_t c6 h5
      clear h5
      refine lv_aload_n hx hb dX11_throwIt_87 rfl (lv_at hl 1 rfl) ?_
      refine lv_iload_n hx hb dX11_throwIt_88 rfl (lv_at hl 2 rfl) ?_
      refine lv_iload_n hx hb dX11_throwIt_89 rfl (lv_at hl 3 rfl) ?_
      refine lv_iload hx hb dX11_throwIt_90 (lv_at hl 4 rfl) ?_
      obtain ⟨r8, hc8, h9⟩ := pp_ob_ex h7
      clear h7
      refine rr_calv X G (ctX11_finishes l g _ _ _ _ hc8) (cwV 3 hts gX11_throwIt_X11_finishes rfl rfl rfl (by decide +kernel) ⟨Nat.le_of_ble_eq_true rfl, Nat.le_of_ble_eq_true rfl⟩) (rest := []) rfl hl.1 rfl (Nat.le_of_ble_eq_true rfl) dX11_throwIt_92 (fun H locs G => ?_)
      refine lv_aload_n hx hb dX11_throwIt_95 rfl (lv_at hl 1 rfl) ?_
      refine rr_get X G 10 (by decide) hf165 (v := .int (r8.1 10)) rfl dX11_throwIt_96 ?_
      exact rr_iret X hr hlk rfl G h9 hQ dX11_throwIt_99
    · have h10 := pp_f c6 h5
      clear h5
      refine lv_aload_n hx hb dX11_throwIt_80 rfl (lv_at hl 1 rfl) ?_
      refine lv_iload hx hb dX11_throwIt_81 (lv_at hl 0 rfl) ?_
      obtain ⟨r11, hc11, h12⟩ := pp_ob_ex h10
      clear h10
      refine rr_cali X G (ctX11_no l g _ _ hc11) (cwV 1 hts gX11_throwIt_X11_no rfl rfl rfl (by decide +kernel) ⟨Nat.le_of_ble_eq_true rfl, Nat.le_of_ble_eq_true rfl⟩) (rest := []) rfl hl.1 rfl (Nat.le_of_ble_eq_true rfl) dX11_throwIt_83 (fun H locs G => ?_)
      exact rr_iret X hr hlk rfl G h12 hQ dX11_throwIt_86
  obtain ⟨j13, ej13, h14⟩ := pp_lj_ex h4
  clear h4
  have hj13 : ∀ (a13 : Unit) (H : Heap) (locs : List Loc) (ls : Array Slot), j13 a13 = some res → rr_H g q s H locs → lv_has ls 6 [(0, .ref (g.2.2.2 28)), (1, .int v1), (2, .int v2), (4, .int v4)] → W p l e (headSpec wsX11_throwIt rmX11_throwIt).room s m args below meth c H locs 0 0 Q (F0 m 15 ls []) := by
    intro a13 H locs ls h G hl
    have h15 := pp_jmp ej13 h
    clear h h14
    refine lv_iconst (v := -1) hx hb dX11_throwIt_15 (by decide) ?_
    refine lv_goto (tgt := 73) hx hb dX11_throwIt_16 (by decide) ?_
    exact hj3 _ H locs ls h15 G hl
  refine lv_if_eq (tgt := 15) hx hb dX11_throwIt_4 (by decide) (fun c16 => ?_) (fun c16 => ?_)
  · have h17 := pp_t c16 h14
    clear h14
    exact hj13 _ H locs ls h17 G (lv_sub hl [0, 1, 2, 4] rfl)
  · have h18 := pp_f c16 h14
    clear h14
    refine lv_aload_n hx hb dX11_throwIt_7 rfl (lv_at hl 0 rfl) ?_
    refine lv_iload_n hx hb dX11_throwIt_8 rfl (lv_at hl 2 rfl) ?_
    obtain ⟨r19, hc19, h20⟩ := pp_ob_ex h18
    clear h18
    refine rr_cali X G (ctX11_isPlayer l g _ _ hc19) (cwV 1 hts gX11_throwIt_X11_isPlayer rfl rfl rfl (by decide +kernel) ⟨Nat.le_of_ble_eq_true rfl, Nat.le_of_ble_eq_true rfl⟩) (rest := []) rfl hl.1 rfl (Nat.le_of_ble_eq_true rfl) dX11_throwIt_9 (fun H locs G => ?_)
    refine lv_if_ne (tgt := 19) hx hb dX11_throwIt_12 (by decide) (fun c21 => ?_) (fun c21 => ?_)
    · have h22 := pp_f c21 h20
      clear h20
      refine lv_iload_n hx hb dX11_throwIt_19 rfl (lv_at hl 3 rfl) ?_
      refine lv_iconst (v := 0) hx hb dX11_throwIt_20 (by decide) ?_
      refine lv_iconst (v := 2) hx hb dX11_throwIt_21 (by decide) ?_
      obtain ⟨r23, hc23, h24⟩ := pp_ob_ex h22
      clear h22
      refine rr_csi X G (ctX11_isIn l _ _ _ hc23) (va_cwS 3 hts gX11_throwIt_X11_isIn rfl rfl rfl (by decide +kernel) ⟨Nat.le_of_ble_eq_true rfl, Nat.le_of_ble_eq_true rfl⟩) (rest := []) rfl hl.1 rfl (Nat.le_of_ble_eq_true rfl) dX11_throwIt_22 (fun H locs G => ?_)
      obtain ⟨j25, ej25, h26⟩ := pp_lj_ex h24
      clear h24
      have hj25 : ∀ (a25 : Unit) (H : Heap) (locs : List Loc) (ls : Array Slot), j25 a25 = some res → rr_H g q s H locs → lv_has ls 6 [(0, .ref (g.2.2.2 28)), (1, .int v1), (2, .int v2), (4, .int v4)] → W p l e (headSpec wsX11_throwIt rmX11_throwIt).room s m args below meth c H locs 0 0 Q (F0 m 38 ls []) := by
        intro a25 H locs ls h G hl
        have h27 := pp_jmp ej25 h
        clear h h26
        refine lv_bipush (v := -2) hx hb dX11_throwIt_38 (by decide) ?_
        refine lv_goto (tgt := 73) hx hb dX11_throwIt_40 (by decide) ?_
        exact hj3 _ H locs ls h27 G hl
      refine lv_if_eq (tgt := 38) hx hb dX11_throwIt_25 (by decide) (fun c28 => ?_) (fun c28 => ?_)
      · have h29 := pp_t c28 h26
        clear h26
        exact hj25 _ H locs ls h29 G (lv_sub hl [0, 1, 2, 4] rfl)
      · have h30 := pp_f c28 h26
        clear h26
        refine lv_iload hx hb dX11_throwIt_28 (lv_at hl 4 rfl) ?_
        refine lv_iconst (v := 0) hx hb dX11_throwIt_30 (by decide) ?_
        refine lv_iconst (v := 2) hx hb dX11_throwIt_31 (by decide) ?_
        obtain ⟨r31, hc31, h32⟩ := pp_ob_ex h30
        clear h30
        refine rr_csi X G (ctX11_isIn l _ _ _ hc31) (va_cwS 3 hts gX11_throwIt_X11_isIn rfl rfl rfl (by decide +kernel) ⟨Nat.le_of_ble_eq_true rfl, Nat.le_of_ble_eq_true rfl⟩) (rest := []) rfl hl.1 rfl (Nat.le_of_ble_eq_true rfl) dX11_throwIt_32 (fun H locs G => ?_)
        refine lv_if_ne (tgt := 43) hx hb dX11_throwIt_35 (by decide) (fun c33 => ?_) (fun c33 => ?_)
        · have h34 := pp_f c33 h32
          clear h32
          refine lv_aload_n hx hb dX11_throwIt_43 rfl (lv_at hl 0 rfl) ?_
          refine lv_iload_n hx hb dX11_throwIt_44 rfl (lv_at hl 1 rfl) ?_
          refine lv_iload_n hx hb dX11_throwIt_45 rfl (lv_at hl 2 rfl) ?_
          obtain ⟨r35, hc35, h36⟩ := pp_ob_ex h34
          clear h34
          refine rr_cali X G (ctX11_canThrow l g _ _ _ hc35) (cwV 2 hts gX11_throwIt_X11_canThrow rfl rfl rfl (by decide +kernel) ⟨Nat.le_of_ble_eq_true rfl, Nat.le_of_ble_eq_true rfl⟩) (rest := []) rfl hl.1 rfl (Nat.le_of_ble_eq_true rfl) dX11_throwIt_46 (fun H locs G => ?_)
          refine lv_if_ne (tgt := 57) hx hb dX11_throwIt_49 (by decide) (fun c37 => ?_) (fun c37 => ?_)
          · have h38 := pp_f c37 h36
            clear h36
            refine lv_aload_n hx hb dX11_throwIt_57 rfl (lv_at hl 0 rfl) ?_
            refine rr_get X G 10 (by decide) hf165 (v := .int (q.1 10)) rfl dX11_throwIt_58 ?_
            refine lv_sipush (v := 9999) hx hb dX11_throwIt_61 (by decide) ?_
            refine lv_icmp_ne (tgt := 72) hx hb dX11_throwIt_64 (by decide) (fun c39 => ?_) (fun c39 => ?_)
            · have h40 := pp_f c39 h38
              clear h38
              refine lv_iconst (v := 0) hx hb dX11_throwIt_72 (by decide) ?_
              exact hj3 _ H locs ls h40 G (lv_sub hl [0, 1, 2, 4] rfl)
            · have h41 := pp_t c39 h38
              clear h38
              refine lv_bipush (v := -6) hx hb dX11_throwIt_67 (by decide) ?_
              refine lv_goto (tgt := 73) hx hb dX11_throwIt_69 (by decide) ?_
              exact hj3 _ H locs ls h41 G (lv_sub hl [0, 1, 2, 4] rfl)
          · have h42 := pp_t c37 h36
            clear h36
            refine lv_bipush (v := -3) hx hb dX11_throwIt_52 (by decide) ?_
            refine lv_goto (tgt := 73) hx hb dX11_throwIt_54 (by decide) ?_
            exact hj3 _ H locs ls h42 G (lv_sub hl [0, 1, 2, 4] rfl)
        · have h43 := pp_t c33 h32
          clear h32
          exact hj25 _ H locs ls h43 G (lv_sub hl [0, 1, 2, 4] rfl)
    · have h44 := pp_t c21 h20
      clear h20
      exact hj13 _ H locs ls h44 G (lv_sub hl [0, 1, 2, 4] rfl)
noncomputable def R_take (q : rr_S) (v1 : Int32) (v2 : Int32) : Option (Int32 × rr_S) := pp_ob (R_isPlayer q v1) (fun r1 => pp_lj (fun (a3 : Int32) => ((if a3 = (0 : Int32) then pp_ob (R_isHeld q v2 v1) (fun r8 => pp_ob (R_goesTenth r8) (fun r10 => some ((r10.1 10), r10))) else pp_ob (R_no q a3) (fun r13 => some (r13.1, r13.2))) : Option (Int32 × rr_S))) (fun j3 => pp_lj (fun (a15 : Unit) => (j3 (-1 : Int32) : Option (Int32 × rr_S))) (fun j15 => (if r1 = (0 : Int32) then j15 () else pp_ob (R_isBall v2) (fun r21 => (if r21 = (0 : Int32) then j15 () else pp_ob (R_isHere q v1) (fun r25 => pp_lj (fun (a27 : Unit) => (j3 (-3 : Int32) : Option (Int32 × rr_S))) (fun j27 => (if r25 = (0 : Int32) then j27 () else pp_ob (R_holds q v1) (fun r33 => pp_ob (R_bits r33) (fun r35 => (if (1 : Int32) < r35 then j27 () else pp_ix v2 6 (pp_ix v1 8 ((if (q.2.1 7 (Int32.toNatClampNeg v2)) = (q.2.1 1 (Int32.toNatClampNeg v1)) then (if (q.1 10) = (9999 : Int32) then j3 (-6 : Int32) else j3 (0 : Int32)) else j27 ())))))))))))))))
abbrev rmX11_take : Room := { frames := 2, cells := 0, slots := 0, locals := 43 }
set_option maxHeartbeats 4000000 in
set_option maxRecDepth 100000 in
theorem ctX11_take (l : Launch) (g : rr_G) (q : rr_S) (v1 : Int32) (v2 : Int32) {res : (Int32 × rr_S)} (h : R_take q v1 v2 = some res) : rr_Mi l yX11_take wsX11_take rmX11_take g q [.int v1, .int v2] res := by
  intro sz
  unfold R_take at h
  refine rr_ofW (by decide) rfl rfl (fun _ z => List.mem_cons_of_mem _ (List.mem_append_right _ z)) (Nat.le_of_ble_eq_true rfl) ?_
  intro p e s m args below meth c ls X hr hlk hsz G hl Q hQ
  subst hsz
  have hx := X.1.1
  have hb := X.1.2.1
  have hown := X.1.2.2.2.1
  have hts := X.1.2.2.2.2
  refine (fun (key : ∀ (H : Heap) (locs : List Loc), rr_H g q s H locs → W p l e (headSpec wsX11_take rmX11_take).room s m args below meth c H locs 0 0 Q (F0 m 0 ls [])) => key _ _ G) ?_
  clear G
  intro H locs G
  have hl : lv_has ls 4 [(0, .ref (g.2.2.2 28)), (1, .int v1), (2, .int v2)] := hl
  have hf13 : Cond.fieldLink RX11 13 (TX11 1).1 (TX11 1).2.1 (TX11 1).2.2.1 ∈ wsX11_take := by decide +kernel
  have hf31 : Cond.fieldLink RX11 31 (TX11 7).1 (TX11 7).2.1 (TX11 7).2.2.1 ∈ wsX11_take := by decide +kernel
  have hf165 : Cond.fieldLink RX11 165 (TX11 10).1 (TX11 10).2.1 (TX11 10).2.2.1 ∈ wsX11_take := by decide +kernel
  refine lv_aload_n hx hb dX11_take_0 rfl (lv_at hl 0 rfl) ?_
  refine lv_iload_n hx hb dX11_take_1 rfl (lv_at hl 1 rfl) ?_
  obtain ⟨r1, hc1, h2⟩ := pp_ob_ex h
  clear h
  refine rr_cali X G (ctX11_isPlayer l g _ _ hc1) (cwV 1 hts gX11_take_X11_isPlayer rfl rfl rfl (by decide +kernel) ⟨Nat.le_of_ble_eq_true rfl, Nat.le_of_ble_eq_true rfl⟩) (rest := []) rfl hl.1 rfl (Nat.le_of_ble_eq_true rfl) dX11_take_2 (fun H locs G => ?_)
  obtain ⟨j3, ej3, h4⟩ := pp_lj_ex h2
  clear h2
  have hj3 : ∀ (a3 : Int32) (H : Heap) (locs : List Loc) (ls : Array Slot), j3 a3 = some res → rr_H g q s H locs → lv_has ls 4 [(0, .ref (g.2.2.2 28)), (1, .int v1), (2, .int v2)] → W p l e (headSpec wsX11_take rmX11_take).room s m args below meth c H locs 0 0 Q (F0 m 75 ls [.int a3]) := by
    intro a3 H locs ls h G hl
    have h5 := pp_jmp ej3 h
    clear h h4
    refine lv_istore_n (lv' := [(3, .int a3), (0, .ref (g.2.2.2 28)), (1, .int v1), (2, .int v2)]) hx hb dX11_take_75 rfl hl (by decide) rfl (fun ls hl => ?_)
    refine lv_iload_n hx hb dX11_take_76 rfl (lv_at hl 0 rfl) ?_
    refine lv_if_eq (tgt := 86) hx hb dX11_take_77 (by decide) (fun c6 => ?_) (fun c6 => ?_)
    · have h7 := pp_t c6 h5
      clear h5
      refine lv_aload_n hx hb dX11_take_86 rfl (lv_at hl 1 rfl) ?_
      refine lv_iload_n hx hb dX11_take_87 rfl (lv_at hl 3 rfl) ?_
      refine lv_iload_n hx hb dX11_take_88 rfl (lv_at hl 2 rfl) ?_
      obtain ⟨r8, hc8, h9⟩ := pp_ob_ex h7
      clear h7
      refine rr_calv X G (ctX11_isHeld l g _ _ _ hc8) (cwV 2 hts gX11_take_X11_isHeld rfl rfl rfl (by decide +kernel) ⟨Nat.le_of_ble_eq_true rfl, Nat.le_of_ble_eq_true rfl⟩) (rest := []) rfl hl.1 rfl (Nat.le_of_ble_eq_true rfl) dX11_take_89 (fun H locs G => ?_)
      refine lv_aload_n hx hb dX11_take_92 rfl (lv_at hl 1 rfl) ?_
      obtain ⟨r10, hc10, h11⟩ := pp_ob_ex h9
      clear h9
      refine rr_calv X G (ctX11_goesTenth l g _ hc10) (cwV 0 hts gX11_take_X11_goesTenth rfl rfl rfl (by decide +kernel) ⟨Nat.le_of_ble_eq_true rfl, Nat.le_of_ble_eq_true rfl⟩) (rest := []) rfl hl.1 rfl (Nat.le_of_ble_eq_true rfl) dX11_take_93 (fun H locs G => ?_)
      refine lv_aload_n hx hb dX11_take_96 rfl (lv_at hl 1 rfl) ?_
      refine rr_get X G 10 (by decide) hf165 (v := .int (r10.1 10)) rfl dX11_take_97 ?_
      exact rr_iret X hr hlk rfl G h11 hQ dX11_take_100
    · have h12 := pp_f c6 h5
      clear h5
      refine lv_aload_n hx hb dX11_take_80 rfl (lv_at hl 1 rfl) ?_
      refine lv_iload_n hx hb dX11_take_81 rfl (lv_at hl 0 rfl) ?_
      obtain ⟨r13, hc13, h14⟩ := pp_ob_ex h12
      clear h12
      refine rr_cali X G (ctX11_no l g _ _ hc13) (cwV 1 hts gX11_take_X11_no rfl rfl rfl (by decide +kernel) ⟨Nat.le_of_ble_eq_true rfl, Nat.le_of_ble_eq_true rfl⟩) (rest := []) rfl hl.1 rfl (Nat.le_of_ble_eq_true rfl) dX11_take_82 (fun H locs G => ?_)
      exact rr_iret X hr hlk rfl G h14 hQ dX11_take_85
  obtain ⟨j15, ej15, h16⟩ := pp_lj_ex h4
  clear h4
  have hj15 : ∀ (a15 : Unit) (H : Heap) (locs : List Loc) (ls : Array Slot), j15 a15 = some res → rr_H g q s H locs → lv_has ls 4 [(0, .ref (g.2.2.2 28)), (1, .int v1), (2, .int v2)] → W p l e (headSpec wsX11_take rmX11_take).room s m args below meth c H locs 0 0 Q (F0 m 15 ls []) := by
    intro a15 H locs ls h G hl
    have h17 := pp_jmp ej15 h
    clear h h16
    refine lv_iconst (v := -1) hx hb dX11_take_15 (by decide) ?_
    refine lv_goto (tgt := 75) hx hb dX11_take_16 (by decide) ?_
    exact hj3 _ H locs ls h17 G hl
  refine lv_if_eq (tgt := 15) hx hb dX11_take_5 (by decide) (fun c18 => ?_) (fun c18 => ?_)
  · have h19 := pp_t c18 h16
    clear h16
    exact hj15 _ H locs ls h19 G hl
  · have h20 := pp_f c18 h16
    clear h16
    refine lv_iload_n hx hb dX11_take_8 rfl (lv_at hl 2 rfl) ?_
    obtain ⟨r21, hc21, h22⟩ := pp_ob_ex h20
    clear h20
    refine rr_csi X G (ctX11_isBall l _ hc21) (va_cwS 1 hts gX11_take_X11_isBall rfl rfl rfl (by decide +kernel) ⟨Nat.le_of_ble_eq_true rfl, Nat.le_of_ble_eq_true rfl⟩) (rest := []) rfl hl.1 rfl (Nat.le_of_ble_eq_true rfl) dX11_take_9 (fun H locs G => ?_)
    refine lv_if_ne (tgt := 19) hx hb dX11_take_12 (by decide) (fun c23 => ?_) (fun c23 => ?_)
    · have h24 := pp_f c23 h22
      clear h22
      refine lv_aload_n hx hb dX11_take_19 rfl (lv_at hl 0 rfl) ?_
      refine lv_iload_n hx hb dX11_take_20 rfl (lv_at hl 1 rfl) ?_
      obtain ⟨r25, hc25, h26⟩ := pp_ob_ex h24
      clear h24
      refine rr_cali X G (ctX11_isHere l g _ _ hc25) (cwV 1 hts gX11_take_X11_isHere rfl rfl rfl (by decide +kernel) ⟨Nat.le_of_ble_eq_true rfl, Nat.le_of_ble_eq_true rfl⟩) (rest := []) rfl hl.1 rfl (Nat.le_of_ble_eq_true rfl) dX11_take_21 (fun H locs G => ?_)
      obtain ⟨j27, ej27, h28⟩ := pp_lj_ex h26
      clear h26
      have hj27 : ∀ (a27 : Unit) (H : Heap) (locs : List Loc) (ls : Array Slot), j27 a27 = some res → rr_H g q s H locs → lv_has ls 4 [(0, .ref (g.2.2.2 28)), (1, .int v1), (2, .int v2)] → W p l e (headSpec wsX11_take rmX11_take).room s m args below meth c H locs 0 0 Q (F0 m 54 ls []) := by
        intro a27 H locs ls h G hl
        have h29 := pp_jmp ej27 h
        clear h h28
        refine lv_bipush (v := -3) hx hb dX11_take_54 (by decide) ?_
        refine lv_goto (tgt := 75) hx hb dX11_take_56 (by decide) ?_
        exact hj3 _ H locs ls h29 G hl
      refine lv_if_eq (tgt := 54) hx hb dX11_take_24 (by decide) (fun c30 => ?_) (fun c30 => ?_)
      · have h31 := pp_t c30 h28
        clear h28
        exact hj27 _ H locs ls h31 G hl
      · have h32 := pp_f c30 h28
        clear h28
        refine lv_aload_n hx hb dX11_take_27 rfl (lv_at hl 0 rfl) ?_
        refine lv_iload_n hx hb dX11_take_28 rfl (lv_at hl 1 rfl) ?_
        obtain ⟨r33, hc33, h34⟩ := pp_ob_ex h32
        clear h32
        refine rr_cali X G (ctX11_holds l g _ _ hc33) (cwV 1 hts gX11_take_X11_holds rfl rfl rfl (by decide +kernel) ⟨Nat.le_of_ble_eq_true rfl, Nat.le_of_ble_eq_true rfl⟩) (rest := []) rfl hl.1 rfl (Nat.le_of_ble_eq_true rfl) dX11_take_29 (fun H locs G => ?_)
        obtain ⟨r35, hc35, h36⟩ := pp_ob_ex h34
        clear h34
        refine rr_csi X G (ctX11_bits l _ hc35) (va_cwS 1 hts gX11_take_X11_bits rfl rfl rfl (by decide +kernel) ⟨Nat.le_of_ble_eq_true rfl, Nat.le_of_ble_eq_true rfl⟩) (rest := []) rfl hl.1 rfl (Nat.le_of_ble_eq_true rfl) dX11_take_32 (fun H locs G => ?_)
        refine lv_iconst (v := 1) hx hb dX11_take_35 (by decide) ?_
        refine lv_icmp_gt (tgt := 54) hx hb dX11_take_36 (by decide) (fun c37 => ?_) (fun c37 => ?_)
        · have h38 := pp_t c37 h36
          clear h36
          exact hj27 _ H locs ls h38 G hl
        · have h39 := pp_f c37 h36
          clear h36
          refine lv_aload_n hx hb dX11_take_39 rfl (lv_at hl 0 rfl) ?_
          refine rr_get X G 7 (by decide) hf31 (v := .ref (g.2.2.2 7)) rfl dX11_take_40 ?_
          refine lv_iload_n hx hb dX11_take_43 rfl (lv_at hl 2 rfl) ?_
          obtain ⟨hi40, h41⟩ := pp_ix_ex h39
          clear h39
          refine rr_iald X G ra_7 hi40 dX11_take_44 ?_
          refine lv_aload_n hx hb dX11_take_45 rfl (lv_at hl 0 rfl) ?_
          refine rr_get X G 1 (by decide) hf13 (v := .ref (g.2.2.2 1)) rfl dX11_take_46 ?_
          refine lv_iload_n hx hb dX11_take_49 rfl (lv_at hl 1 rfl) ?_
          obtain ⟨hi42, h43⟩ := pp_ix_ex h41
          clear h41
          refine rr_iald X G ra_1 hi42 dX11_take_50 ?_
          refine lv_icmp_eq (tgt := 59) hx hb dX11_take_51 (by decide) (fun c44 => ?_) (fun c44 => ?_)
          · have h45 := pp_t c44 h43
            clear h43
            refine lv_aload_n hx hb dX11_take_59 rfl (lv_at hl 0 rfl) ?_
            refine rr_get X G 10 (by decide) hf165 (v := .int (q.1 10)) rfl dX11_take_60 ?_
            refine lv_sipush (v := 9999) hx hb dX11_take_63 (by decide) ?_
            refine lv_icmp_ne (tgt := 74) hx hb dX11_take_66 (by decide) (fun c46 => ?_) (fun c46 => ?_)
            · have h47 := pp_f c46 h45
              clear h45
              refine lv_iconst (v := 0) hx hb dX11_take_74 (by decide) ?_
              exact hj3 _ H locs ls h47 G hl
            · have h48 := pp_t c46 h45
              clear h45
              refine lv_bipush (v := -6) hx hb dX11_take_69 (by decide) ?_
              refine lv_goto (tgt := 75) hx hb dX11_take_71 (by decide) ?_
              exact hj3 _ H locs ls h48 G hl
          · have h49 := pp_f c44 h43
            clear h43
            exact hj27 _ H locs ls h49 G hl
    · have h50 := pp_t c23 h22
      clear h22
      exact hj15 _ H locs ls h50 G hl
noncomputable def R_pass (q : rr_S) (v1 : Int32) : Option (Int32 × rr_S) := pp_ob (R_bound v1 (1 : Int32) (50 : Int32)) (fun r1 => pp_lj (fun (a3 : Int32) => ((if a3 = (0 : Int32) then pp_it (fun (self8 : rr_S × Int32 → Option (Int32 × rr_S)) (a8 : rr_S × Int32) => (if v1 ≤ a8.2 then some ((a8.1.1 10), a8.1) else pp_ob (R_goesTenth a8.1) (fun r12 => pp_lj (a8.2 + 1 : Int32) (fun x14 => self8 (r12, x14))))) 200 (q, (0 : Int32)) else pp_ob (R_no q a3) (fun r17 => some (r17.1, r17.2))) : Option (Int32 × rr_S))) (fun j3 => (if r1 = (0 : Int32) then (if ((q.1 10) + v1) ≤ (9999 : Int32) then j3 r1 else j3 (-6 : Int32)) else j3 r1)))
abbrev rmX11_pass : Room := { frames := 2, cells := 0, slots := 0, locals := 43 }
set_option maxHeartbeats 4000000 in
set_option maxRecDepth 100000 in
theorem ctX11_pass (l : Launch) (g : rr_G) (q : rr_S) (v1 : Int32) {res : (Int32 × rr_S)} (h : R_pass q v1 = some res) : rr_Mi l yX11_pass wsX11_pass rmX11_pass g q [.int v1] res := by
  intro sz
  unfold R_pass at h
  refine rr_ofW (by decide) rfl rfl (fun _ z => List.mem_cons_of_mem _ (List.mem_append_right _ z)) (Nat.le_of_ble_eq_true rfl) ?_
  intro p e s m args below meth c ls X hr hlk hsz G hl Q hQ
  subst hsz
  have hx := X.1.1
  have hb := X.1.2.1
  have hown := X.1.2.2.2.1
  have hts := X.1.2.2.2.2
  refine (fun (key : ∀ (H : Heap) (locs : List Loc), rr_H g q s H locs → W p l e (headSpec wsX11_pass rmX11_pass).room s m args below meth c H locs 0 0 Q (F0 m 0 ls [])) => key _ _ G) ?_
  clear G
  intro H locs G
  have hl : lv_has ls 4 [(0, .ref (g.2.2.2 28)), (1, .int v1)] := hl
  have hf165 : Cond.fieldLink RX11 165 (TX11 10).1 (TX11 10).2.1 (TX11 10).2.2.1 ∈ wsX11_pass := by decide +kernel
  refine lv_iload_n hx hb dX11_pass_0 rfl (lv_at hl 1 rfl) ?_
  refine lv_iconst (v := 1) hx hb dX11_pass_1 (by decide) ?_
  refine lv_bipush (v := 50) hx hb dX11_pass_2 (by decide) ?_
  obtain ⟨r1, hc1, h2⟩ := pp_ob_ex h
  clear h
  refine rr_csi X G (ctX11_bound l _ _ _ hc1) (va_cwS 3 hts gX11_pass_X11_bound rfl rfl rfl (by decide +kernel) ⟨Nat.le_of_ble_eq_true rfl, Nat.le_of_ble_eq_true rfl⟩) (rest := []) rfl hl.1 rfl (Nat.le_of_ble_eq_true rfl) dX11_pass_4 (fun H locs G => ?_)
  refine lv_istore_n (lv' := [(2, .int r1), (0, .ref (g.2.2.2 28)), (1, .int v1)]) hx hb dX11_pass_7 rfl hl (by decide) rfl (fun ls hl => ?_)
  refine lv_iload_n hx hb dX11_pass_8 rfl (lv_at hl 0 rfl) ?_
  obtain ⟨j3, ej3, h4⟩ := pp_lj_ex h2
  clear h2
  have hj3 : ∀ (a3 : Int32) (H : Heap) (locs : List Loc) (ls : Array Slot), j3 a3 = some res → rr_H g q s H locs → lv_has ls 4 [(0, .ref (g.2.2.2 28)), (1, .int v1), (2, .int a3)] → W p l e (headSpec wsX11_pass rmX11_pass).room s m args below meth c H locs 0 0 Q (F0 m 27 ls []) := by
    intro a3 H locs ls h G hl
    have h5 := pp_jmp ej3 h
    clear h h4
    refine lv_iload_n hx hb dX11_pass_27 rfl (lv_at hl 2 rfl) ?_
    refine lv_if_eq (tgt := 37) hx hb dX11_pass_28 (by decide) (fun c6 => ?_) (fun c6 => ?_)
    · have h7 := pp_t c6 h5
      clear h5
      refine lv_iconst (v := 0) hx hb dX11_pass_37 (by decide) ?_
      refine lv_istore_n (lv' := [(3, .int (0 : Int32)), (0, .ref (g.2.2.2 28)), (1, .int v1), (2, .int a3)]) hx hb dX11_pass_38 rfl hl (by decide) rfl (fun ls hl => ?_)
      refine pp_loop (I := fun (a8 : rr_S × Int32) => ∀ (H : Heap) (locs : List Loc) (ls : Array Slot), rr_H g a8.1 s H locs → lv_has ls 4 [(0, .ref (g.2.2.2 28)), (1, .int v1), (3, .int a8.2)] → W p l e (headSpec wsX11_pass rmX11_pass).room s m args below meth c H locs 0 0 Q (F0 m 39 ls [])) ?_ 200 _ h7 H locs ls G (lv_sub hl [1, 2, 0] rfl)
      clear h7
      intro self8 ih8 a8 h8 H locs ls G hl
      refine lv_iload_n hx hb dX11_pass_39 rfl (lv_at hl 2 rfl) ?_
      refine lv_iload_n hx hb dX11_pass_40 rfl (lv_at hl 1 rfl) ?_
      refine lv_icmp_ge (tgt := 54) hx hb dX11_pass_41 (by decide) (fun c9 => ?_) (fun c9 => ?_)
      · have h10 := pp_t c9 h8
        clear h8
        refine lv_aload_n hx hb dX11_pass_54 rfl (lv_at hl 0 rfl) ?_
        refine rr_get X G 10 (by decide) hf165 (v := .int (a8.1.1 10)) rfl dX11_pass_55 ?_
        exact rr_iret X hr hlk rfl G h10 hQ dX11_pass_58
      · have h11 := pp_f c9 h8
        clear h8
        refine lv_aload_n hx hb dX11_pass_44 rfl (lv_at hl 0 rfl) ?_
        obtain ⟨r12, hc12, h13⟩ := pp_ob_ex h11
        clear h11
        refine rr_calv X G (ctX11_goesTenth l g _ hc12) (cwV 0 hts gX11_pass_X11_goesTenth rfl rfl rfl (by decide +kernel) ⟨Nat.le_of_ble_eq_true rfl, Nat.le_of_ble_eq_true rfl⟩) (rest := []) rfl hl.1 rfl (Nat.le_of_ble_eq_true rfl) dX11_pass_45 (fun H locs G => ?_)
        obtain ⟨x14, ex14, h15⟩ := pp_lj_ex h13
        clear h13
        refine lv_iinc (v := x14) (lv' := [(3, .int x14), (0, .ref (g.2.2.2 28)), (1, .int v1)]) hx hb dX11_pass_48 hl (k := 2) rfl (by rw [ex14]; rfl) (by decide) rfl (fun ls hl => ?_)
        refine lv_goto (tgt := 39) hx hb dX11_pass_51 (by decide) ?_
        exact ih8 _ h15 H locs ls G (lv_sub hl [1, 2, 0] rfl)
    · have h16 := pp_f c6 h5
      clear h5
      refine lv_aload_n hx hb dX11_pass_31 rfl (lv_at hl 0 rfl) ?_
      refine lv_iload_n hx hb dX11_pass_32 rfl (lv_at hl 2 rfl) ?_
      obtain ⟨r17, hc17, h18⟩ := pp_ob_ex h16
      clear h16
      refine rr_cali X G (ctX11_no l g _ _ hc17) (cwV 1 hts gX11_pass_X11_no rfl rfl rfl (by decide +kernel) ⟨Nat.le_of_ble_eq_true rfl, Nat.le_of_ble_eq_true rfl⟩) (rest := []) rfl hl.1 rfl (Nat.le_of_ble_eq_true rfl) dX11_pass_33 (fun H locs G => ?_)
      exact rr_iret X hr hlk rfl G h18 hQ dX11_pass_36
  refine lv_if_ne (tgt := 27) hx hb dX11_pass_9 (by decide) (fun c19 => ?_) (fun c19 => ?_)
  · have h20 := pp_f c19 h4
    clear h4
    exact hj3 _ H locs ls h20 G (lv_sub hl [1, 2, 0] rfl)
  · have h21 := pp_t c19 h4
    clear h4
    refine lv_aload_n hx hb dX11_pass_12 rfl (lv_at hl 1 rfl) ?_
    refine rr_get X G 10 (by decide) hf165 (v := .int (q.1 10)) rfl dX11_pass_13 ?_
    refine lv_iload_n hx hb dX11_pass_16 rfl (lv_at hl 2 rfl) ?_
    refine lv_iadd hx hb dX11_pass_17 ?_
    refine lv_sipush (v := 9999) hx hb dX11_pass_18 (by decide) ?_
    refine lv_icmp_le (tgt := 27) hx hb dX11_pass_21 (by decide) (fun c22 => ?_) (fun c22 => ?_)
    · have h23 := pp_t c22 h21
      clear h21
      exact hj3 _ H locs ls h23 G (lv_sub hl [1, 2, 0] rfl)
    · have h24 := pp_f c22 h21
      clear h21
      refine lv_bipush (v := -6) hx hb dX11_pass_24 (by decide) ?_
      refine lv_istore_n (lv' := [(2, .int (-6 : Int32)), (0, .ref (g.2.2.2 28)), (1, .int v1)]) hx hb dX11_pass_26 rfl hl (by decide) rfl (fun ls hl => ?_)
      exact hj3 _ H locs ls h24 G (lv_sub hl [1, 2, 0] rfl)
noncomputable def R_best (q : rr_S) (v1 : Int32) (v2 : Int32) : Option (Int32 × rr_S) := pp_ob (R_isPlayer q v1) (fun r1 => pp_lj (fun (a3 : Int32) => ((if a3 = (0 : Int32) then pp_it (fun (self8 : Int32 × Int32 × Int32 → Option (Int32 × rr_S)) (a8 : Int32 × Int32 × Int32) => (if ((10 : Int32) * (q.1 9)) ≤ a8.2.2 then (if v2 = (0 : Int32) then some (a8.1, q) else some (a8.2.1, q)) else pp_lj (fun (a15 : Int32 × Int32) => (pp_lj (a8.2.2 + 1 : Int32) (fun x18 => self8 (a15.1, a15.2, x18)) : Option (Int32 × rr_S))) (fun j15 => (if (2 : Int32) < (a8.2.2 - (a8.2.2 / (10 : Int32)) * (10 : Int32)) then j15 (a8.1, a8.2.1) else pp_ob (R_areAgainst q v1 (a8.2.2 / (10 : Int32))) (fun r23 => (if r23 = (0 : Int32) then j15 (a8.1, a8.2.1) else pp_ob (R_hitOf q v1 (a8.2.2 / (10 : Int32)) (a8.2.2 - (a8.2.2 / (10 : Int32)) * (10 : Int32))) (fun r27 => pp_ob (R_caughtOf q (a8.2.2 / (10 : Int32)) (a8.2.2 - (a8.2.2 / (10 : Int32)) * (10 : Int32))) (fun r29 => pp_lj ((r27 - ((2 : Int32) * r29)) : Int32) (fun x31 => pp_lj (fun (a33 : Unit) => (j15 (a8.2.2, x31) : Option (Int32 × rr_S))) (fun j33 => (if a8.1 < (0 : Int32) then j33 () else (if a8.2.1 < x31 then j33 () else j15 (a8.1, a8.2.1))))))))))))) 200 ((-9 : Int32), (-9 : Int32), (0 : Int32)) else pp_ob (R_lower q a3) (fun r44 => some (r44.1, r44.2))) : Option (Int32 × rr_S))) (fun j3 => (if r1 = (0 : Int32) then j3 (-1 : Int32) else pp_ob (R_isIn v2 (0 : Int32) (1 : Int32)) (fun r48 => (if r48 = (0 : Int32) then j3 (-2 : Int32) else pp_ob (R_holds q v1) (fun r52 => (if r52 = (0 : Int32) then j3 (-3 : Int32) else j3 (0 : Int32))))))))
abbrev rmX11_best : Room := { frames := 3, cells := 0, slots := 0, locals := 68 }
set_option maxHeartbeats 4000000 in
set_option maxRecDepth 100000 in
theorem ctX11_best (l : Launch) (g : rr_G) (q : rr_S) (v1 : Int32) (v2 : Int32) {res : (Int32 × rr_S)} (h : R_best q v1 v2 = some res) : rr_Mi l yX11_best wsX11_best rmX11_best g q [.int v1, .int v2] res := by
  intro sz
  unfold R_best at h
  refine rr_ofW (by decide) rfl rfl (fun _ z => List.mem_cons_of_mem _ (List.mem_append_right _ z)) (Nat.le_of_ble_eq_true rfl) ?_
  intro p e s m args below meth c ls X hr hlk hsz G hl Q hQ
  subst hsz
  have hx := X.1.1
  have hb := X.1.2.1
  have hown := X.1.2.2.2.1
  have hts := X.1.2.2.2.2
  refine (fun (key : ∀ (H : Heap) (locs : List Loc), rr_H g q s H locs → W p l e (headSpec wsX11_best rmX11_best).room s m args below meth c H locs 0 0 Q (F0 m 0 ls [])) => key _ _ G) ?_
  clear G
  intro H locs G
  have hl : lv_has ls 8 [(0, .ref (g.2.2.2 28)), (1, .int v1), (2, .int v2)] := hl
  have hf65 : Cond.fieldLink RX11 65 (TX11 9).1 (TX11 9).2.1 (TX11 9).2.2.1 ∈ wsX11_best := by decide +kernel
  refine lv_aload_n hx hb dX11_best_0 rfl (lv_at hl 0 rfl) ?_
  refine lv_iload_n hx hb dX11_best_1 rfl (lv_at hl 1 rfl) ?_
  obtain ⟨r1, hc1, h2⟩ := pp_ob_ex h
  clear h
  refine rr_cali X G (ctX11_isPlayer l g _ _ hc1) (cwV 1 hts gX11_best_X11_isPlayer rfl rfl rfl (by decide +kernel) ⟨Nat.le_of_ble_eq_true rfl, Nat.le_of_ble_eq_true rfl⟩) (rest := []) rfl hl.1 rfl (Nat.le_of_ble_eq_true rfl) dX11_best_2 (fun H locs G => ?_)
  obtain ⟨j3, ej3, h4⟩ := pp_lj_ex h2
  clear h2
  have hj3 : ∀ (a3 : Int32) (H : Heap) (locs : List Loc) (ls : Array Slot), j3 a3 = some res → rr_H g q s H locs → lv_has ls 8 [(0, .ref (g.2.2.2 28)), (1, .int v1), (2, .int v2)] → W p l e (headSpec wsX11_best rmX11_best).room s m args below meth c H locs 0 0 Q (F0 m 40 ls [.int a3]) := by
    intro a3 H locs ls h G hl
    have h5 := pp_jmp ej3 h
    clear h h4
    refine lv_istore_n (lv' := [(3, .int a3), (0, .ref (g.2.2.2 28)), (1, .int v1), (2, .int v2)]) hx hb dX11_best_40 rfl hl (by decide) rfl (fun ls hl => ?_)
    refine lv_iload_n hx hb dX11_best_41 rfl (lv_at hl 0 rfl) ?_
    refine lv_if_eq (tgt := 51) hx hb dX11_best_42 (by decide) (fun c6 => ?_) (fun c6 => ?_)
    · have h7 := pp_t c6 h5
      clear h5
      refine lv_bipush (v := -9) hx hb dX11_best_51 (by decide) ?_
      refine lv_istore (lv' := [(4, .int (-9 : Int32)), (3, .int a3), (0, .ref (g.2.2.2 28)), (1, .int v1), (2, .int v2)]) hx hb dX11_best_53 hl (by decide) rfl (fun ls hl => ?_)
      refine lv_bipush (v := -9) hx hb dX11_best_55 (by decide) ?_
      refine lv_istore (lv' := [(5, .int (-9 : Int32)), (4, .int (-9 : Int32)), (3, .int a3), (0, .ref (g.2.2.2 28)), (1, .int v1), (2, .int v2)]) hx hb dX11_best_57 hl (by decide) rfl (fun ls hl => ?_)
      refine lv_iconst (v := 0) hx hb dX11_best_59 (by decide) ?_
      refine lv_istore (lv' := [(6, .int (0 : Int32)), (5, .int (-9 : Int32)), (4, .int (-9 : Int32)), (3, .int a3), (0, .ref (g.2.2.2 28)), (1, .int v1), (2, .int v2)]) hx hb dX11_best_60 hl (by decide) rfl (fun ls hl => ?_)
      refine pp_loop (I := fun (a8 : Int32 × Int32 × Int32) => ∀ (H : Heap) (locs : List Loc) (ls : Array Slot), rr_H g q s H locs → lv_has ls 8 [(0, .ref (g.2.2.2 28)), (1, .int v1), (2, .int v2), (4, .int a8.1), (5, .int a8.2.1), (6, .int a8.2.2)] → W p l e (headSpec wsX11_best rmX11_best).room s m args below meth c H locs 0 0 Q (F0 m 62 ls [])) ?_ 200 _ h7 H locs ls G (lv_sub hl [4, 5, 6, 2, 1, 0] rfl)
      clear h7
      intro self8 ih8 a8 h8 H locs ls G hl
      refine lv_iload hx hb dX11_best_62 (lv_at hl 5 rfl) ?_
      refine lv_bipush (v := 10) hx hb dX11_best_64 (by decide) ?_
      refine lv_aload_n hx hb dX11_best_66 rfl (lv_at hl 0 rfl) ?_
      refine rr_get X G 9 (by decide) hf65 (v := .int (q.1 9)) rfl dX11_best_67 ?_
      refine lv_imul hx hb dX11_best_70 ?_
      refine lv_icmp_ge (tgt := 162) hx hb dX11_best_71 (by decide) (fun c9 => ?_) (fun c9 => ?_)
      · have h10 := pp_t c9 h8
        clear h8
        refine lv_iload_n hx hb dX11_best_162 rfl (lv_at hl 2 rfl) ?_
        refine lv_if_ne (tgt := 171) hx hb dX11_best_163 (by decide) (fun c11 => ?_) (fun c11 => ?_)
        · have h12 := pp_f c11 h10
          clear h10
          refine lv_iload hx hb dX11_best_171 (lv_at hl 4 rfl) ?_
          exact rr_iret X hr hlk rfl G h12 hQ dX11_best_173
        · have h13 := pp_t c11 h10
          clear h10
          refine lv_iload hx hb dX11_best_166 (lv_at hl 3 rfl) ?_
          refine lv_goto (tgt := 173) hx hb dX11_best_168 (by decide) ?_
          exact rr_iret X hr hlk rfl G h13 hQ dX11_best_173
      · have h14 := pp_f c9 h8
        clear h8
        refine lv_iload hx hb dX11_best_74 (lv_at hl 5 rfl) ?_
        refine lv_bipush (v := 10) hx hb dX11_best_76 (by decide) ?_
        refine lv_irem hx hb dX11_best_78 (by decide) ?_
        refine lv_iconst (v := 2) hx hb dX11_best_79 (by decide) ?_
        obtain ⟨j15, ej15, h16⟩ := pp_lj_ex h14
        clear h14
        have hj15 : ∀ (a15 : Int32 × Int32) (H : Heap) (locs : List Loc) (ls : Array Slot), j15 a15 = some res → rr_H g q s H locs → lv_has ls 8 [(0, .ref (g.2.2.2 28)), (1, .int v1), (2, .int v2), (4, .int a15.1), (5, .int a15.2), (6, .int a8.2.2)] → W p l e (headSpec wsX11_best rmX11_best).room s m args below meth c H locs 0 0 Q (F0 m 156 ls []) := by
          intro a15 H locs ls h G hl
          have h17 := pp_jmp ej15 h
          clear h h16
          obtain ⟨x18, ex18, h19⟩ := pp_lj_ex h17
          clear h17
          refine lv_iinc (v := x18) (lv' := [(6, .int x18), (0, .ref (g.2.2.2 28)), (1, .int v1), (2, .int v2), (4, .int a15.1), (5, .int a15.2)]) hx hb dX11_best_156 hl (k := 5) rfl (by rw [ex18]; rfl) (by decide) rfl (fun ls hl => ?_)
          refine lv_goto (tgt := 62) hx hb dX11_best_159 (by decide) ?_
          exact ih8 _ h19 H locs ls G (lv_sub hl [1, 2, 3, 4, 5, 0] rfl)
        refine lv_icmp_gt (tgt := 156) hx hb dX11_best_80 (by decide) (fun c20 => ?_) (fun c20 => ?_)
        · have h21 := pp_t c20 h16
          clear h16
          exact hj15 _ H locs ls h21 G hl
        · have h22 := pp_f c20 h16
          clear h16
          refine lv_aload_n hx hb dX11_best_83 rfl (lv_at hl 0 rfl) ?_
          refine lv_iload_n hx hb dX11_best_84 rfl (lv_at hl 1 rfl) ?_
          refine lv_iload hx hb dX11_best_85 (lv_at hl 5 rfl) ?_
          refine lv_bipush (v := 10) hx hb dX11_best_87 (by decide) ?_
          refine lv_idiv hx hb dX11_best_89 (by decide) ?_
          obtain ⟨r23, hc23, h24⟩ := pp_ob_ex h22
          clear h22
          refine rr_cali X G (ctX11_areAgainst l g _ _ _ hc23) (cwV 2 hts gX11_best_X11_areAgainst rfl rfl rfl (by decide +kernel) ⟨Nat.le_of_ble_eq_true rfl, Nat.le_of_ble_eq_true rfl⟩) (rest := []) rfl hl.1 rfl (Nat.le_of_ble_eq_true rfl) dX11_best_90 (fun H locs G => ?_)
          refine lv_if_ne (tgt := 99) hx hb dX11_best_93 (by decide) (fun c25 => ?_) (fun c25 => ?_)
          · have h26 := pp_f c25 h24
            clear h24
            refine lv_aload_n hx hb dX11_best_99 rfl (lv_at hl 0 rfl) ?_
            refine lv_iload_n hx hb dX11_best_100 rfl (lv_at hl 1 rfl) ?_
            refine lv_iload hx hb dX11_best_101 (lv_at hl 5 rfl) ?_
            refine lv_bipush (v := 10) hx hb dX11_best_103 (by decide) ?_
            refine lv_idiv hx hb dX11_best_105 (by decide) ?_
            refine lv_iload hx hb dX11_best_106 (lv_at hl 5 rfl) ?_
            refine lv_bipush (v := 10) hx hb dX11_best_108 (by decide) ?_
            refine lv_irem hx hb dX11_best_110 (by decide) ?_
            obtain ⟨r27, hc27, h28⟩ := pp_ob_ex h26
            clear h26
            refine rr_cali X G (ctX11_hitOf l g _ _ _ _ hc27) (cwV 3 hts gX11_best_X11_hitOf rfl rfl rfl (by decide +kernel) ⟨Nat.le_of_ble_eq_true rfl, Nat.le_of_ble_eq_true rfl⟩) (rest := []) rfl hl.1 rfl (Nat.le_of_ble_eq_true rfl) dX11_best_111 (fun H locs G => ?_)
            refine lv_iconst (v := 2) hx hb dX11_best_114 (by decide) ?_
            refine lv_aload_n hx hb dX11_best_115 rfl (lv_at hl 0 rfl) ?_
            refine lv_iload hx hb dX11_best_116 (lv_at hl 5 rfl) ?_
            refine lv_bipush (v := 10) hx hb dX11_best_118 (by decide) ?_
            refine lv_idiv hx hb dX11_best_120 (by decide) ?_
            refine lv_iload hx hb dX11_best_121 (lv_at hl 5 rfl) ?_
            refine lv_bipush (v := 10) hx hb dX11_best_123 (by decide) ?_
            refine lv_irem hx hb dX11_best_125 (by decide) ?_
            obtain ⟨r29, hc29, h30⟩ := pp_ob_ex h28
            clear h28
            refine rr_cali X G (ctX11_caughtOf l g _ _ _ hc29) (cwV 2 hts gX11_best_X11_caughtOf rfl rfl rfl (by decide +kernel) ⟨Nat.le_of_ble_eq_true rfl, Nat.le_of_ble_eq_true rfl⟩) (rest := [.int (2 : Int32), .int r27]) rfl hl.1 rfl (Nat.le_of_ble_eq_true rfl) dX11_best_126 (fun H locs G => ?_)
            refine lv_imul hx hb dX11_best_129 ?_
            refine lv_isub hx hb dX11_best_130 ?_
            obtain ⟨x31, ex31, h32⟩ := pp_lj_ex h30
            clear h30
            refine lv_nmi ex31 ?_
            refine lv_istore (lv' := [(7, .int x31), (0, .ref (g.2.2.2 28)), (1, .int v1), (2, .int v2), (4, .int a8.1), (5, .int a8.2.1), (6, .int a8.2.2)]) hx hb dX11_best_131 hl (by decide) rfl (fun ls hl => ?_)
            refine lv_iload hx hb dX11_best_133 (lv_at hl 4 rfl) ?_
            obtain ⟨j33, ej33, h34⟩ := pp_lj_ex h32
            clear h32
            have hj33 : ∀ (a33 : Unit) (H : Heap) (locs : List Loc) (ls : Array Slot), j33 a33 = some res → rr_H g q s H locs → lv_has ls 8 [(0, .ref (g.2.2.2 28)), (1, .int v1), (2, .int v2), (6, .int a8.2.2), (7, .int x31)] → W p l e (headSpec wsX11_best rmX11_best).room s m args below meth c H locs 0 0 Q (F0 m 148 ls []) := by
              intro a33 H locs ls h G hl
              have h35 := pp_jmp ej33 h
              clear h h34
              refine lv_iload hx hb dX11_best_148 (lv_at hl 3 rfl) ?_
              refine lv_istore (lv' := [(4, .int a8.2.2), (0, .ref (g.2.2.2 28)), (1, .int v1), (2, .int v2), (6, .int a8.2.2), (7, .int x31)]) hx hb dX11_best_150 hl (by decide) rfl (fun ls hl => ?_)
              refine lv_iload hx hb dX11_best_152 (lv_at hl 5 rfl) ?_
              refine lv_istore (lv' := [(5, .int x31), (4, .int a8.2.2), (0, .ref (g.2.2.2 28)), (1, .int v1), (2, .int v2), (6, .int a8.2.2), (7, .int x31)]) hx hb dX11_best_154 hl (by decide) rfl (fun ls hl => ?_)
              exact hj15 _ H locs ls h35 G (lv_sub hl [2, 3, 4, 1, 0, 5] rfl)
            refine lv_if_lt (tgt := 148) hx hb dX11_best_135 (by decide) (fun c36 => ?_) (fun c36 => ?_)
            · have h37 := pp_t c36 h34
              clear h34
              exact hj33 _ H locs ls h37 G (lv_sub hl [1, 2, 3, 6, 0] rfl)
            · have h38 := pp_f c36 h34
              clear h34
              refine lv_iload hx hb dX11_best_138 (lv_at hl 0 rfl) ?_
              refine lv_iload hx hb dX11_best_140 (lv_at hl 5 rfl) ?_
              refine lv_icmp_gt (tgt := 148) hx hb dX11_best_142 (by decide) (fun c39 => ?_) (fun c39 => ?_)
              · have h40 := pp_t c39 h38
                clear h38
                exact hj33 _ H locs ls h40 G (lv_sub hl [1, 2, 3, 6, 0] rfl)
              · have h41 := pp_f c39 h38
                clear h38
                refine lv_goto (tgt := 156) hx hb dX11_best_145 (by decide) ?_
                exact hj15 _ H locs ls h41 G (lv_sub hl [1, 2, 3, 4, 5, 6] rfl)
          · have h42 := pp_t c25 h24
            clear h24
            refine lv_goto (tgt := 156) hx hb dX11_best_96 (by decide) ?_
            exact hj15 _ H locs ls h42 G hl
    · have h43 := pp_f c6 h5
      clear h5
      refine lv_aload_n hx hb dX11_best_45 rfl (lv_at hl 1 rfl) ?_
      refine lv_iload_n hx hb dX11_best_46 rfl (lv_at hl 0 rfl) ?_
      obtain ⟨r44, hc44, h45⟩ := pp_ob_ex h43
      clear h43
      refine rr_cali X G (ctX11_lower l g _ _ hc44) (cwV 1 hts gX11_best_X11_lower rfl rfl rfl (by decide +kernel) ⟨Nat.le_of_ble_eq_true rfl, Nat.le_of_ble_eq_true rfl⟩) (rest := []) rfl hl.1 rfl (Nat.le_of_ble_eq_true rfl) dX11_best_47 (fun H locs G => ?_)
      exact rr_iret X hr hlk rfl G h45 hQ dX11_best_50
  refine lv_if_ne (tgt := 12) hx hb dX11_best_5 (by decide) (fun c46 => ?_) (fun c46 => ?_)
  · have h47 := pp_f c46 h4
    clear h4
    refine lv_iload_n hx hb dX11_best_12 rfl (lv_at hl 2 rfl) ?_
    refine lv_iconst (v := 0) hx hb dX11_best_13 (by decide) ?_
    refine lv_iconst (v := 1) hx hb dX11_best_14 (by decide) ?_
    obtain ⟨r48, hc48, h49⟩ := pp_ob_ex h47
    clear h47
    refine rr_csi X G (ctX11_isIn l _ _ _ hc48) (va_cwS 3 hts gX11_best_X11_isIn rfl rfl rfl (by decide +kernel) ⟨Nat.le_of_ble_eq_true rfl, Nat.le_of_ble_eq_true rfl⟩) (rest := []) rfl hl.1 rfl (Nat.le_of_ble_eq_true rfl) dX11_best_15 (fun H locs G => ?_)
    refine lv_if_ne (tgt := 26) hx hb dX11_best_18 (by decide) (fun c50 => ?_) (fun c50 => ?_)
    · have h51 := pp_f c50 h49
      clear h49
      refine lv_aload_n hx hb dX11_best_26 rfl (lv_at hl 0 rfl) ?_
      refine lv_iload_n hx hb dX11_best_27 rfl (lv_at hl 1 rfl) ?_
      obtain ⟨r52, hc52, h53⟩ := pp_ob_ex h51
      clear h51
      refine rr_cali X G (ctX11_holds l g _ _ hc52) (cwV 1 hts gX11_best_X11_holds rfl rfl rfl (by decide +kernel) ⟨Nat.le_of_ble_eq_true rfl, Nat.le_of_ble_eq_true rfl⟩) (rest := []) rfl hl.1 rfl (Nat.le_of_ble_eq_true rfl) dX11_best_28 (fun H locs G => ?_)
      refine lv_if_ne (tgt := 39) hx hb dX11_best_31 (by decide) (fun c54 => ?_) (fun c54 => ?_)
      · have h55 := pp_f c54 h53
        clear h53
        refine lv_iconst (v := 0) hx hb dX11_best_39 (by decide) ?_
        exact hj3 _ H locs ls h55 G hl
      · have h56 := pp_t c54 h53
        clear h53
        refine lv_bipush (v := -3) hx hb dX11_best_34 (by decide) ?_
        refine lv_goto (tgt := 40) hx hb dX11_best_36 (by decide) ?_
        exact hj3 _ H locs ls h56 G hl
    · have h57 := pp_t c50 h49
      clear h49
      refine lv_bipush (v := -2) hx hb dX11_best_21 (by decide) ?_
      refine lv_goto (tgt := 40) hx hb dX11_best_23 (by decide) ?_
      exact hj3 _ H locs ls h57 G hl
  · have h58 := pp_t c46 h4
    clear h4
    refine lv_iconst (v := -1) hx hb dX11_best_8 (by decide) ?_
    refine lv_goto (tgt := 40) hx hb dX11_best_9 (by decide) ?_
    exact hj3 _ H locs ls h58 G hl
noncomputable def R_two (q : rr_S) (v1 : Int32) (v2 : Int32) (v3 : Int32) (v4 : Int32) : Option (Int32 × rr_S) := pp_ob (R_isPlayer q v1) (fun r1 => pp_lj (fun (a3 : Int32) => (pp_lj (fun (a6 : Int32) => ((if a6 = (0 : Int32) then pp_ob (R_hitOf q v1 v3 v4) (fun r11 => pp_ob (R_hitOf q v2 v3 v4) (fun r13 => some (((1600 : Int32) - (((40 : Int32) - r11) * ((40 : Int32) - r13))), q))) else pp_ob (R_no q a6) (fun r16 => some (r16.1, r16.2))) : Option (Int32 × rr_S))) (fun j6 => (if a3 = (0 : Int32) then j6 (-1 : Int32) else pp_ob (R_isIn v4 (0 : Int32) (2 : Int32)) (fun r20 => (if r20 = (0 : Int32) then j6 (-2 : Int32) else pp_ob (R_areAgainst q v1 v3) (fun r24 => pp_lj (fun (a26 : Unit) => (j6 (-3 : Int32) : Option (Int32 × rr_S))) (fun j26 => (if r24 = (0 : Int32) then j26 () else pp_ob (R_areAgainst q v2 v3) (fun r32 => (if r32 = (0 : Int32) then j26 () else pp_ob (R_holds q v1) (fun r37 => (if r37 = (0 : Int32) then j26 () else pp_ob (R_holds q v2) (fun r42 => (if r42 = (0 : Int32) then j26 () else j6 (0 : Int32)))))))))))))) : Option (Int32 × rr_S))) (fun j3 => pp_lj (fun (a49 : Unit) => (j3 (0 : Int32) : Option (Int32 × rr_S))) (fun j49 => (if r1 = (0 : Int32) then j49 () else pp_ob (R_isPlayer q v2) (fun r55 => (if r55 = (0 : Int32) then j49 () else pp_ob (R_isPlayer q v3) (fun r60 => (if r60 = (0 : Int32) then j49 () else (if v1 = v2 then j49 () else (if v1 = v3 then j49 () else (if v2 = v3 then j49 () else j3 (1 : Int32))))))))))))
abbrev rmX11_two : Room := { frames := 3, cells := 0, slots := 0, locals := 68 }
set_option maxHeartbeats 4000000 in
set_option maxRecDepth 100000 in
theorem ctX11_two (l : Launch) (g : rr_G) (q : rr_S) (v1 : Int32) (v2 : Int32) (v3 : Int32) (v4 : Int32) {res : (Int32 × rr_S)} (h : R_two q v1 v2 v3 v4 = some res) : rr_Mi l yX11_two wsX11_two rmX11_two g q [.int v1, .int v2, .int v3, .int v4] res := by
  intro sz
  unfold R_two at h
  refine rr_ofW (by decide) rfl rfl (fun _ z => List.mem_cons_of_mem _ (List.mem_append_right _ z)) (Nat.le_of_ble_eq_true rfl) ?_
  intro p e s m args below meth c ls X hr hlk hsz G hl Q hQ
  subst hsz
  have hx := X.1.1
  have hb := X.1.2.1
  have hown := X.1.2.2.2.1
  have hts := X.1.2.2.2.2
  refine (fun (key : ∀ (H : Heap) (locs : List Loc), rr_H g q s H locs → W p l e (headSpec wsX11_two rmX11_two).room s m args below meth c H locs 0 0 Q (F0 m 0 ls [])) => key _ _ G) ?_
  clear G
  intro H locs G
  have hl : lv_has ls 7 [(0, .ref (g.2.2.2 28)), (1, .int v1), (2, .int v2), (3, .int v3), (4, .int v4)] := hl
  refine lv_aload_n hx hb dX11_two_0 rfl (lv_at hl 0 rfl) ?_
  refine lv_iload_n hx hb dX11_two_1 rfl (lv_at hl 1 rfl) ?_
  obtain ⟨r1, hc1, h2⟩ := pp_ob_ex h
  clear h
  refine rr_cali X G (ctX11_isPlayer l g _ _ hc1) (cwV 1 hts gX11_two_X11_isPlayer rfl rfl rfl (by decide +kernel) ⟨Nat.le_of_ble_eq_true rfl, Nat.le_of_ble_eq_true rfl⟩) (rest := []) rfl hl.1 rfl (Nat.le_of_ble_eq_true rfl) dX11_two_2 (fun H locs G => ?_)
  obtain ⟨j3, ej3, h4⟩ := pp_lj_ex h2
  clear h2
  have hj3 : ∀ (a3 : Int32) (H : Heap) (locs : List Loc) (ls : Array Slot), j3 a3 = some res → rr_H g q s H locs → lv_has ls 7 [(0, .ref (g.2.2.2 28)), (1, .int v1), (2, .int v2), (3, .int v3), (4, .int v4)] → W p l e (headSpec wsX11_two rmX11_two).room s m args below meth c H locs 0 0 Q (F0 m 44 ls [.int a3]) := by
    intro a3 H locs ls h G hl
    have h5 := pp_jmp ej3 h
    clear h h4
    refine lv_istore (lv' := [(5, .int a3), (0, .ref (g.2.2.2 28)), (1, .int v1), (2, .int v2), (3, .int v3), (4, .int v4)]) hx hb dX11_two_44 hl (by decide) rfl (fun ls hl => ?_)
    refine lv_iload hx hb dX11_two_46 (lv_at hl 0 rfl) ?_
    obtain ⟨j6, ej6, h7⟩ := pp_lj_ex h5
    clear h5
    have hj6 : ∀ (a6 : Int32) (H : Heap) (locs : List Loc) (ls : Array Slot), j6 a6 = some res → rr_H g q s H locs → lv_has ls 7 [(0, .ref (g.2.2.2 28)), (1, .int v1), (2, .int v2), (3, .int v3), (4, .int v4)] → W p l e (headSpec wsX11_two rmX11_two).room s m args below meth c H locs 0 0 Q (F0 m 110 ls [.int a6]) := by
      intro a6 H locs ls h G hl
      have h8 := pp_jmp ej6 h
      clear h h7
      refine lv_istore (lv' := [(6, .int a6), (0, .ref (g.2.2.2 28)), (1, .int v1), (2, .int v2), (3, .int v3), (4, .int v4)]) hx hb dX11_two_110 hl (by decide) rfl (fun ls hl => ?_)
      refine lv_iload hx hb dX11_two_112 (lv_at hl 0 rfl) ?_
      refine lv_if_eq (tgt := 124) hx hb dX11_two_114 (by decide) (fun c9 => ?_) (fun c9 => ?_)
      · have h10 := pp_t c9 h8
        clear h8
        refine lv_sipush (v := 1600) hx hb dX11_two_124 (by decide) ?_
        refine lv_bipush (v := 40) hx hb dX11_two_127 (by decide) ?_
        refine lv_aload_n hx hb dX11_two_129 rfl (lv_at hl 1 rfl) ?_
        refine lv_iload_n hx hb dX11_two_130 rfl (lv_at hl 2 rfl) ?_
        refine lv_iload_n hx hb dX11_two_131 rfl (lv_at hl 4 rfl) ?_
        refine lv_iload hx hb dX11_two_132 (lv_at hl 5 rfl) ?_
        obtain ⟨r11, hc11, h12⟩ := pp_ob_ex h10
        clear h10
        refine rr_cali X G (ctX11_hitOf l g _ _ _ _ hc11) (cwV 3 hts gX11_two_X11_hitOf rfl rfl rfl (by decide +kernel) ⟨Nat.le_of_ble_eq_true rfl, Nat.le_of_ble_eq_true rfl⟩) (rest := [.int (40 : Int32), .int (1600 : Int32)]) rfl hl.1 rfl (Nat.le_of_ble_eq_true rfl) dX11_two_134 (fun H locs G => ?_)
        refine lv_isub hx hb dX11_two_137 ?_
        refine lv_bipush (v := 40) hx hb dX11_two_138 (by decide) ?_
        refine lv_aload_n hx hb dX11_two_140 rfl (lv_at hl 1 rfl) ?_
        refine lv_iload_n hx hb dX11_two_141 rfl (lv_at hl 3 rfl) ?_
        refine lv_iload_n hx hb dX11_two_142 rfl (lv_at hl 4 rfl) ?_
        refine lv_iload hx hb dX11_two_143 (lv_at hl 5 rfl) ?_
        obtain ⟨r13, hc13, h14⟩ := pp_ob_ex h12
        clear h12
        refine rr_cali X G (ctX11_hitOf l g _ _ _ _ hc13) (cwV 3 hts gX11_two_X11_hitOf rfl rfl rfl (by decide +kernel) ⟨Nat.le_of_ble_eq_true rfl, Nat.le_of_ble_eq_true rfl⟩) (rest := [.int (40 : Int32), .int ((40 : Int32) - r11), .int (1600 : Int32)]) rfl hl.1 rfl (Nat.le_of_ble_eq_true rfl) dX11_two_145 (fun H locs G => ?_)
        refine lv_isub hx hb dX11_two_148 ?_
        refine lv_imul hx hb dX11_two_149 ?_
        refine lv_isub hx hb dX11_two_150 ?_
        exact rr_iret X hr hlk rfl G h14 hQ dX11_two_151
      · have h15 := pp_f c9 h8
        clear h8
        refine lv_aload_n hx hb dX11_two_117 rfl (lv_at hl 1 rfl) ?_
        refine lv_iload hx hb dX11_two_118 (lv_at hl 0 rfl) ?_
        obtain ⟨r16, hc16, h17⟩ := pp_ob_ex h15
        clear h15
        refine rr_cali X G (ctX11_no l g _ _ hc16) (cwV 1 hts gX11_two_X11_no rfl rfl rfl (by decide +kernel) ⟨Nat.le_of_ble_eq_true rfl, Nat.le_of_ble_eq_true rfl⟩) (rest := []) rfl hl.1 rfl (Nat.le_of_ble_eq_true rfl) dX11_two_120 (fun H locs G => ?_)
        exact rr_iret X hr hlk rfl G h17 hQ dX11_two_123
    refine lv_if_ne (tgt := 55) hx hb dX11_two_48 (by decide) (fun c18 => ?_) (fun c18 => ?_)
    · have h19 := pp_f c18 h7
      clear h7
      refine lv_iload hx hb dX11_two_55 (lv_at hl 5 rfl) ?_
      refine lv_iconst (v := 0) hx hb dX11_two_57 (by decide) ?_
      refine lv_iconst (v := 2) hx hb dX11_two_58 (by decide) ?_
      obtain ⟨r20, hc20, h21⟩ := pp_ob_ex h19
      clear h19
      refine rr_csi X G (ctX11_isIn l _ _ _ hc20) (va_cwS 3 hts gX11_two_X11_isIn rfl rfl rfl (by decide +kernel) ⟨Nat.le_of_ble_eq_true rfl, Nat.le_of_ble_eq_true rfl⟩) (rest := []) rfl hl.1 rfl (Nat.le_of_ble_eq_true rfl) dX11_two_59 (fun H locs G => ?_)
      refine lv_if_ne (tgt := 70) hx hb dX11_two_62 (by decide) (fun c22 => ?_) (fun c22 => ?_)
      · have h23 := pp_f c22 h21
        clear h21
        refine lv_aload_n hx hb dX11_two_70 rfl (lv_at hl 1 rfl) ?_
        refine lv_iload_n hx hb dX11_two_71 rfl (lv_at hl 2 rfl) ?_
        refine lv_iload_n hx hb dX11_two_72 rfl (lv_at hl 4 rfl) ?_
        obtain ⟨r24, hc24, h25⟩ := pp_ob_ex h23
        clear h23
        refine rr_cali X G (ctX11_areAgainst l g _ _ _ hc24) (cwV 2 hts gX11_two_X11_areAgainst rfl rfl rfl (by decide +kernel) ⟨Nat.le_of_ble_eq_true rfl, Nat.le_of_ble_eq_true rfl⟩) (rest := []) rfl hl.1 rfl (Nat.le_of_ble_eq_true rfl) dX11_two_73 (fun H locs G => ?_)
        obtain ⟨j26, ej26, h27⟩ := pp_lj_ex h25
        clear h25
        have hj26 : ∀ (a26 : Unit) (H : Heap) (locs : List Loc) (ls : Array Slot), j26 a26 = some res → rr_H g q s H locs → lv_has ls 7 [(0, .ref (g.2.2.2 28)), (1, .int v1), (2, .int v2), (3, .int v3), (4, .int v4)] → W p l e (headSpec wsX11_two rmX11_two).room s m args below meth c H locs 0 0 Q (F0 m 104 ls []) := by
          intro a26 H locs ls h G hl
          have h28 := pp_jmp ej26 h
          clear h h27
          refine lv_bipush (v := -3) hx hb dX11_two_104 (by decide) ?_
          refine lv_goto (tgt := 110) hx hb dX11_two_106 (by decide) ?_
          exact hj6 _ H locs ls h28 G hl
        refine lv_if_eq (tgt := 104) hx hb dX11_two_76 (by decide) (fun c29 => ?_) (fun c29 => ?_)
        · have h30 := pp_t c29 h27
          clear h27
          exact hj26 _ H locs ls h30 G (lv_sub hl [1, 2, 3, 4, 5] rfl)
        · have h31 := pp_f c29 h27
          clear h27
          refine lv_aload_n hx hb dX11_two_79 rfl (lv_at hl 1 rfl) ?_
          refine lv_iload_n hx hb dX11_two_80 rfl (lv_at hl 3 rfl) ?_
          refine lv_iload_n hx hb dX11_two_81 rfl (lv_at hl 4 rfl) ?_
          obtain ⟨r32, hc32, h33⟩ := pp_ob_ex h31
          clear h31
          refine rr_cali X G (ctX11_areAgainst l g _ _ _ hc32) (cwV 2 hts gX11_two_X11_areAgainst rfl rfl rfl (by decide +kernel) ⟨Nat.le_of_ble_eq_true rfl, Nat.le_of_ble_eq_true rfl⟩) (rest := []) rfl hl.1 rfl (Nat.le_of_ble_eq_true rfl) dX11_two_82 (fun H locs G => ?_)
          refine lv_if_eq (tgt := 104) hx hb dX11_two_85 (by decide) (fun c34 => ?_) (fun c34 => ?_)
          · have h35 := pp_t c34 h33
            clear h33
            exact hj26 _ H locs ls h35 G (lv_sub hl [1, 2, 3, 4, 5] rfl)
          · have h36 := pp_f c34 h33
            clear h33
            refine lv_aload_n hx hb dX11_two_88 rfl (lv_at hl 1 rfl) ?_
            refine lv_iload_n hx hb dX11_two_89 rfl (lv_at hl 2 rfl) ?_
            obtain ⟨r37, hc37, h38⟩ := pp_ob_ex h36
            clear h36
            refine rr_cali X G (ctX11_holds l g _ _ hc37) (cwV 1 hts gX11_two_X11_holds rfl rfl rfl (by decide +kernel) ⟨Nat.le_of_ble_eq_true rfl, Nat.le_of_ble_eq_true rfl⟩) (rest := []) rfl hl.1 rfl (Nat.le_of_ble_eq_true rfl) dX11_two_90 (fun H locs G => ?_)
            refine lv_if_eq (tgt := 104) hx hb dX11_two_93 (by decide) (fun c39 => ?_) (fun c39 => ?_)
            · have h40 := pp_t c39 h38
              clear h38
              exact hj26 _ H locs ls h40 G (lv_sub hl [1, 2, 3, 4, 5] rfl)
            · have h41 := pp_f c39 h38
              clear h38
              refine lv_aload_n hx hb dX11_two_96 rfl (lv_at hl 1 rfl) ?_
              refine lv_iload_n hx hb dX11_two_97 rfl (lv_at hl 3 rfl) ?_
              obtain ⟨r42, hc42, h43⟩ := pp_ob_ex h41
              clear h41
              refine rr_cali X G (ctX11_holds l g _ _ hc42) (cwV 1 hts gX11_two_X11_holds rfl rfl rfl (by decide +kernel) ⟨Nat.le_of_ble_eq_true rfl, Nat.le_of_ble_eq_true rfl⟩) (rest := []) rfl hl.1 rfl (Nat.le_of_ble_eq_true rfl) dX11_two_98 (fun H locs G => ?_)
              refine lv_if_ne (tgt := 109) hx hb dX11_two_101 (by decide) (fun c44 => ?_) (fun c44 => ?_)
              · have h45 := pp_f c44 h43
                clear h43
                refine lv_iconst (v := 0) hx hb dX11_two_109 (by decide) ?_
                exact hj6 _ H locs ls h45 G (lv_sub hl [1, 2, 3, 4, 5] rfl)
              · have h46 := pp_t c44 h43
                clear h43
                exact hj26 _ H locs ls h46 G (lv_sub hl [1, 2, 3, 4, 5] rfl)
      · have h47 := pp_t c22 h21
        clear h21
        refine lv_bipush (v := -2) hx hb dX11_two_65 (by decide) ?_
        refine lv_goto (tgt := 110) hx hb dX11_two_67 (by decide) ?_
        exact hj6 _ H locs ls h47 G (lv_sub hl [1, 2, 3, 4, 5] rfl)
    · have h48 := pp_t c18 h7
      clear h7
      refine lv_iconst (v := -1) hx hb dX11_two_51 (by decide) ?_
      refine lv_goto (tgt := 110) hx hb dX11_two_52 (by decide) ?_
      exact hj6 _ H locs ls h48 G (lv_sub hl [1, 2, 3, 4, 5] rfl)
  obtain ⟨j49, ej49, h50⟩ := pp_lj_ex h4
  clear h4
  have hj49 : ∀ (a49 : Unit) (H : Heap) (locs : List Loc) (ls : Array Slot), j49 a49 = some res → rr_H g q s H locs → lv_has ls 7 [(0, .ref (g.2.2.2 28)), (1, .int v1), (2, .int v2), (3, .int v3), (4, .int v4)] → W p l e (headSpec wsX11_two rmX11_two).room s m args below meth c H locs 0 0 Q (F0 m 43 ls []) := by
    intro a49 H locs ls h G hl
    have h51 := pp_jmp ej49 h
    clear h h50
    refine lv_iconst (v := 0) hx hb dX11_two_43 (by decide) ?_
    exact hj3 _ H locs ls h51 G hl
  refine lv_if_eq (tgt := 43) hx hb dX11_two_5 (by decide) (fun c52 => ?_) (fun c52 => ?_)
  · have h53 := pp_t c52 h50
    clear h50
    exact hj49 _ H locs ls h53 G hl
  · have h54 := pp_f c52 h50
    clear h50
    refine lv_aload_n hx hb dX11_two_8 rfl (lv_at hl 0 rfl) ?_
    refine lv_iload_n hx hb dX11_two_9 rfl (lv_at hl 2 rfl) ?_
    obtain ⟨r55, hc55, h56⟩ := pp_ob_ex h54
    clear h54
    refine rr_cali X G (ctX11_isPlayer l g _ _ hc55) (cwV 1 hts gX11_two_X11_isPlayer rfl rfl rfl (by decide +kernel) ⟨Nat.le_of_ble_eq_true rfl, Nat.le_of_ble_eq_true rfl⟩) (rest := []) rfl hl.1 rfl (Nat.le_of_ble_eq_true rfl) dX11_two_10 (fun H locs G => ?_)
    refine lv_if_eq (tgt := 43) hx hb dX11_two_13 (by decide) (fun c57 => ?_) (fun c57 => ?_)
    · have h58 := pp_t c57 h56
      clear h56
      exact hj49 _ H locs ls h58 G hl
    · have h59 := pp_f c57 h56
      clear h56
      refine lv_aload_n hx hb dX11_two_16 rfl (lv_at hl 0 rfl) ?_
      refine lv_iload_n hx hb dX11_two_17 rfl (lv_at hl 3 rfl) ?_
      obtain ⟨r60, hc60, h61⟩ := pp_ob_ex h59
      clear h59
      refine rr_cali X G (ctX11_isPlayer l g _ _ hc60) (cwV 1 hts gX11_two_X11_isPlayer rfl rfl rfl (by decide +kernel) ⟨Nat.le_of_ble_eq_true rfl, Nat.le_of_ble_eq_true rfl⟩) (rest := []) rfl hl.1 rfl (Nat.le_of_ble_eq_true rfl) dX11_two_18 (fun H locs G => ?_)
      refine lv_if_eq (tgt := 43) hx hb dX11_two_21 (by decide) (fun c62 => ?_) (fun c62 => ?_)
      · have h63 := pp_t c62 h61
        clear h61
        exact hj49 _ H locs ls h63 G hl
      · have h64 := pp_f c62 h61
        clear h61
        refine lv_iload_n hx hb dX11_two_24 rfl (lv_at hl 1 rfl) ?_
        refine lv_iload_n hx hb dX11_two_25 rfl (lv_at hl 2 rfl) ?_
        refine lv_icmp_eq (tgt := 43) hx hb dX11_two_26 (by decide) (fun c65 => ?_) (fun c65 => ?_)
        · have h66 := pp_t c65 h64
          clear h64
          exact hj49 _ H locs ls h66 G hl
        · have h67 := pp_f c65 h64
          clear h64
          refine lv_iload_n hx hb dX11_two_29 rfl (lv_at hl 1 rfl) ?_
          refine lv_iload_n hx hb dX11_two_30 rfl (lv_at hl 3 rfl) ?_
          refine lv_icmp_eq (tgt := 43) hx hb dX11_two_31 (by decide) (fun c68 => ?_) (fun c68 => ?_)
          · have h69 := pp_t c68 h67
            clear h67
            exact hj49 _ H locs ls h69 G hl
          · have h70 := pp_f c68 h67
            clear h67
            refine lv_iload_n hx hb dX11_two_34 rfl (lv_at hl 2 rfl) ?_
            refine lv_iload_n hx hb dX11_two_35 rfl (lv_at hl 3 rfl) ?_
            refine lv_icmp_eq (tgt := 43) hx hb dX11_two_36 (by decide) (fun c71 => ?_) (fun c71 => ?_)
            · have h72 := pp_t c71 h70
              clear h70
              exact hj49 _ H locs ls h72 G hl
            · have h73 := pp_f c71 h70
              clear h70
              refine lv_iconst (v := 1) hx hb dX11_two_39 (by decide) ?_
              refine lv_goto (tgt := 44) hx hb dX11_two_40 (by decide) ?_
              exact hj3 _ H locs ls h73 G hl
noncomputable def R_sumAt (q : rr_S) (v1 : Int32) : Option Int32 := pp_it (fun (self1 : Int32 × Int32 → Option Int32) (a1 : Int32 × Int32) => (if (q.1 9) ≤ a1.2 then some a1.1 else pp_it (fun (self5 : Int32 × Int32 → Option Int32) (a5 : Int32 × Int32) => (if (q.1 9) ≤ a5.2 then pp_lj (a1.2 + 1 : Int32) (fun x8 => self1 (a5.1, x8)) else pp_ix a5.2 8 (pp_lj (fun (a13 : Int32) => (pp_lj (a5.2 + 1 : Int32) (fun x16 => self5 (a13, x16)) : Option Int32)) (fun j13 => (if (q.2.1 1 (Int32.toNatClampNeg a5.2)) = v1 then pp_ob (R_areAgainst q a1.2 a5.2) (fun r21 => (if r21 = (0 : Int32) then j13 a5.1 else pp_ob (R_hitOf q a1.2 a5.2 (0 : Int32)) (fun r26 => pp_ob (R_caughtOf q a5.2 (0 : Int32)) (fun r28 => pp_lj ((a5.1 + (r26 - ((2 : Int32) * r28))) : Int32) (fun x30 => j13 x30))))) else j13 a5.1))))) 200 (a1.1, (0 : Int32)))) 200 ((0 : Int32), (0 : Int32))
abbrev rmX11_sumAt : Room := { frames := 3, cells := 0, slots := 0, locals := 68 }
set_option maxHeartbeats 4000000 in
set_option maxRecDepth 100000 in
theorem ctX11_sumAt (l : Launch) (g : rr_G) (q : rr_S) (v1 : Int32) {res : Int32} (h : R_sumAt q v1 = some res) : rr_Mi l yX11_sumAt wsX11_sumAt rmX11_sumAt g q [.int v1] (res, q) := by
  intro sz
  unfold R_sumAt at h
  refine rr_ofW (by decide) rfl rfl (fun _ z => List.mem_cons_of_mem _ (List.mem_append_right _ z)) (Nat.le_of_ble_eq_true rfl) ?_
  intro p e s m args below meth c ls X hr hlk hsz G hl Q hQ
  subst hsz
  have hx := X.1.1
  have hb := X.1.2.1
  have hown := X.1.2.2.2.1
  have hts := X.1.2.2.2.2
  refine (fun (key : ∀ (H : Heap) (locs : List Loc), rr_H g q s H locs → W p l e (headSpec wsX11_sumAt rmX11_sumAt).room s m args below meth c H locs 0 0 Q (F0 m 0 ls [])) => key _ _ G) ?_
  clear G
  intro H locs G
  have hl : lv_has ls 5 [(0, .ref (g.2.2.2 28)), (1, .int v1)] := hl
  have hf13 : Cond.fieldLink RX11 13 (TX11 1).1 (TX11 1).2.1 (TX11 1).2.2.1 ∈ wsX11_sumAt := by decide +kernel
  have hf65 : Cond.fieldLink RX11 65 (TX11 9).1 (TX11 9).2.1 (TX11 9).2.2.1 ∈ wsX11_sumAt := by decide +kernel
  refine lv_iconst (v := 0) hx hb dX11_sumAt_0 (by decide) ?_
  refine lv_istore_n (lv' := [(2, .int (0 : Int32)), (0, .ref (g.2.2.2 28)), (1, .int v1)]) hx hb dX11_sumAt_1 rfl hl (by decide) rfl (fun ls hl => ?_)
  refine lv_iconst (v := 0) hx hb dX11_sumAt_2 (by decide) ?_
  refine lv_istore_n (lv' := [(3, .int (0 : Int32)), (2, .int (0 : Int32)), (0, .ref (g.2.2.2 28)), (1, .int v1)]) hx hb dX11_sumAt_3 rfl hl (by decide) rfl (fun ls hl => ?_)
  refine pp_loop (I := fun (a1 : Int32 × Int32) => ∀ (H : Heap) (locs : List Loc) (ls : Array Slot), rr_H g q s H locs → lv_has ls 5 [(0, .ref (g.2.2.2 28)), (1, .int v1), (2, .int a1.1), (3, .int a1.2)] → W p l e (headSpec wsX11_sumAt rmX11_sumAt).room s m args below meth c H locs 0 0 Q (F0 m 4 ls [])) ?_ 200 _ h H locs ls G (lv_sub hl [2, 3, 1, 0] rfl)
  clear h
  intro self1 ih1 a1 h1 H locs ls G hl
  refine lv_iload_n hx hb dX11_sumAt_4 rfl (lv_at hl 3 rfl) ?_
  refine lv_aload_n hx hb dX11_sumAt_5 rfl (lv_at hl 0 rfl) ?_
  refine rr_get X G 9 (by decide) hf65 (v := .int (q.1 9)) rfl dX11_sumAt_6 ?_
  refine lv_icmp_ge (tgt := 78) hx hb dX11_sumAt_9 (by decide) (fun c2 => ?_) (fun c2 => ?_)
  · have h3 := pp_t c2 h1
    clear h1
    refine lv_iload_n hx hb dX11_sumAt_78 rfl (lv_at hl 2 rfl) ?_
    exact rr_iretR X hr hlk rfl G h3 hQ dX11_sumAt_79
  · have h4 := pp_f c2 h1
    clear h1
    refine lv_iconst (v := 0) hx hb dX11_sumAt_12 (by decide) ?_
    refine lv_istore (lv' := [(4, .int (0 : Int32)), (0, .ref (g.2.2.2 28)), (1, .int v1), (2, .int a1.1), (3, .int a1.2)]) hx hb dX11_sumAt_13 hl (by decide) rfl (fun ls hl => ?_)
    refine pp_loop (I := fun (a5 : Int32 × Int32) => ∀ (H : Heap) (locs : List Loc) (ls : Array Slot), rr_H g q s H locs → lv_has ls 5 [(0, .ref (g.2.2.2 28)), (1, .int v1), (2, .int a5.1), (3, .int a1.2), (4, .int a5.2)] → W p l e (headSpec wsX11_sumAt rmX11_sumAt).room s m args below meth c H locs 0 0 Q (F0 m 15 ls [])) ?_ 200 _ h4 H locs ls G (lv_sub hl [1, 2, 3, 4, 0] rfl)
    clear h4
    intro self5 ih5 a5 h5 H locs ls G hl
    refine lv_iload hx hb dX11_sumAt_15 (lv_at hl 4 rfl) ?_
    refine lv_aload_n hx hb dX11_sumAt_17 rfl (lv_at hl 0 rfl) ?_
    refine rr_get X G 9 (by decide) hf65 (v := .int (q.1 9)) rfl dX11_sumAt_18 ?_
    refine lv_icmp_ge (tgt := 72) hx hb dX11_sumAt_21 (by decide) (fun c6 => ?_) (fun c6 => ?_)
    · have h7 := pp_t c6 h5
      clear h5
      obtain ⟨x8, ex8, h9⟩ := pp_lj_ex h7
      clear h7
      refine lv_iinc (v := x8) (lv' := [(3, .int x8), (0, .ref (g.2.2.2 28)), (1, .int v1), (2, .int a5.1), (4, .int a5.2)]) hx hb dX11_sumAt_72 hl (k := 3) rfl (by rw [ex8]; rfl) (by decide) rfl (fun ls hl => ?_)
      refine lv_goto (tgt := 4) hx hb dX11_sumAt_75 (by decide) ?_
      exact ih1 _ h9 H locs ls G (lv_sub hl [1, 2, 3, 0] rfl)
    · have h10 := pp_f c6 h5
      clear h5
      refine lv_aload_n hx hb dX11_sumAt_24 rfl (lv_at hl 0 rfl) ?_
      refine rr_get X G 1 (by decide) hf13 (v := .ref (g.2.2.2 1)) rfl dX11_sumAt_25 ?_
      refine lv_iload hx hb dX11_sumAt_28 (lv_at hl 4 rfl) ?_
      obtain ⟨hi11, h12⟩ := pp_ix_ex h10
      clear h10
      refine rr_iald X G ra_1 hi11 dX11_sumAt_30 ?_
      refine lv_iload_n hx hb dX11_sumAt_31 rfl (lv_at hl 1 rfl) ?_
      obtain ⟨j13, ej13, h14⟩ := pp_lj_ex h12
      clear h12
      have hj13 : ∀ (a13 : Int32) (H : Heap) (locs : List Loc) (ls : Array Slot), j13 a13 = some res → rr_H g q s H locs → lv_has ls 5 [(0, .ref (g.2.2.2 28)), (1, .int v1), (2, .int a13), (3, .int a1.2), (4, .int a5.2)] → W p l e (headSpec wsX11_sumAt rmX11_sumAt).room s m args below meth c H locs 0 0 Q (F0 m 66 ls []) := by
        intro a13 H locs ls h G hl
        have h15 := pp_jmp ej13 h
        clear h h14
        obtain ⟨x16, ex16, h17⟩ := pp_lj_ex h15
        clear h15
        refine lv_iinc (v := x16) (lv' := [(4, .int x16), (0, .ref (g.2.2.2 28)), (1, .int v1), (2, .int a13), (3, .int a1.2)]) hx hb dX11_sumAt_66 hl (k := 4) rfl (by rw [ex16]; rfl) (by decide) rfl (fun ls hl => ?_)
        refine lv_goto (tgt := 15) hx hb dX11_sumAt_69 (by decide) ?_
        exact ih5 _ h17 H locs ls G (lv_sub hl [1, 2, 3, 4, 0] rfl)
      refine lv_icmp_ne (tgt := 66) hx hb dX11_sumAt_32 (by decide) (fun c18 => ?_) (fun c18 => ?_)
      · have h19 := pp_f c18 h14
        clear h14
        exact hj13 _ H locs ls h19 G hl
      · have h20 := pp_t c18 h14
        clear h14
        refine lv_aload_n hx hb dX11_sumAt_35 rfl (lv_at hl 0 rfl) ?_
        refine lv_iload_n hx hb dX11_sumAt_36 rfl (lv_at hl 3 rfl) ?_
        refine lv_iload hx hb dX11_sumAt_37 (lv_at hl 4 rfl) ?_
        obtain ⟨r21, hc21, h22⟩ := pp_ob_ex h20
        clear h20
        refine rr_cali X G (ctX11_areAgainst l g _ _ _ hc21) (cwV 2 hts gX11_sumAt_X11_areAgainst rfl rfl rfl (by decide +kernel) ⟨Nat.le_of_ble_eq_true rfl, Nat.le_of_ble_eq_true rfl⟩) (rest := []) rfl hl.1 rfl (Nat.le_of_ble_eq_true rfl) dX11_sumAt_39 (fun H locs G => ?_)
        refine lv_if_eq (tgt := 66) hx hb dX11_sumAt_42 (by decide) (fun c23 => ?_) (fun c23 => ?_)
        · have h24 := pp_t c23 h22
          clear h22
          exact hj13 _ H locs ls h24 G hl
        · have h25 := pp_f c23 h22
          clear h22
          refine lv_iload_n hx hb dX11_sumAt_45 rfl (lv_at hl 2 rfl) ?_
          refine lv_aload_n hx hb dX11_sumAt_46 rfl (lv_at hl 0 rfl) ?_
          refine lv_iload_n hx hb dX11_sumAt_47 rfl (lv_at hl 3 rfl) ?_
          refine lv_iload hx hb dX11_sumAt_48 (lv_at hl 4 rfl) ?_
          refine lv_iconst (v := 0) hx hb dX11_sumAt_50 (by decide) ?_
          obtain ⟨r26, hc26, h27⟩ := pp_ob_ex h25
          clear h25
          refine rr_cali X G (ctX11_hitOf l g _ _ _ _ hc26) (cwV 3 hts gX11_sumAt_X11_hitOf rfl rfl rfl (by decide +kernel) ⟨Nat.le_of_ble_eq_true rfl, Nat.le_of_ble_eq_true rfl⟩) (rest := [.int a5.1]) rfl hl.1 rfl (Nat.le_of_ble_eq_true rfl) dX11_sumAt_51 (fun H locs G => ?_)
          refine lv_iconst (v := 2) hx hb dX11_sumAt_54 (by decide) ?_
          refine lv_aload_n hx hb dX11_sumAt_55 rfl (lv_at hl 0 rfl) ?_
          refine lv_iload hx hb dX11_sumAt_56 (lv_at hl 4 rfl) ?_
          refine lv_iconst (v := 0) hx hb dX11_sumAt_58 (by decide) ?_
          obtain ⟨r28, hc28, h29⟩ := pp_ob_ex h27
          clear h27
          refine rr_cali X G (ctX11_caughtOf l g _ _ _ hc28) (cwV 2 hts gX11_sumAt_X11_caughtOf rfl rfl rfl (by decide +kernel) ⟨Nat.le_of_ble_eq_true rfl, Nat.le_of_ble_eq_true rfl⟩) (rest := [.int (2 : Int32), .int r26, .int a5.1]) rfl hl.1 rfl (Nat.le_of_ble_eq_true rfl) dX11_sumAt_59 (fun H locs G => ?_)
          refine lv_imul hx hb dX11_sumAt_62 ?_
          refine lv_isub hx hb dX11_sumAt_63 ?_
          refine lv_iadd hx hb dX11_sumAt_64 ?_
          obtain ⟨x30, ex30, h31⟩ := pp_lj_ex h29
          clear h29
          refine lv_nmi ex30 ?_
          refine lv_istore_n (lv' := [(2, .int x30), (0, .ref (g.2.2.2 28)), (1, .int v1), (3, .int a1.2), (4, .int a5.2)]) hx hb dX11_sumAt_65 rfl hl (by decide) rfl (fun ls hl => ?_)
          exact hj13 _ H locs ls h31 G (lv_sub hl [1, 2, 0, 3, 4] rfl)
noncomputable def R_worth (q : rr_S) (v1 : Int32) : Option (Int32 × rr_S) := pp_ob (R_isPlayer q v1) (fun r1 => pp_lj (fun (a3 : Int32) => ((if a3 = (0 : Int32) then pp_ix v1 8 (pp_ob (R_sumAt q (q.2.1 1 (Int32.toNatClampNeg v1))) (fun r10 => pp_lj (rr_A q 5 (Int32.toNatClampNeg v1) ((q.1 11) + (1 : Int32)) : rr_S) (fun x12 => pp_ob (R_sumAt x12 (x12.2.1 1 (Int32.toNatClampNeg v1))) (fun r14 => pp_lj (rr_A x12 5 (Int32.toNatClampNeg v1) (0 : Int32) : rr_S) (fun x16 => some ((r14 - r10), x16)))))) else pp_ob (R_lower q a3) (fun r19 => some (r19.1, r19.2))) : Option (Int32 × rr_S))) (fun j3 => (if r1 = (0 : Int32) then j3 (-1 : Int32) else pp_ob (R_isHere q v1) (fun r23 => (if r23 = (0 : Int32) then j3 (-3 : Int32) else j3 (0 : Int32))))))
abbrev rmX11_worth : Room := { frames := 4, cells := 0, slots := 0, locals := 92 }
set_option maxHeartbeats 4000000 in
set_option maxRecDepth 100000 in
theorem ctX11_worth (l : Launch) (g : rr_G) (q : rr_S) (v1 : Int32) {res : (Int32 × rr_S)} (h : R_worth q v1 = some res) : rr_Mi l yX11_worth wsX11_worth rmX11_worth g q [.int v1] res := by
  intro sz
  unfold R_worth at h
  refine rr_ofW (by decide) rfl rfl (fun _ z => List.mem_cons_of_mem _ (List.mem_append_right _ z)) (Nat.le_of_ble_eq_true rfl) ?_
  intro p e s m args below meth c ls X hr hlk hsz G hl Q hQ
  subst hsz
  have hx := X.1.1
  have hb := X.1.2.1
  have hown := X.1.2.2.2.1
  have hts := X.1.2.2.2.2
  refine (fun (key : ∀ (H : Heap) (locs : List Loc), rr_H g q s H locs → W p l e (headSpec wsX11_worth rmX11_worth).room s m args below meth c H locs 0 0 Q (F0 m 0 ls [])) => key _ _ G) ?_
  clear G
  intro H locs G
  have hl : lv_has ls 5 [(0, .ref (g.2.2.2 28)), (1, .int v1)] := hl
  have hf13 : Cond.fieldLink RX11 13 (TX11 1).1 (TX11 1).2.1 (TX11 1).2.2.1 ∈ wsX11_worth := by decide +kernel
  have hf25 : Cond.fieldLink RX11 25 (TX11 5).1 (TX11 5).2.1 (TX11 5).2.2.1 ∈ wsX11_worth := by decide +kernel
  have hf111 : Cond.fieldLink RX11 111 (TX11 11).1 (TX11 11).2.1 (TX11 11).2.2.1 ∈ wsX11_worth := by decide +kernel
  refine lv_aload_n hx hb dX11_worth_0 rfl (lv_at hl 0 rfl) ?_
  refine lv_iload_n hx hb dX11_worth_1 rfl (lv_at hl 1 rfl) ?_
  obtain ⟨r1, hc1, h2⟩ := pp_ob_ex h
  clear h
  refine rr_cali X G (ctX11_isPlayer l g _ _ hc1) (cwV 1 hts gX11_worth_X11_isPlayer rfl rfl rfl (by decide +kernel) ⟨Nat.le_of_ble_eq_true rfl, Nat.le_of_ble_eq_true rfl⟩) (rest := []) rfl hl.1 rfl (Nat.le_of_ble_eq_true rfl) dX11_worth_2 (fun H locs G => ?_)
  obtain ⟨j3, ej3, h4⟩ := pp_lj_ex h2
  clear h2
  have hj3 : ∀ (a3 : Int32) (H : Heap) (locs : List Loc) (ls : Array Slot), j3 a3 = some res → rr_H g q s H locs → lv_has ls 5 [(0, .ref (g.2.2.2 28)), (1, .int v1)] → W p l e (headSpec wsX11_worth rmX11_worth).room s m args below meth c H locs 0 0 Q (F0 m 26 ls [.int a3]) := by
    intro a3 H locs ls h G hl
    have h5 := pp_jmp ej3 h
    clear h h4
    refine lv_istore_n (lv' := [(2, .int a3), (0, .ref (g.2.2.2 28)), (1, .int v1)]) hx hb dX11_worth_26 rfl hl (by decide) rfl (fun ls hl => ?_)
    refine lv_iload_n hx hb dX11_worth_27 rfl (lv_at hl 0 rfl) ?_
    refine lv_if_eq (tgt := 37) hx hb dX11_worth_28 (by decide) (fun c6 => ?_) (fun c6 => ?_)
    · have h7 := pp_t c6 h5
      clear h5
      refine lv_aload_n hx hb dX11_worth_37 rfl (lv_at hl 1 rfl) ?_
      refine lv_aload_n hx hb dX11_worth_38 rfl (lv_at hl 1 rfl) ?_
      refine rr_get X G 1 (by decide) hf13 (v := .ref (g.2.2.2 1)) rfl dX11_worth_39 ?_
      refine lv_iload_n hx hb dX11_worth_42 rfl (lv_at hl 2 rfl) ?_
      obtain ⟨hi8, h9⟩ := pp_ix_ex h7
      clear h7
      refine rr_iald X G ra_1 hi8 dX11_worth_43 ?_
      obtain ⟨r10, hc10, h11⟩ := pp_ob_ex h9
      clear h9
      refine rr_cali X G (ctX11_sumAt l g _ _ hc10) (cwV 1 hts gX11_worth_X11_sumAt rfl rfl rfl (by decide +kernel) ⟨Nat.le_of_ble_eq_true rfl, Nat.le_of_ble_eq_true rfl⟩) (rest := []) rfl hl.1 rfl (Nat.le_of_ble_eq_true rfl) dX11_worth_44 (fun H locs G => ?_)
      refine lv_istore_n (lv' := [(3, .int r10), (2, .int a3), (0, .ref (g.2.2.2 28)), (1, .int v1)]) hx hb dX11_worth_47 rfl hl (by decide) rfl (fun ls hl => ?_)
      refine lv_aload_n hx hb dX11_worth_48 rfl (lv_at hl 2 rfl) ?_
      refine rr_get X G 5 (by decide) hf25 (v := .ref (g.2.2.2 5)) rfl dX11_worth_49 ?_
      refine lv_iload_n hx hb dX11_worth_52 rfl (lv_at hl 3 rfl) ?_
      refine lv_aload_n hx hb dX11_worth_53 rfl (lv_at hl 2 rfl) ?_
      refine rr_get X G 11 (by decide) hf111 (v := .int (q.1 11)) rfl dX11_worth_54 ?_
      refine lv_iconst (v := 1) hx hb dX11_worth_57 (by decide) ?_
      refine lv_iadd hx hb dX11_worth_58 ?_
      obtain ⟨x12, ex12, h13⟩ := pp_lj_ex h11
      clear h11
      refine rr_iast X G ra_5 hi8 ex12 dX11_worth_59 (fun H locs G => ?_)
      refine lv_aload_n hx hb dX11_worth_60 rfl (lv_at hl 2 rfl) ?_
      refine lv_aload_n hx hb dX11_worth_61 rfl (lv_at hl 2 rfl) ?_
      refine rr_get X G 1 (by decide) hf13 (v := .ref (g.2.2.2 1)) rfl dX11_worth_62 ?_
      refine lv_iload_n hx hb dX11_worth_65 rfl (lv_at hl 3 rfl) ?_
      refine rr_iald X G ra_1 hi8 dX11_worth_66 ?_
      obtain ⟨r14, hc14, h15⟩ := pp_ob_ex h13
      clear h13
      refine rr_cali X G (ctX11_sumAt l g _ _ hc14) (cwV 1 hts gX11_worth_X11_sumAt rfl rfl rfl (by decide +kernel) ⟨Nat.le_of_ble_eq_true rfl, Nat.le_of_ble_eq_true rfl⟩) (rest := []) rfl hl.1 rfl (Nat.le_of_ble_eq_true rfl) dX11_worth_67 (fun H locs G => ?_)
      refine lv_istore (lv' := [(4, .int r14), (3, .int r10), (2, .int a3), (0, .ref (g.2.2.2 28)), (1, .int v1)]) hx hb dX11_worth_70 hl (by decide) rfl (fun ls hl => ?_)
      refine lv_aload_n hx hb dX11_worth_72 rfl (lv_at hl 3 rfl) ?_
      refine rr_get X G 5 (by decide) hf25 (v := .ref (g.2.2.2 5)) rfl dX11_worth_73 ?_
      refine lv_iload_n hx hb dX11_worth_76 rfl (lv_at hl 4 rfl) ?_
      refine lv_iconst (v := 0) hx hb dX11_worth_77 (by decide) ?_
      obtain ⟨x16, ex16, h17⟩ := pp_lj_ex h15
      clear h15
      refine rr_iast X G ra_5 hi8 ex16 dX11_worth_78 (fun H locs G => ?_)
      refine lv_iload hx hb dX11_worth_79 (lv_at hl 0 rfl) ?_
      refine lv_iload_n hx hb dX11_worth_81 rfl (lv_at hl 1 rfl) ?_
      refine lv_isub hx hb dX11_worth_82 ?_
      exact rr_iret X hr hlk rfl G h17 hQ dX11_worth_83
    · have h18 := pp_f c6 h5
      clear h5
      refine lv_aload_n hx hb dX11_worth_31 rfl (lv_at hl 1 rfl) ?_
      refine lv_iload_n hx hb dX11_worth_32 rfl (lv_at hl 0 rfl) ?_
      obtain ⟨r19, hc19, h20⟩ := pp_ob_ex h18
      clear h18
      refine rr_cali X G (ctX11_lower l g _ _ hc19) (cwV 1 hts gX11_worth_X11_lower rfl rfl rfl (by decide +kernel) ⟨Nat.le_of_ble_eq_true rfl, Nat.le_of_ble_eq_true rfl⟩) (rest := []) rfl hl.1 rfl (Nat.le_of_ble_eq_true rfl) dX11_worth_33 (fun H locs G => ?_)
      exact rr_iret X hr hlk rfl G h20 hQ dX11_worth_36
  refine lv_if_ne (tgt := 12) hx hb dX11_worth_5 (by decide) (fun c21 => ?_) (fun c21 => ?_)
  · have h22 := pp_f c21 h4
    clear h4
    refine lv_aload_n hx hb dX11_worth_12 rfl (lv_at hl 0 rfl) ?_
    refine lv_iload_n hx hb dX11_worth_13 rfl (lv_at hl 1 rfl) ?_
    obtain ⟨r23, hc23, h24⟩ := pp_ob_ex h22
    clear h22
    refine rr_cali X G (ctX11_isHere l g _ _ hc23) (cwV 1 hts gX11_worth_X11_isHere rfl rfl rfl (by decide +kernel) ⟨Nat.le_of_ble_eq_true rfl, Nat.le_of_ble_eq_true rfl⟩) (rest := []) rfl hl.1 rfl (Nat.le_of_ble_eq_true rfl) dX11_worth_14 (fun H locs G => ?_)
    refine lv_if_ne (tgt := 25) hx hb dX11_worth_17 (by decide) (fun c25 => ?_) (fun c25 => ?_)
    · have h26 := pp_f c25 h24
      clear h24
      refine lv_iconst (v := 0) hx hb dX11_worth_25 (by decide) ?_
      exact hj3 _ H locs ls h26 G hl
    · have h27 := pp_t c25 h24
      clear h24
      refine lv_bipush (v := -3) hx hb dX11_worth_20 (by decide) ?_
      refine lv_goto (tgt := 26) hx hb dX11_worth_22 (by decide) ?_
      exact hj3 _ H locs ls h27 G hl
  · have h28 := pp_t c21 h4
    clear h4
    refine lv_iconst (v := -1) hx hb dX11_worth_8 (by decide) ?_
    refine lv_goto (tgt := 26) hx hb dX11_worth_9 (by decide) ?_
    exact hj3 _ H locs ls h28 G hl
noncomputable def R_goesDuel (q : rr_S) (v1 : Int32) (v2 : Int32) (v3 : Int32) : Option rr_S := pp_it (fun (self1 : rr_S × Int32 → Option rr_S) (a1 : rr_S × Int32) => (if (25 : Int32) ≤ a1.2 then pp_it (fun (self4 : rr_S × Int32 → Option rr_S) (a4 : rr_S × Int32) => (if (25 : Int32) ≤ a4.2 then pp_it (fun (self7 : rr_S × Int32 → Option rr_S) (a7 : rr_S × Int32) => (if (25 : Int32) ≤ a7.2 then some a7.1 else pp_ix a7.2 25 (pp_lj (rr_L a7.1 23 (Int32.toNatClampNeg a7.2) (a7.1.2.2 24 (Int32.toNatClampNeg a7.2)) : rr_S) (fun x13 => pp_lj (a7.2 + 1 : Int32) (fun x15 => self7 (x13, x15)))))) 200 (a4.1, (0 : Int32)) else pp_lj (fun (a18 : rr_S) => (pp_lj (a4.2 + 1 : Int32) (fun x21 => self4 (a18, x21)) : Option rr_S)) (fun j18 => pp_lj (fun (a23 : Unit) => (pp_ix a4.2 25 (pp_lj (rr_L a4.1 24 (Int32.toNatClampNeg a4.2) ((a4.1.2.2 24 (Int32.toNatClampNeg a4.2)) + ((40 : Int64) * (a4.1.2.2 23 (Int32.toNatClampNeg a4.2)))) : rr_S) (fun x28 => j18 x28)) : Option rr_S)) (fun j23 => (if (a4.2 / (5 : Int32)) = (0 : Int32) then j23 () else (if (a4.2 - (a4.2 / (5 : Int32)) * (5 : Int32)) = (0 : Int32) then j23 () else pp_lj (fun (a35 : Int32) => (pp_ix a35 25 (pp_ix a4.2 25 (pp_lj (rr_L a4.1 24 (Int32.toNatClampNeg a35) ((a4.1.2.2 24 (Int32.toNatClampNeg a35)) + ((Int32.toInt64 v1) * (a4.1.2.2 23 (Int32.toNatClampNeg a4.2)))) : rr_S) (fun x42 => pp_lj (fun (a44 : Int32) => (pp_ix a44 25 (pp_lj (rr_L x42 24 (Int32.toNatClampNeg a44) ((x42.2.2 24 (Int32.toNatClampNeg a44)) + ((Int32.toInt64 v2) * (x42.2.2 23 (Int32.toNatClampNeg a4.2)))) : rr_S) (fun x49 => pp_lj (rr_L x49 24 (Int32.toNatClampNeg a4.2) ((x49.2.2 24 (Int32.toNatClampNeg a4.2)) + ((Int32.toInt64 (((40 : Int32) - v1) - v2)) * (x49.2.2 23 (Int32.toNatClampNeg a4.2)))) : rr_S) (fun x51 => j18 x51))) : Option rr_S)) (fun j44 => (if v3 = (0 : Int32) then j44 (a4.2 - (1 : Int32)) else j44 (a4.2 - (5 : Int32))))))) : Option rr_S)) (fun j35 => (if v3 = (0 : Int32) then j35 (a4.2 - (5 : Int32)) else j35 (a4.2 - (1 : Int32)))))))))) 200 (a1.1, (0 : Int32)) else pp_ix a1.2 25 (pp_lj (rr_L a1.1 24 (Int32.toNatClampNeg a1.2) (0 : Int64) : rr_S) (fun x63 => pp_lj (a1.2 + 1 : Int32) (fun x65 => self1 (x63, x65)))))) 200 (q, (0 : Int32))
abbrev rmX11_goesDuel : Room := { frames := 0, cells := 0, slots := 0, locals := 0 }
set_option maxHeartbeats 4000000 in
set_option maxRecDepth 100000 in
theorem ctX11_goesDuel (l : Launch) (g : rr_G) (q : rr_S) (v1 : Int32) (v2 : Int32) (v3 : Int32) {res : rr_S} (h : R_goesDuel q v1 v2 v3 = some res) : rr_Mv l yX11_goesDuel wsX11_goesDuel rmX11_goesDuel g q [.int v1, .int v2, .int v3] res := by
  intro sz
  unfold R_goesDuel at h
  refine rr_ofW (by decide) rfl rfl (fun _ z => List.mem_cons_of_mem _ (List.mem_append_right _ z)) (Nat.le_of_ble_eq_true rfl) ?_
  intro p e s m args below meth c ls X hr hlk hsz G hl Q hQ
  subst hsz
  have hx := X.1.1
  have hb := X.1.2.1
  have hown := X.1.2.2.2.1
  have hts := X.1.2.2.2.2
  refine (fun (key : ∀ (H : Heap) (locs : List Loc), rr_H g q s H locs → W p l e (headSpec wsX11_goesDuel rmX11_goesDuel).room s m args below meth c H locs 0 0 Q (F0 m 0 ls [])) => key _ _ G) ?_
  clear G
  intro H locs G
  have hl : lv_has ls 5 [(0, .ref (g.2.2.2 28)), (1, .int v1), (2, .int v2), (3, .int v3)] := hl
  have hf52 : Cond.fieldLink RX11 52 (TX11 23).1 (TX11 23).2.1 (TX11 23).2.2.1 ∈ wsX11_goesDuel := by decide +kernel
  have hf56 : Cond.fieldLink RX11 56 (TX11 24).1 (TX11 24).2.1 (TX11 24).2.2.1 ∈ wsX11_goesDuel := by decide +kernel
  refine lv_iconst (v := 0) hx hb dX11_goesDuel_0 (by decide) ?_
  refine lv_istore (lv' := [(4, .int (0 : Int32)), (0, .ref (g.2.2.2 28)), (1, .int v1), (2, .int v2), (3, .int v3)]) hx hb dX11_goesDuel_1 hl (by decide) rfl (fun ls hl => ?_)
  refine pp_loop (I := fun (a1 : rr_S × Int32) => ∀ (H : Heap) (locs : List Loc) (ls : Array Slot), rr_H g a1.1 s H locs → lv_has ls 5 [(0, .ref (g.2.2.2 28)), (1, .int v1), (2, .int v2), (3, .int v3), (4, .int a1.2)] → W p l e (headSpec wsX11_goesDuel rmX11_goesDuel).room s m args below meth c H locs 0 0 Q (F0 m 3 ls [])) ?_ 200 _ h H locs ls G (lv_sub hl [1, 2, 3, 4, 0] rfl)
  clear h
  intro self1 ih1 a1 h1 H locs ls G hl
  refine lv_iload hx hb dX11_goesDuel_3 (lv_at hl 4 rfl) ?_
  refine lv_bipush (v := 25) hx hb dX11_goesDuel_5 (by decide) ?_
  refine lv_icmp_ge (tgt := 24) hx hb dX11_goesDuel_7 (by decide) (fun c2 => ?_) (fun c2 => ?_)
  · have h3 := pp_t c2 h1
    clear h1
    refine lv_iconst (v := 0) hx hb dX11_goesDuel_24 (by decide) ?_
    refine lv_istore (lv' := [(4, .int (0 : Int32)), (0, .ref (g.2.2.2 28)), (1, .int v1), (2, .int v2), (3, .int v3)]) hx hb dX11_goesDuel_25 hl (by decide) rfl (fun ls hl => ?_)
    refine pp_loop (I := fun (a4 : rr_S × Int32) => ∀ (H : Heap) (locs : List Loc) (ls : Array Slot), rr_H g a4.1 s H locs → lv_has ls 5 [(0, .ref (g.2.2.2 28)), (1, .int v1), (2, .int v2), (3, .int v3), (4, .int a4.2)] → W p l e (headSpec wsX11_goesDuel rmX11_goesDuel).room s m args below meth c H locs 0 0 Q (F0 m 27 ls [])) ?_ 200 _ h3 H locs ls G (lv_sub hl [1, 2, 3, 4, 0] rfl)
    clear h3
    intro self4 ih4 a4 h4 H locs ls G hl
    refine lv_iload hx hb dX11_goesDuel_27 (lv_at hl 4 rfl) ?_
    refine lv_bipush (v := 25) hx hb dX11_goesDuel_29 (by decide) ?_
    refine lv_icmp_ge (tgt := 169) hx hb dX11_goesDuel_31 (by decide) (fun c5 => ?_) (fun c5 => ?_)
    · have h6 := pp_t c5 h4
      clear h4
      refine lv_iconst (v := 0) hx hb dX11_goesDuel_169 (by decide) ?_
      refine lv_istore (lv' := [(4, .int (0 : Int32)), (0, .ref (g.2.2.2 28)), (1, .int v1), (2, .int v2), (3, .int v3)]) hx hb dX11_goesDuel_170 hl (by decide) rfl (fun ls hl => ?_)
      refine pp_loop (I := fun (a7 : rr_S × Int32) => ∀ (H : Heap) (locs : List Loc) (ls : Array Slot), rr_H g a7.1 s H locs → lv_has ls 5 [(0, .ref (g.2.2.2 28)), (4, .int a7.2)] → W p l e (headSpec wsX11_goesDuel rmX11_goesDuel).room s m args below meth c H locs 0 0 Q (F0 m 172 ls [])) ?_ 200 _ h6 H locs ls G (lv_sub hl [1, 0] rfl)
      clear h6
      intro self7 ih7 a7 h7 H locs ls G hl
      refine lv_iload hx hb dX11_goesDuel_172 (lv_at hl 1 rfl) ?_
      refine lv_bipush (v := 25) hx hb dX11_goesDuel_174 (by decide) ?_
      refine lv_icmp_ge (tgt := 199) hx hb dX11_goesDuel_176 (by decide) (fun c8 => ?_) (fun c8 => ?_)
      · have h9 := pp_t c8 h7
        clear h7
        exact rr_vret X hr hlk G h9 hQ dX11_goesDuel_199
      · have h10 := pp_f c8 h7
        clear h7
        refine lv_aload_n hx hb dX11_goesDuel_179 rfl (lv_at hl 0 rfl) ?_
        refine rr_get X G 23 (by decide) hf52 (v := .ref (g.2.2.2 23)) rfl dX11_goesDuel_180 ?_
        refine lv_iload hx hb dX11_goesDuel_183 (lv_at hl 1 rfl) ?_
        refine lv_aload_n hx hb dX11_goesDuel_185 rfl (lv_at hl 0 rfl) ?_
        refine rr_get X G 24 (by decide) hf56 (v := .ref (g.2.2.2 24)) rfl dX11_goesDuel_186 ?_
        refine lv_iload hx hb dX11_goesDuel_189 (lv_at hl 1 rfl) ?_
        obtain ⟨hi11, h12⟩ := pp_ix_ex h10
        clear h10
        refine rr_lald X G ra_24 hi11 dX11_goesDuel_191 ?_
        obtain ⟨x13, ex13, h14⟩ := pp_lj_ex h12
        clear h12
        refine rr_last X G ra_23 hi11 ex13 dX11_goesDuel_192 (fun H locs G => ?_)
        obtain ⟨x15, ex15, h16⟩ := pp_lj_ex h14
        clear h14
        refine lv_iinc (v := x15) (lv' := [(4, .int x15), (0, .ref (g.2.2.2 28))]) hx hb dX11_goesDuel_193 hl (k := 1) rfl (by rw [ex15]; rfl) (by decide) rfl (fun ls hl => ?_)
        refine lv_goto (tgt := 172) hx hb dX11_goesDuel_196 (by decide) ?_
        exact ih7 _ h16 H locs ls G (lv_sub hl [1, 0] rfl)
    · have h17 := pp_f c5 h4
      clear h4
      refine lv_iload hx hb dX11_goesDuel_34 (lv_at hl 4 rfl) ?_
      refine lv_iconst (v := 5) hx hb dX11_goesDuel_36 (by decide) ?_
      refine lv_idiv hx hb dX11_goesDuel_37 (by decide) ?_
      obtain ⟨j18, ej18, h19⟩ := pp_lj_ex h17
      clear h17
      have hj18 : ∀ (a18 : rr_S) (H : Heap) (locs : List Loc) (ls : Array Slot), j18 a18 = some res → rr_H g a18 s H locs → lv_has ls 5 [(0, .ref (g.2.2.2 28)), (1, .int v1), (2, .int v2), (3, .int v3), (4, .int a4.2)] → W p l e (headSpec wsX11_goesDuel rmX11_goesDuel).room s m args below meth c H locs 0 0 Q (F0 m 163 ls []) := by
        intro a18 H locs ls h G hl
        have h20 := pp_jmp ej18 h
        clear h h19
        obtain ⟨x21, ex21, h22⟩ := pp_lj_ex h20
        clear h20
        refine lv_iinc (v := x21) (lv' := [(4, .int x21), (0, .ref (g.2.2.2 28)), (1, .int v1), (2, .int v2), (3, .int v3)]) hx hb dX11_goesDuel_163 hl (k := 4) rfl (by rw [ex21]; rfl) (by decide) rfl (fun ls hl => ?_)
        refine lv_goto (tgt := 27) hx hb dX11_goesDuel_166 (by decide) ?_
        exact ih4 _ h22 H locs ls G (lv_sub hl [1, 2, 3, 4, 0] rfl)
      obtain ⟨j23, ej23, h24⟩ := pp_lj_ex h19
      clear h19
      have hj23 : ∀ (a23 : Unit) (H : Heap) (locs : List Loc) (ls : Array Slot), j23 a23 = some res → rr_H g a4.1 s H locs → lv_has ls 5 [(0, .ref (g.2.2.2 28)), (1, .int v1), (2, .int v2), (3, .int v3), (4, .int a4.2)] → W p l e (headSpec wsX11_goesDuel rmX11_goesDuel).room s m args below meth c H locs 0 0 Q (F0 m 48 ls []) := by
        intro a23 H locs ls h G hl
        have h25 := pp_jmp ej23 h
        clear h h24
        refine lv_aload_n hx hb dX11_goesDuel_48 rfl (lv_at hl 0 rfl) ?_
        refine rr_get X G 24 (by decide) hf56 (v := .ref (g.2.2.2 24)) rfl dX11_goesDuel_49 ?_
        refine lv_iload hx hb dX11_goesDuel_52 (lv_at hl 4 rfl) ?_
        refine lv_dup2_11 hx hb dX11_goesDuel_54 rfl rfl ?_
        obtain ⟨hi26, h27⟩ := pp_ix_ex h25
        clear h25
        refine rr_lald X G ra_24 hi26 dX11_goesDuel_55 ?_
        refine lv_ldc2 (v := 40) hx hb hown (hts (.constantLong RX11 215 (40)) (by decide +kernel)) dX11_goesDuel_56 ?_
        refine lv_aload_n hx hb dX11_goesDuel_59 rfl (lv_at hl 0 rfl) ?_
        refine rr_get X G 23 (by decide) hf52 (v := .ref (g.2.2.2 23)) rfl dX11_goesDuel_60 ?_
        refine lv_iload hx hb dX11_goesDuel_63 (lv_at hl 4 rfl) ?_
        refine rr_lald X G ra_23 hi26 dX11_goesDuel_65 ?_
        refine lv_lmul hx hb dX11_goesDuel_66 ?_
        refine lv_ladd hx hb dX11_goesDuel_67 ?_
        obtain ⟨x28, ex28, h29⟩ := pp_lj_ex h27
        clear h27
        refine rr_last X G ra_24 hi26 ex28 dX11_goesDuel_68 (fun H locs G => ?_)
        refine lv_goto (tgt := 163) hx hb dX11_goesDuel_69 (by decide) ?_
        exact hj18 _ H locs ls h29 G hl
      refine lv_if_eq (tgt := 48) hx hb dX11_goesDuel_38 (by decide) (fun c30 => ?_) (fun c30 => ?_)
      · have h31 := pp_t c30 h24
        clear h24
        exact hj23 _ H locs ls h31 G hl
      · have h32 := pp_f c30 h24
        clear h24
        refine lv_iload hx hb dX11_goesDuel_41 (lv_at hl 4 rfl) ?_
        refine lv_iconst (v := 5) hx hb dX11_goesDuel_43 (by decide) ?_
        refine lv_irem hx hb dX11_goesDuel_44 (by decide) ?_
        refine lv_if_ne (tgt := 72) hx hb dX11_goesDuel_45 (by decide) (fun c33 => ?_) (fun c33 => ?_)
        · have h34 := pp_f c33 h32
          clear h32
          refine lv_aload_n hx hb dX11_goesDuel_72 rfl (lv_at hl 0 rfl) ?_
          refine rr_get X G 24 (by decide) hf56 (v := .ref (g.2.2.2 24)) rfl dX11_goesDuel_73 ?_
          refine lv_iload_n hx hb dX11_goesDuel_76 rfl (lv_at hl 3 rfl) ?_
          obtain ⟨j35, ej35, h36⟩ := pp_lj_ex h34
          clear h34
          have hj35 : ∀ (a35 : Int32) (H : Heap) (locs : List Loc) (ls : Array Slot), j35 a35 = some res → rr_H g a4.1 s H locs → lv_has ls 5 [(0, .ref (g.2.2.2 28)), (1, .int v1), (2, .int v2), (3, .int v3), (4, .int a4.2)] → W p l e (headSpec wsX11_goesDuel rmX11_goesDuel).room s m args below meth c H locs 0 0 Q (F0 m 91 ls [.int a35, .ref (g.2.2.2 24)]) := by
            intro a35 H locs ls h G hl
            have h37 := pp_jmp ej35 h
            clear h h36
            refine lv_dup2_11 hx hb dX11_goesDuel_91 rfl rfl ?_
            obtain ⟨hi38, h39⟩ := pp_ix_ex h37
            clear h37
            refine rr_lald X G ra_24 hi38 dX11_goesDuel_92 ?_
            refine lv_iload_n hx hb dX11_goesDuel_93 rfl (lv_at hl 1 rfl) ?_
            refine lv_i2l hx hb dX11_goesDuel_94 rfl ?_
            refine lv_aload_n hx hb dX11_goesDuel_95 rfl (lv_at hl 0 rfl) ?_
            refine rr_get X G 23 (by decide) hf52 (v := .ref (g.2.2.2 23)) rfl dX11_goesDuel_96 ?_
            refine lv_iload hx hb dX11_goesDuel_99 (lv_at hl 4 rfl) ?_
            obtain ⟨hi40, h41⟩ := pp_ix_ex h39
            clear h39
            refine rr_lald X G ra_23 hi40 dX11_goesDuel_101 ?_
            refine lv_lmul hx hb dX11_goesDuel_102 ?_
            refine lv_ladd hx hb dX11_goesDuel_103 ?_
            obtain ⟨x42, ex42, h43⟩ := pp_lj_ex h41
            clear h41
            refine rr_last X G ra_24 hi38 ex42 dX11_goesDuel_104 (fun H locs G => ?_)
            refine lv_aload_n hx hb dX11_goesDuel_105 rfl (lv_at hl 0 rfl) ?_
            refine rr_get X G 24 (by decide) hf56 (v := .ref (g.2.2.2 24)) rfl dX11_goesDuel_106 ?_
            refine lv_iload_n hx hb dX11_goesDuel_109 rfl (lv_at hl 3 rfl) ?_
            obtain ⟨j44, ej44, h45⟩ := pp_lj_ex h43
            clear h43
            have hj44 : ∀ (a44 : Int32) (H : Heap) (locs : List Loc) (ls : Array Slot), j44 a44 = some res → rr_H g x42 s H locs → lv_has ls 5 [(0, .ref (g.2.2.2 28)), (1, .int v1), (2, .int v2), (3, .int v3), (4, .int a4.2)] → W p l e (headSpec wsX11_goesDuel rmX11_goesDuel).room s m args below meth c H locs 0 0 Q (F0 m 124 ls [.int a44, .ref (g.2.2.2 24)]) := by
              intro a44 H locs ls h G hl
              have h46 := pp_jmp ej44 h
              clear h h45
              refine lv_dup2_11 hx hb dX11_goesDuel_124 rfl rfl ?_
              obtain ⟨hi47, h48⟩ := pp_ix_ex h46
              clear h46
              refine rr_lald X G ra_24 hi47 dX11_goesDuel_125 ?_
              refine lv_iload_n hx hb dX11_goesDuel_126 rfl (lv_at hl 2 rfl) ?_
              refine lv_i2l hx hb dX11_goesDuel_127 rfl ?_
              refine lv_aload_n hx hb dX11_goesDuel_128 rfl (lv_at hl 0 rfl) ?_
              refine rr_get X G 23 (by decide) hf52 (v := .ref (g.2.2.2 23)) rfl dX11_goesDuel_129 ?_
              refine lv_iload hx hb dX11_goesDuel_132 (lv_at hl 4 rfl) ?_
              refine rr_lald X G ra_23 hi40 dX11_goesDuel_134 ?_
              refine lv_lmul hx hb dX11_goesDuel_135 ?_
              refine lv_ladd hx hb dX11_goesDuel_136 ?_
              obtain ⟨x49, ex49, h50⟩ := pp_lj_ex h48
              clear h48
              refine rr_last X G ra_24 hi47 ex49 dX11_goesDuel_137 (fun H locs G => ?_)
              refine lv_aload_n hx hb dX11_goesDuel_138 rfl (lv_at hl 0 rfl) ?_
              refine rr_get X G 24 (by decide) hf56 (v := .ref (g.2.2.2 24)) rfl dX11_goesDuel_139 ?_
              refine lv_iload hx hb dX11_goesDuel_142 (lv_at hl 4 rfl) ?_
              refine lv_dup2_11 hx hb dX11_goesDuel_144 rfl rfl ?_
              refine rr_lald X G ra_24 hi40 dX11_goesDuel_145 ?_
              refine lv_bipush (v := 40) hx hb dX11_goesDuel_146 (by decide) ?_
              refine lv_iload_n hx hb dX11_goesDuel_148 rfl (lv_at hl 1 rfl) ?_
              refine lv_isub hx hb dX11_goesDuel_149 ?_
              refine lv_iload_n hx hb dX11_goesDuel_150 rfl (lv_at hl 2 rfl) ?_
              refine lv_isub hx hb dX11_goesDuel_151 ?_
              refine lv_i2l hx hb dX11_goesDuel_152 rfl ?_
              refine lv_aload_n hx hb dX11_goesDuel_153 rfl (lv_at hl 0 rfl) ?_
              refine rr_get X G 23 (by decide) hf52 (v := .ref (g.2.2.2 23)) rfl dX11_goesDuel_154 ?_
              refine lv_iload hx hb dX11_goesDuel_157 (lv_at hl 4 rfl) ?_
              refine rr_lald X G ra_23 hi40 dX11_goesDuel_159 ?_
              refine lv_lmul hx hb dX11_goesDuel_160 ?_
              refine lv_ladd hx hb dX11_goesDuel_161 ?_
              obtain ⟨x51, ex51, h52⟩ := pp_lj_ex h50
              clear h50
              refine rr_last X G ra_24 hi40 ex51 dX11_goesDuel_162 (fun H locs G => ?_)
              exact hj18 _ H locs ls h52 G hl
            refine lv_if_eq (tgt := 120) hx hb dX11_goesDuel_110 (by decide) (fun c53 => ?_) (fun c53 => ?_)
            · have h54 := pp_t c53 h45
              clear h45
              refine lv_iload hx hb dX11_goesDuel_120 (lv_at hl 4 rfl) ?_
              refine lv_iconst (v := 1) hx hb dX11_goesDuel_122 (by decide) ?_
              refine lv_isub hx hb dX11_goesDuel_123 ?_
              exact hj44 _ H locs ls h54 G hl
            · have h55 := pp_f c53 h45
              clear h45
              refine lv_iload hx hb dX11_goesDuel_113 (lv_at hl 4 rfl) ?_
              refine lv_iconst (v := 5) hx hb dX11_goesDuel_115 (by decide) ?_
              refine lv_isub hx hb dX11_goesDuel_116 ?_
              refine lv_goto (tgt := 124) hx hb dX11_goesDuel_117 (by decide) ?_
              exact hj44 _ H locs ls h55 G hl
          refine lv_if_eq (tgt := 87) hx hb dX11_goesDuel_77 (by decide) (fun c56 => ?_) (fun c56 => ?_)
          · have h57 := pp_t c56 h36
            clear h36
            refine lv_iload hx hb dX11_goesDuel_87 (lv_at hl 4 rfl) ?_
            refine lv_iconst (v := 5) hx hb dX11_goesDuel_89 (by decide) ?_
            refine lv_isub hx hb dX11_goesDuel_90 ?_
            exact hj35 _ H locs ls h57 G hl
          · have h58 := pp_f c56 h36
            clear h36
            refine lv_iload hx hb dX11_goesDuel_80 (lv_at hl 4 rfl) ?_
            refine lv_iconst (v := 1) hx hb dX11_goesDuel_82 (by decide) ?_
            refine lv_isub hx hb dX11_goesDuel_83 ?_
            refine lv_goto (tgt := 91) hx hb dX11_goesDuel_84 (by decide) ?_
            exact hj35 _ H locs ls h58 G hl
        · have h59 := pp_t c33 h32
          clear h32
          exact hj23 _ H locs ls h59 G hl
  · have h60 := pp_f c2 h1
    clear h1
    refine lv_aload_n hx hb dX11_goesDuel_10 rfl (lv_at hl 0 rfl) ?_
    refine rr_get X G 24 (by decide) hf56 (v := .ref (g.2.2.2 24)) rfl dX11_goesDuel_11 ?_
    refine lv_iload hx hb dX11_goesDuel_14 (lv_at hl 4 rfl) ?_
    refine lv_lconst (v := 0) hx hb dX11_goesDuel_16 (by decide) ?_
    obtain ⟨hi61, h62⟩ := pp_ix_ex h60
    clear h60
    obtain ⟨x63, ex63, h64⟩ := pp_lj_ex h62
    clear h62
    refine rr_last X G ra_24 hi61 ex63 dX11_goesDuel_17 (fun H locs G => ?_)
    obtain ⟨x65, ex65, h66⟩ := pp_lj_ex h64
    clear h64
    refine lv_iinc (v := x65) (lv' := [(4, .int x65), (0, .ref (g.2.2.2 28)), (1, .int v1), (2, .int v2), (3, .int v3)]) hx hb dX11_goesDuel_18 hl (k := 4) rfl (by rw [ex65]; rfl) (by decide) rfl (fun ls hl => ?_)
    refine lv_goto (tgt := 3) hx hb dX11_goesDuel_21 (by decide) ?_
    exact ih1 _ h66 H locs ls G (lv_sub hl [1, 2, 3, 4, 0] rfl)
noncomputable def R_divisor (v0 : Int64) (v2 : Int64) : Option Int64 := pp_it (fun (self1 : Int64 × Int64 → Option Int64) (a1 : Int64 × Int64) => (if (lg_cmp a1.2 (0 : Int64)) = (0 : Int32) then (if (0 : Int32) ≤ (lg_cmp a1.1 (0 : Int64)) then some a1.1 else some (-a1.1)) else pp_dl a1.2 (pp_lj ((a1.1 - (a1.1 / a1.2) * a1.2) : Int64) (fun x10 => self1 (a1.2, x10))))) 200 (v0, v2)
abbrev rmX11_divisor : Room := { frames := 0, cells := 0, slots := 0, locals := 0 }
set_option maxHeartbeats 4000000 in
set_option maxRecDepth 100000 in
theorem ctX11_divisor (l : Launch) (v0 : Int64) (v2 : Int64) {res : Int64} (h : R_divisor v0 v2 = some res) : xs_Ml l yX11_divisor wsX11_divisor rmX11_divisor [.long v0, .long v2] res := by
  intro sz
  unfold R_divisor at h
  refine xs_ofW (own := RX11) (by decide) rfl rfl (Nat.le_of_ble_eq_true rfl) ?_
  intro p e s m args below meth c ls X hr hlk hl Q hQ
  have hx := X.1
  have hb := X.2.1
  have hown := X.2.2.2.1
  have hts := X.2.2.2.2
  have hl : lv_has ls 10 [(0, .long v0), (2, .long v2)] := hl
  refine lv_lload_n hx hb dX11_divisor_0 rfl (lv_at hl 0 rfl) ?_
  refine lv_lstore (lv' := [(4, .long v0), (0, .long v0), (2, .long v2)]) hx hb dX11_divisor_1 hl (by decide) rfl (fun ls hl => ?_)
  refine lv_lload_n hx hb dX11_divisor_3 rfl (lv_at hl 2 rfl) ?_
  refine lv_lstore (lv' := [(6, .long v2), (4, .long v0), (0, .long v0), (2, .long v2)]) hx hb dX11_divisor_4 hl (by decide) rfl (fun ls hl => ?_)
  refine pp_loop (I := fun (a1 : Int64 × Int64) => ∀ (ls : Array Slot), lv_has ls 10 [(4, .long a1.1), (6, .long a1.2)] → W p l e (headSpec wsX11_divisor rmX11_divisor).room s m args below meth c s.heap [] 0 0 Q (F0 m 6 ls [])) ?_ 200 _ h ls (lv_sub hl [1, 0] rfl)
  clear h
  intro self1 ih1 a1 h1 ls hl
  refine lv_lload hx hb dX11_divisor_6 (lv_at hl 1 rfl) ?_
  refine lv_lconst (v := 0) hx hb dX11_divisor_8 (by decide) ?_
  refine W.lcmp hx hb dX11_divisor_9 ?_
  refine lv_if_eq (tgt := 31) hx hb dX11_divisor_10 (by decide) (fun c2 => ?_) (fun c2 => ?_)
  · have h3 := pp_t c2 h1
    clear h1
    refine lv_lload hx hb dX11_divisor_31 (lv_at hl 0 rfl) ?_
    refine lv_lconst (v := 0) hx hb dX11_divisor_33 (by decide) ?_
    refine W.lcmp hx hb dX11_divisor_34 ?_
    refine lv_if_ge (tgt := 44) hx hb dX11_divisor_35 (by decide) (fun c4 => ?_) (fun c4 => ?_)
    · have h5 := pp_t c4 h3
      clear h3
      refine lv_lload hx hb dX11_divisor_44 (lv_at hl 0 rfl) ?_
      exact xs_lret hx hb hr hlk h5 hQ dX11_divisor_46
    · have h6 := pp_f c4 h3
      clear h3
      refine lv_lload hx hb dX11_divisor_38 (lv_at hl 0 rfl) ?_
      refine lv_lneg hx hb dX11_divisor_40 ?_
      refine lv_goto (tgt := 46) hx hb dX11_divisor_41 (by decide) ?_
      exact xs_lret hx hb hr hlk h6 hQ dX11_divisor_46
  · have h7 := pp_f c2 h1
    clear h1
    refine lv_lload hx hb dX11_divisor_13 (lv_at hl 0 rfl) ?_
    refine lv_lload hx hb dX11_divisor_15 (lv_at hl 1 rfl) ?_
    obtain ⟨hz8, h9⟩ := pp_dl_ex h7
    clear h7
    refine lv_lrem hx hb dX11_divisor_17 hz8 ?_
    obtain ⟨x10, ex10, h11⟩ := pp_lj_ex h9
    clear h9
    refine lv_nml ex10 ?_
    refine lv_lstore (lv' := [(8, .long x10), (4, .long a1.1), (6, .long a1.2)]) hx hb dX11_divisor_18 hl (by decide) rfl (fun ls hl => ?_)
    refine lv_lload hx hb dX11_divisor_20 (lv_at hl 2 rfl) ?_
    refine lv_lstore (lv' := [(4, .long a1.2), (8, .long x10), (6, .long a1.2)]) hx hb dX11_divisor_22 hl (by decide) rfl (fun ls hl => ?_)
    refine lv_lload hx hb dX11_divisor_24 (lv_at hl 1 rfl) ?_
    refine lv_lstore (lv' := [(6, .long x10), (4, .long a1.2), (8, .long x10)]) hx hb dX11_divisor_26 hl (by decide) rfl (fun ls hl => ?_)
    refine lv_goto (tgt := 6) hx hb dX11_divisor_28 (by decide) ?_
    exact ih1 _ h11 ls (lv_sub hl [1, 0] rfl)
noncomputable def R_duel (q : rr_S) (v1 : Int32) (v2 : Int32) (v3 : Int32) (v4 : Int32) (v5 : Int32) (v6 : Int32) : Option (Int64 × rr_S) := pp_lj (fun (a1 : Int32) => ((if a1 = (0 : Int32) then pp_it (fun (self6 : rr_S × Int32 → Option (Int64 × rr_S)) (a6 : rr_S × Int32) => (if (25 : Int32) ≤ a6.2 then pp_it (fun (self9 : rr_S × Int64 × Int32 → Option (Int64 × rr_S)) (a9 : rr_S × Int64 × Int32) => (if v5 ≤ a9.2.2 then pp_it (fun (self12 : Int64 × Int32 → Option (Int64 × rr_S)) (a12 : Int64 × Int32) => (if (5 : Int32) ≤ a12.2 then pp_lj (fun (a15 : Int64) => (pp_ob (R_divisor a12.1 a9.2.1) (fun r18 => pp_dl r18 (some ((a15 / r18), a9.1))) : Option (Int64 × rr_S))) (fun j15 => (if (v6 - (v6 / (2 : Int32)) * (2 : Int32)) = (0 : Int32) then j15 a12.1 else j15 a9.2.1)) else pp_lj (fun (a26 : Int64) => (pp_lj ((a12.1 + a26) : Int64) (fun x29 => pp_lj (a12.2 + 1 : Int32) (fun x31 => self12 (x29, x31))) : Option (Int64 × rr_S))) (fun j26 => (if (2 : Int32) ≤ v6 then pp_ix a12.2 25 (j26 (a9.1.2.2 23 (Int32.toNatClampNeg a12.2))) else pp_ix ((5 : Int32) * a12.2) 25 (j26 (a9.1.2.2 23 (Int32.toNatClampNeg ((5 : Int32) * a12.2)))))))) 200 ((0 : Int64), (1 : Int32)) else pp_lj (fun (a41 : Int32) => (pp_ob (R_goesDuel a9.1 v3 v4 a41) (fun r44 => pp_lj ((a9.2.1 * (40 : Int64)) : Int64) (fun x46 => pp_lj (a9.2.2 + 1 : Int32) (fun x48 => self9 (r44, x46, x48)))) : Option (Int64 × rr_S))) (fun j41 => (if (a9.2.2 - (a9.2.2 / (2 : Int32)) * (2 : Int32)) = (0 : Int32) then j41 (1 : Int32) else j41 (0 : Int32))))) 200 (a6.1, (1 : Int64), (0 : Int32)) else pp_lj (fun (a54 : Int64) => (pp_ix a6.2 25 (pp_lj (rr_L a6.1 23 (Int32.toNatClampNeg a6.2) a54 : rr_S) (fun x59 => pp_lj (a6.2 + 1 : Int32) (fun x61 => self6 (x59, x61)))) : Option (Int64 × rr_S))) (fun j54 => (if a6.2 = (((5 : Int32) * v1) + v2) then j54 (1 : Int64) else j54 (0 : Int64))))) 200 (q, (0 : Int32)) else pp_ob (R_lowest q a1) (fun r67 => some (r67.1, r67.2))) : Option (Int64 × rr_S))) (fun j1 => pp_lj (fun (a69 : Unit) => (j1 (-4 : Int32) : Option (Int64 × rr_S))) (fun j69 => (if v1 < (1 : Int32) then j69 () else (if v2 < (1 : Int32) then j69 () else (if v3 < (1 : Int32) then j69 () else (if v4 < (1 : Int32) then j69 () else (if (1 : Int32) ≤ v5 then pp_lj (fun (a86 : Unit) => (j1 (-6 : Int32) : Option (Int64 × rr_S))) (fun j86 => (if (4 : Int32) < v1 then j86 () else (if (4 : Int32) < v2 then j86 () else (if (19 : Int32) < v3 then j86 () else (if (19 : Int32) < v4 then j86 () else (if v5 ≤ (9 : Int32) then pp_ob (R_isIn v6 (0 : Int32) (3 : Int32)) (fun r103 => (if r103 = (0 : Int32) then j1 (-2 : Int32) else j1 (0 : Int32))) else j86 ())))))) else j69 ())))))))
abbrev rmX11_duel : Room := { frames := 1, cells := 0, slots := 0, locals := 29 }
set_option maxHeartbeats 4000000 in
set_option maxRecDepth 100000 in
theorem ctX11_duel (l : Launch) (g : rr_G) (q : rr_S) (v1 : Int32) (v2 : Int32) (v3 : Int32) (v4 : Int32) (v5 : Int32) (v6 : Int32) {res : (Int64 × rr_S)} (h : R_duel q v1 v2 v3 v4 v5 v6 = some res) : rr_Ml l yX11_duel wsX11_duel rmX11_duel g q [.int v1, .int v2, .int v3, .int v4, .int v5, .int v6] res := by
  intro sz
  unfold R_duel at h
  refine rr_ofW (by decide) rfl rfl (fun _ z => List.mem_cons_of_mem _ (List.mem_append_right _ z)) (Nat.le_of_ble_eq_true rfl) ?_
  intro p e s m args below meth c ls X hr hlk hsz G hl Q hQ
  subst hsz
  have hx := X.1.1
  have hb := X.1.2.1
  have hown := X.1.2.2.2.1
  have hts := X.1.2.2.2.2
  refine (fun (key : ∀ (H : Heap) (locs : List Loc), rr_H g q s H locs → W p l e (headSpec wsX11_duel rmX11_duel).room s m args below meth c H locs 0 0 Q (F0 m 0 ls [])) => key _ _ G) ?_
  clear G
  intro H locs G
  have hl : lv_has ls 13 [(0, .ref (g.2.2.2 28)), (1, .int v1), (2, .int v2), (3, .int v3), (4, .int v4), (5, .int v5), (6, .int v6)] := hl
  have hf52 : Cond.fieldLink RX11 52 (TX11 23).1 (TX11 23).2.1 (TX11 23).2.2.1 ∈ wsX11_duel := by decide +kernel
  refine lv_iload_n hx hb dX11_duel_0 rfl (lv_at hl 1 rfl) ?_
  refine lv_iconst (v := 1) hx hb dX11_duel_1 (by decide) ?_
  obtain ⟨j1, ej1, h2⟩ := pp_lj_ex h
  clear h
  have hj1 : ∀ (a1 : Int32) (H : Heap) (locs : List Loc) (ls : Array Slot), j1 a1 = some res → rr_H g q s H locs → lv_has ls 13 [(0, .ref (g.2.2.2 28)), (1, .int v1), (2, .int v2), (3, .int v3), (4, .int v4), (5, .int v5), (6, .int v6)] → W p l e (headSpec wsX11_duel rmX11_duel).room s m args below meth c H locs 0 0 Q (F0 m 83 ls [.int a1]) := by
    intro a1 H locs ls h G hl
    have h3 := pp_jmp ej1 h
    clear h h2
    refine lv_istore (lv' := [(7, .int a1), (0, .ref (g.2.2.2 28)), (1, .int v1), (2, .int v2), (3, .int v3), (4, .int v4), (5, .int v5), (6, .int v6)]) hx hb dX11_duel_83 hl (by decide) rfl (fun ls hl => ?_)
    refine lv_iload hx hb dX11_duel_85 (lv_at hl 0 rfl) ?_
    refine lv_if_eq (tgt := 97) hx hb dX11_duel_87 (by decide) (fun c4 => ?_) (fun c4 => ?_)
    · have h5 := pp_t c4 h3
      clear h3
      refine lv_iconst (v := 0) hx hb dX11_duel_97 (by decide) ?_
      refine lv_istore (lv' := [(8, .int (0 : Int32)), (7, .int a1), (0, .ref (g.2.2.2 28)), (1, .int v1), (2, .int v2), (3, .int v3), (4, .int v4), (5, .int v5), (6, .int v6)]) hx hb dX11_duel_98 hl (by decide) rfl (fun ls hl => ?_)
      refine pp_loop (I := fun (a6 : rr_S × Int32) => ∀ (H : Heap) (locs : List Loc) (ls : Array Slot), rr_H g a6.1 s H locs → lv_has ls 13 [(0, .ref (g.2.2.2 28)), (1, .int v1), (2, .int v2), (3, .int v3), (4, .int v4), (5, .int v5), (6, .int v6), (8, .int a6.2)] → W p l e (headSpec wsX11_duel rmX11_duel).room s m args below meth c H locs 0 0 Q (F0 m 100 ls [])) ?_ 200 _ h5 H locs ls G (lv_sub hl [2, 3, 4, 5, 6, 7, 8, 0] rfl)
      clear h5
      intro self6 ih6 a6 h6 H locs ls G hl
      refine lv_iload hx hb dX11_duel_100 (lv_at hl 7 rfl) ?_
      refine lv_bipush (v := 25) hx hb dX11_duel_102 (by decide) ?_
      refine lv_icmp_ge (tgt := 135) hx hb dX11_duel_104 (by decide) (fun c7 => ?_) (fun c7 => ?_)
      · have h8 := pp_t c7 h6
        clear h6
        refine lv_lconst (v := 1) hx hb dX11_duel_135 (by decide) ?_
        refine lv_lstore (lv' := [(8, .long (1 : Int64)), (0, .ref (g.2.2.2 28)), (1, .int v1), (2, .int v2), (3, .int v3), (4, .int v4), (5, .int v5), (6, .int v6)]) hx hb dX11_duel_136 hl (by decide) rfl (fun ls hl => ?_)
        refine lv_iconst (v := 0) hx hb dX11_duel_138 (by decide) ?_
        refine lv_istore (lv' := [(10, .int (0 : Int32)), (8, .long (1 : Int64)), (0, .ref (g.2.2.2 28)), (1, .int v1), (2, .int v2), (3, .int v3), (4, .int v4), (5, .int v5), (6, .int v6)]) hx hb dX11_duel_139 hl (by decide) rfl (fun ls hl => ?_)
        refine pp_loop (I := fun (a9 : rr_S × Int64 × Int32) => ∀ (H : Heap) (locs : List Loc) (ls : Array Slot), rr_H g a9.1 s H locs → lv_has ls 13 [(0, .ref (g.2.2.2 28)), (3, .int v3), (4, .int v4), (5, .int v5), (6, .int v6), (8, .long a9.2.1), (10, .int a9.2.2)] → W p l e (headSpec wsX11_duel rmX11_duel).room s m args below meth c H locs 0 0 Q (F0 m 141 ls [])) ?_ 200 _ h8 H locs ls G (lv_sub hl [2, 5, 6, 7, 8, 1, 0] rfl)
        clear h8
        intro self9 ih9 a9 h9 H locs ls G hl
        refine lv_iload hx hb dX11_duel_141 (lv_at hl 6 rfl) ?_
        refine lv_iload hx hb dX11_duel_143 (lv_at hl 3 rfl) ?_
        refine lv_icmp_ge (tgt := 181) hx hb dX11_duel_145 (by decide) (fun c10 => ?_) (fun c10 => ?_)
        · have h11 := pp_t c10 h9
          clear h9
          refine lv_lconst (v := 0) hx hb dX11_duel_181 (by decide) ?_
          refine lv_lstore (lv' := [(10, .long (0 : Int64)), (0, .ref (g.2.2.2 28)), (3, .int v3), (4, .int v4), (5, .int v5), (6, .int v6), (8, .long a9.2.1)]) hx hb dX11_duel_182 hl (by decide) rfl (fun ls hl => ?_)
          refine lv_iconst (v := 1) hx hb dX11_duel_184 (by decide) ?_
          refine lv_istore (lv' := [(12, .int (1 : Int32)), (10, .long (0 : Int64)), (0, .ref (g.2.2.2 28)), (3, .int v3), (4, .int v4), (5, .int v5), (6, .int v6), (8, .long a9.2.1)]) hx hb dX11_duel_185 hl (by decide) rfl (fun ls hl => ?_)
          refine pp_loop (I := fun (a12 : Int64 × Int32) => ∀ (H : Heap) (locs : List Loc) (ls : Array Slot), rr_H g a9.1 s H locs → lv_has ls 13 [(0, .ref (g.2.2.2 28)), (6, .int v6), (8, .long a9.2.1), (10, .long a12.1), (12, .int a12.2)] → W p l e (headSpec wsX11_duel rmX11_duel).room s m args below meth c H locs 0 0 Q (F0 m 187 ls [])) ?_ 200 _ h11 H locs ls G (lv_sub hl [2, 6, 7, 1, 0] rfl)
          clear h11
          intro self12 ih12 a12 h12 H locs ls G hl
          refine lv_iload hx hb dX11_duel_187 (lv_at hl 4 rfl) ?_
          refine lv_iconst (v := 5) hx hb dX11_duel_189 (by decide) ?_
          refine lv_icmp_ge (tgt := 229) hx hb dX11_duel_190 (by decide) (fun c13 => ?_) (fun c13 => ?_)
          · have h14 := pp_t c13 h12
            clear h12
            refine lv_iload hx hb dX11_duel_229 (lv_at hl 1 rfl) ?_
            refine lv_iconst (v := 2) hx hb dX11_duel_231 (by decide) ?_
            refine lv_irem hx hb dX11_duel_232 (by decide) ?_
            obtain ⟨j15, ej15, h16⟩ := pp_lj_ex h14
            clear h14
            have hj15 : ∀ (a15 : Int64) (H : Heap) (locs : List Loc) (ls : Array Slot), j15 a15 = some res → rr_H g a9.1 s H locs → lv_has ls 13 [(8, .long a9.2.1), (10, .long a12.1)] → W p l e (headSpec wsX11_duel rmX11_duel).room s m args below meth c H locs 0 0 Q (F0 m 243 ls [.long a15]) := by
              intro a15 H locs ls h G hl
              have h17 := pp_jmp ej15 h
              clear h h16
              refine lv_lload hx hb dX11_duel_243 (lv_at hl 1 rfl) ?_
              refine lv_lload hx hb dX11_duel_245 (lv_at hl 0 rfl) ?_
              obtain ⟨r18, hc18, h19⟩ := pp_ob_ex h17
              clear h17
              refine rr_csl X G (ctX11_divisor l _ _ hc18) (va_cwS 2 hts gX11_duel_X11_divisor rfl rfl rfl (by decide +kernel) ⟨Nat.le_of_ble_eq_true rfl, Nat.le_of_ble_eq_true rfl⟩) (rest := [.long a15]) rfl hl.1 rfl (Nat.le_of_ble_eq_true rfl) dX11_duel_247 (fun H locs G => ?_)
              obtain ⟨hz20, h21⟩ := pp_dl_ex h19
              clear h19
              refine lv_ldiv hx hb dX11_duel_250 hz20 ?_
              exact rr_lret X hr hlk G h21 hQ dX11_duel_251
            refine lv_if_ne (tgt := 241) hx hb dX11_duel_233 (by decide) (fun c22 => ?_) (fun c22 => ?_)
            · have h23 := pp_f c22 h16
              clear h16
              refine lv_lload hx hb dX11_duel_241 (lv_at hl 2 rfl) ?_
              exact hj15 _ H locs ls h23 G (lv_sub hl [2, 3] rfl)
            · have h24 := pp_t c22 h16
              clear h16
              refine lv_lload hx hb dX11_duel_236 (lv_at hl 3 rfl) ?_
              refine lv_goto (tgt := 243) hx hb dX11_duel_238 (by decide) ?_
              exact hj15 _ H locs ls h24 G (lv_sub hl [2, 3] rfl)
          · have h25 := pp_f c13 h12
            clear h12
            refine lv_lload hx hb dX11_duel_193 (lv_at hl 3 rfl) ?_
            refine lv_iload hx hb dX11_duel_195 (lv_at hl 1 rfl) ?_
            refine lv_iconst (v := 2) hx hb dX11_duel_197 (by decide) ?_
            obtain ⟨j26, ej26, h27⟩ := pp_lj_ex h25
            clear h25
            have hj26 : ∀ (a26 : Int64) (H : Heap) (locs : List Loc) (ls : Array Slot), j26 a26 = some res → rr_H g a9.1 s H locs → lv_has ls 13 [(0, .ref (g.2.2.2 28)), (6, .int v6), (8, .long a9.2.1), (12, .int a12.2)] → W p l e (headSpec wsX11_duel rmX11_duel).room s m args below meth c H locs 0 0 Q (F0 m 220 ls [.long a26, .long a12.1]) := by
              intro a26 H locs ls h G hl
              have h28 := pp_jmp ej26 h
              clear h h27
              refine lv_ladd hx hb dX11_duel_220 ?_
              obtain ⟨x29, ex29, h30⟩ := pp_lj_ex h28
              clear h28
              refine lv_nml ex29 ?_
              refine lv_lstore (lv' := [(10, .long x29), (0, .ref (g.2.2.2 28)), (6, .int v6), (8, .long a9.2.1), (12, .int a12.2)]) hx hb dX11_duel_221 hl (by decide) rfl (fun ls hl => ?_)
              obtain ⟨x31, ex31, h32⟩ := pp_lj_ex h30
              clear h30
              refine lv_iinc (v := x31) (lv' := [(12, .int x31), (10, .long x29), (0, .ref (g.2.2.2 28)), (6, .int v6), (8, .long a9.2.1)]) hx hb dX11_duel_223 hl (k := 4) rfl (by rw [ex31]; rfl) (by decide) rfl (fun ls hl => ?_)
              refine lv_goto (tgt := 187) hx hb dX11_duel_226 (by decide) ?_
              exact ih12 _ h32 H locs ls G (lv_sub hl [2, 3, 4, 1, 0] rfl)
            refine lv_icmp_ge (tgt := 213) hx hb dX11_duel_198 (by decide) (fun c33 => ?_) (fun c33 => ?_)
            · have h34 := pp_t c33 h27
              clear h27
              refine lv_aload_n hx hb dX11_duel_213 rfl (lv_at hl 0 rfl) ?_
              refine rr_get X G 23 (by decide) hf52 (v := .ref (g.2.2.2 23)) rfl dX11_duel_214 ?_
              refine lv_iload hx hb dX11_duel_217 (lv_at hl 4 rfl) ?_
              obtain ⟨hi35, h36⟩ := pp_ix_ex h34
              clear h34
              refine rr_lald X G ra_23 hi35 dX11_duel_219 ?_
              exact hj26 _ H locs ls h36 G (lv_sub hl [0, 1, 2, 4] rfl)
            · have h37 := pp_f c33 h27
              clear h27
              refine lv_aload_n hx hb dX11_duel_201 rfl (lv_at hl 0 rfl) ?_
              refine rr_get X G 23 (by decide) hf52 (v := .ref (g.2.2.2 23)) rfl dX11_duel_202 ?_
              refine lv_iconst (v := 5) hx hb dX11_duel_205 (by decide) ?_
              refine lv_iload hx hb dX11_duel_206 (lv_at hl 4 rfl) ?_
              refine lv_imul hx hb dX11_duel_208 ?_
              obtain ⟨hi38, h39⟩ := pp_ix_ex h37
              clear h37
              refine rr_lald X G ra_23 hi38 dX11_duel_209 ?_
              refine lv_goto (tgt := 220) hx hb dX11_duel_210 (by decide) ?_
              exact hj26 _ H locs ls h39 G (lv_sub hl [0, 1, 2, 4] rfl)
        · have h40 := pp_f c10 h9
          clear h9
          refine lv_aload_n hx hb dX11_duel_148 rfl (lv_at hl 0 rfl) ?_
          refine lv_iload_n hx hb dX11_duel_149 rfl (lv_at hl 1 rfl) ?_
          refine lv_iload hx hb dX11_duel_150 (lv_at hl 2 rfl) ?_
          refine lv_iload hx hb dX11_duel_152 (lv_at hl 6 rfl) ?_
          refine lv_iconst (v := 2) hx hb dX11_duel_154 (by decide) ?_
          refine lv_irem hx hb dX11_duel_155 (by decide) ?_
          obtain ⟨j41, ej41, h42⟩ := pp_lj_ex h40
          clear h40
          have hj41 : ∀ (a41 : Int32) (H : Heap) (locs : List Loc) (ls : Array Slot), j41 a41 = some res → rr_H g a9.1 s H locs → lv_has ls 13 [(0, .ref (g.2.2.2 28)), (3, .int v3), (4, .int v4), (5, .int v5), (6, .int v6), (8, .long a9.2.1), (10, .int a9.2.2)] → W p l e (headSpec wsX11_duel rmX11_duel).room s m args below meth c H locs 0 0 Q (F0 m 164 ls [.int a41, .int v4, .int v3, .ref (g.2.2.2 28)]) := by
            intro a41 H locs ls h G hl
            have h43 := pp_jmp ej41 h
            clear h h42
            obtain ⟨r44, hc44, h45⟩ := pp_ob_ex h43
            clear h43
            refine rr_calv X G (ctX11_goesDuel l g _ _ _ _ hc44) (cwV 3 hts gX11_duel_X11_goesDuel rfl rfl rfl (by decide +kernel) ⟨Nat.le_of_ble_eq_true rfl, Nat.le_of_ble_eq_true rfl⟩) (rest := []) rfl hl.1 rfl (Nat.le_of_ble_eq_true rfl) dX11_duel_164 (fun H locs G => ?_)
            refine lv_lload hx hb dX11_duel_167 (lv_at hl 5 rfl) ?_
            refine lv_ldc2 (v := 40) hx hb hown (hts (.constantLong RX11 215 (40)) (by decide +kernel)) dX11_duel_169 ?_
            refine lv_lmul hx hb dX11_duel_172 ?_
            obtain ⟨x46, ex46, h47⟩ := pp_lj_ex h45
            clear h45
            refine lv_nml ex46 ?_
            refine lv_lstore (lv' := [(8, .long x46), (0, .ref (g.2.2.2 28)), (3, .int v3), (4, .int v4), (5, .int v5), (6, .int v6), (10, .int a9.2.2)]) hx hb dX11_duel_173 hl (by decide) rfl (fun ls hl => ?_)
            obtain ⟨x48, ex48, h49⟩ := pp_lj_ex h47
            clear h47
            refine lv_iinc (v := x48) (lv' := [(10, .int x48), (8, .long x46), (0, .ref (g.2.2.2 28)), (3, .int v3), (4, .int v4), (5, .int v5), (6, .int v6)]) hx hb dX11_duel_175 hl (k := 6) rfl (by rw [ex48]; rfl) (by decide) rfl (fun ls hl => ?_)
            refine lv_goto (tgt := 141) hx hb dX11_duel_178 (by decide) ?_
            exact ih9 _ h49 H locs ls G (lv_sub hl [2, 3, 4, 5, 6, 1, 0] rfl)
          refine lv_if_ne (tgt := 163) hx hb dX11_duel_156 (by decide) (fun c50 => ?_) (fun c50 => ?_)
          · have h51 := pp_f c50 h42
            clear h42
            refine lv_iconst (v := 0) hx hb dX11_duel_163 (by decide) ?_
            exact hj41 _ H locs ls h51 G hl
          · have h52 := pp_t c50 h42
            clear h42
            refine lv_iconst (v := 1) hx hb dX11_duel_159 (by decide) ?_
            refine lv_goto (tgt := 164) hx hb dX11_duel_160 (by decide) ?_
            exact hj41 _ H locs ls h52 G hl
      · have h53 := pp_f c7 h6
        clear h6
        refine lv_aload_n hx hb dX11_duel_107 rfl (lv_at hl 0 rfl) ?_
        refine rr_get X G 23 (by decide) hf52 (v := .ref (g.2.2.2 23)) rfl dX11_duel_108 ?_
        refine lv_iload hx hb dX11_duel_111 (lv_at hl 7 rfl) ?_
        refine lv_iload hx hb dX11_duel_113 (lv_at hl 7 rfl) ?_
        refine lv_iconst (v := 5) hx hb dX11_duel_115 (by decide) ?_
        refine lv_iload_n hx hb dX11_duel_116 rfl (lv_at hl 1 rfl) ?_
        refine lv_imul hx hb dX11_duel_117 ?_
        refine lv_iload_n hx hb dX11_duel_118 rfl (lv_at hl 2 rfl) ?_
        refine lv_iadd hx hb dX11_duel_119 ?_
        obtain ⟨j54, ej54, h55⟩ := pp_lj_ex h53
        clear h53
        have hj54 : ∀ (a54 : Int64) (H : Heap) (locs : List Loc) (ls : Array Slot), j54 a54 = some res → rr_H g a6.1 s H locs → lv_has ls 13 [(0, .ref (g.2.2.2 28)), (1, .int v1), (2, .int v2), (3, .int v3), (4, .int v4), (5, .int v5), (6, .int v6), (8, .int a6.2)] → W p l e (headSpec wsX11_duel rmX11_duel).room s m args below meth c H locs 0 0 Q (F0 m 128 ls [.long a54, .int a6.2, .ref (g.2.2.2 23)]) := by
          intro a54 H locs ls h G hl
          have h56 := pp_jmp ej54 h
          clear h h55
          obtain ⟨hi57, h58⟩ := pp_ix_ex h56
          clear h56
          obtain ⟨x59, ex59, h60⟩ := pp_lj_ex h58
          clear h58
          refine rr_last X G ra_23 hi57 ex59 dX11_duel_128 (fun H locs G => ?_)
          obtain ⟨x61, ex61, h62⟩ := pp_lj_ex h60
          clear h60
          refine lv_iinc (v := x61) (lv' := [(8, .int x61), (0, .ref (g.2.2.2 28)), (1, .int v1), (2, .int v2), (3, .int v3), (4, .int v4), (5, .int v5), (6, .int v6)]) hx hb dX11_duel_129 hl (k := 7) rfl (by rw [ex61]; rfl) (by decide) rfl (fun ls hl => ?_)
          refine lv_goto (tgt := 100) hx hb dX11_duel_132 (by decide) ?_
          exact ih6 _ h62 H locs ls G (lv_sub hl [1, 2, 3, 4, 5, 6, 7, 0] rfl)
        refine lv_icmp_ne (tgt := 127) hx hb dX11_duel_120 (by decide) (fun c63 => ?_) (fun c63 => ?_)
        · have h64 := pp_f c63 h55
          clear h55
          refine lv_lconst (v := 0) hx hb dX11_duel_127 (by decide) ?_
          exact hj54 _ H locs ls h64 G hl
        · have h65 := pp_t c63 h55
          clear h55
          refine lv_lconst (v := 1) hx hb dX11_duel_123 (by decide) ?_
          refine lv_goto (tgt := 128) hx hb dX11_duel_124 (by decide) ?_
          exact hj54 _ H locs ls h65 G hl
    · have h66 := pp_f c4 h3
      clear h3
      refine lv_aload_n hx hb dX11_duel_90 rfl (lv_at hl 1 rfl) ?_
      refine lv_iload hx hb dX11_duel_91 (lv_at hl 0 rfl) ?_
      obtain ⟨r67, hc67, h68⟩ := pp_ob_ex h66
      clear h66
      refine rr_call X G (ctX11_lowest l g _ _ hc67) (cwV 1 hts gX11_duel_X11_lowest rfl rfl rfl (by decide +kernel) ⟨Nat.le_of_ble_eq_true rfl, Nat.le_of_ble_eq_true rfl⟩) (rest := []) rfl hl.1 rfl (Nat.le_of_ble_eq_true rfl) dX11_duel_93 (fun H locs G => ?_)
      exact rr_lret X hr hlk G h68 hQ dX11_duel_96
  obtain ⟨j69, ej69, h70⟩ := pp_lj_ex h2
  clear h2
  have hj69 : ∀ (a69 : Unit) (H : Heap) (locs : List Loc) (ls : Array Slot), j69 a69 = some res → rr_H g q s H locs → lv_has ls 13 [(0, .ref (g.2.2.2 28)), (1, .int v1), (2, .int v2), (3, .int v3), (4, .int v4), (5, .int v5), (6, .int v6)] → W p l e (headSpec wsX11_duel rmX11_duel).room s m args below meth c H locs 0 0 Q (F0 m 27 ls []) := by
    intro a69 H locs ls h G hl
    have h71 := pp_jmp ej69 h
    clear h h70
    refine lv_bipush (v := -4) hx hb dX11_duel_27 (by decide) ?_
    refine lv_goto (tgt := 83) hx hb dX11_duel_29 (by decide) ?_
    exact hj1 _ H locs ls h71 G hl
  refine lv_icmp_lt (tgt := 27) hx hb dX11_duel_2 (by decide) (fun c72 => ?_) (fun c72 => ?_)
  · have h73 := pp_t c72 h70
    clear h70
    exact hj69 _ H locs ls h73 G hl
  · have h74 := pp_f c72 h70
    clear h70
    refine lv_iload_n hx hb dX11_duel_5 rfl (lv_at hl 2 rfl) ?_
    refine lv_iconst (v := 1) hx hb dX11_duel_6 (by decide) ?_
    refine lv_icmp_lt (tgt := 27) hx hb dX11_duel_7 (by decide) (fun c75 => ?_) (fun c75 => ?_)
    · have h76 := pp_t c75 h74
      clear h74
      exact hj69 _ H locs ls h76 G hl
    · have h77 := pp_f c75 h74
      clear h74
      refine lv_iload_n hx hb dX11_duel_10 rfl (lv_at hl 3 rfl) ?_
      refine lv_iconst (v := 1) hx hb dX11_duel_11 (by decide) ?_
      refine lv_icmp_lt (tgt := 27) hx hb dX11_duel_12 (by decide) (fun c78 => ?_) (fun c78 => ?_)
      · have h79 := pp_t c78 h77
        clear h77
        exact hj69 _ H locs ls h79 G hl
      · have h80 := pp_f c78 h77
        clear h77
        refine lv_iload hx hb dX11_duel_15 (lv_at hl 4 rfl) ?_
        refine lv_iconst (v := 1) hx hb dX11_duel_17 (by decide) ?_
        refine lv_icmp_lt (tgt := 27) hx hb dX11_duel_18 (by decide) (fun c81 => ?_) (fun c81 => ?_)
        · have h82 := pp_t c81 h80
          clear h80
          exact hj69 _ H locs ls h82 G hl
        · have h83 := pp_f c81 h80
          clear h80
          refine lv_iload hx hb dX11_duel_21 (lv_at hl 5 rfl) ?_
          refine lv_iconst (v := 1) hx hb dX11_duel_23 (by decide) ?_
          refine lv_icmp_ge (tgt := 32) hx hb dX11_duel_24 (by decide) (fun c84 => ?_) (fun c84 => ?_)
          · have h85 := pp_t c84 h83
            clear h83
            refine lv_iload_n hx hb dX11_duel_32 rfl (lv_at hl 1 rfl) ?_
            refine lv_iconst (v := 4) hx hb dX11_duel_33 (by decide) ?_
            obtain ⟨j86, ej86, h87⟩ := pp_lj_ex h85
            clear h85
            have hj86 : ∀ (a86 : Unit) (H : Heap) (locs : List Loc) (ls : Array Slot), j86 a86 = some res → rr_H g q s H locs → lv_has ls 13 [(0, .ref (g.2.2.2 28)), (1, .int v1), (2, .int v2), (3, .int v3), (4, .int v4), (5, .int v5), (6, .int v6)] → W p l e (headSpec wsX11_duel rmX11_duel).room s m args below meth c H locs 0 0 Q (F0 m 62 ls []) := by
              intro a86 H locs ls h G hl
              have h88 := pp_jmp ej86 h
              clear h h87
              refine lv_bipush (v := -6) hx hb dX11_duel_62 (by decide) ?_
              refine lv_goto (tgt := 83) hx hb dX11_duel_64 (by decide) ?_
              exact hj1 _ H locs ls h88 G hl
            refine lv_icmp_gt (tgt := 62) hx hb dX11_duel_34 (by decide) (fun c89 => ?_) (fun c89 => ?_)
            · have h90 := pp_t c89 h87
              clear h87
              exact hj86 _ H locs ls h90 G hl
            · have h91 := pp_f c89 h87
              clear h87
              refine lv_iload_n hx hb dX11_duel_37 rfl (lv_at hl 2 rfl) ?_
              refine lv_iconst (v := 4) hx hb dX11_duel_38 (by decide) ?_
              refine lv_icmp_gt (tgt := 62) hx hb dX11_duel_39 (by decide) (fun c92 => ?_) (fun c92 => ?_)
              · have h93 := pp_t c92 h91
                clear h91
                exact hj86 _ H locs ls h93 G hl
              · have h94 := pp_f c92 h91
                clear h91
                refine lv_iload_n hx hb dX11_duel_42 rfl (lv_at hl 3 rfl) ?_
                refine lv_bipush (v := 19) hx hb dX11_duel_43 (by decide) ?_
                refine lv_icmp_gt (tgt := 62) hx hb dX11_duel_45 (by decide) (fun c95 => ?_) (fun c95 => ?_)
                · have h96 := pp_t c95 h94
                  clear h94
                  exact hj86 _ H locs ls h96 G hl
                · have h97 := pp_f c95 h94
                  clear h94
                  refine lv_iload hx hb dX11_duel_48 (lv_at hl 4 rfl) ?_
                  refine lv_bipush (v := 19) hx hb dX11_duel_50 (by decide) ?_
                  refine lv_icmp_gt (tgt := 62) hx hb dX11_duel_52 (by decide) (fun c98 => ?_) (fun c98 => ?_)
                  · have h99 := pp_t c98 h97
                    clear h97
                    exact hj86 _ H locs ls h99 G hl
                  · have h100 := pp_f c98 h97
                    clear h97
                    refine lv_iload hx hb dX11_duel_55 (lv_at hl 5 rfl) ?_
                    refine lv_bipush (v := 9) hx hb dX11_duel_57 (by decide) ?_
                    refine lv_icmp_le (tgt := 67) hx hb dX11_duel_59 (by decide) (fun c101 => ?_) (fun c101 => ?_)
                    · have h102 := pp_t c101 h100
                      clear h100
                      refine lv_iload hx hb dX11_duel_67 (lv_at hl 6 rfl) ?_
                      refine lv_iconst (v := 0) hx hb dX11_duel_69 (by decide) ?_
                      refine lv_iconst (v := 3) hx hb dX11_duel_70 (by decide) ?_
                      obtain ⟨r103, hc103, h104⟩ := pp_ob_ex h102
                      clear h102
                      refine rr_csi X G (ctX11_isIn l _ _ _ hc103) (va_cwS 3 hts gX11_duel_X11_isIn rfl rfl rfl (by decide +kernel) ⟨Nat.le_of_ble_eq_true rfl, Nat.le_of_ble_eq_true rfl⟩) (rest := []) rfl hl.1 rfl (Nat.le_of_ble_eq_true rfl) dX11_duel_71 (fun H locs G => ?_)
                      refine lv_if_ne (tgt := 82) hx hb dX11_duel_74 (by decide) (fun c105 => ?_) (fun c105 => ?_)
                      · have h106 := pp_f c105 h104
                        clear h104
                        refine lv_iconst (v := 0) hx hb dX11_duel_82 (by decide) ?_
                        exact hj1 _ H locs ls h106 G hl
                      · have h107 := pp_t c105 h104
                        clear h104
                        refine lv_bipush (v := -2) hx hb dX11_duel_77 (by decide) ?_
                        refine lv_goto (tgt := 83) hx hb dX11_duel_79 (by decide) ?_
                        exact hj1 _ H locs ls h107 G hl
                    · have h108 := pp_f c101 h100
                      clear h100
                      exact hj86 _ H locs ls h108 G hl
          · have h109 := pp_f c84 h83
            clear h83
            exact hj69 _ H locs ls h109 G hl
noncomputable def R_least (v0 : Int32) (v1 : Int32) : Option Int32 := (if v1 ≤ v0 then some v1 else some v0)
abbrev rmX11_least : Room := { frames := 0, cells := 0, slots := 0, locals := 0 }
set_option maxHeartbeats 4000000 in
set_option maxRecDepth 100000 in
theorem ctX11_least (l : Launch) (v0 : Int32) (v1 : Int32) {res : Int32} (h : R_least v0 v1 = some res) : xs_Mi l yX11_least wsX11_least rmX11_least [.int v0, .int v1] res := by
  intro sz
  unfold R_least at h
  refine xs_ofW (own := RX11) (by decide) rfl rfl (Nat.le_of_ble_eq_true rfl) ?_
  intro p e s m args below meth c ls X hr hlk hl Q hQ
  have hx := X.1
  have hb := X.2.1
  have hown := X.2.2.2.1
  have hts := X.2.2.2.2
  have hl : lv_has ls 2 [(0, .int v0), (1, .int v1)] := hl
  refine lv_iload_n hx hb dX11_least_0 rfl (lv_at hl 0 rfl) ?_
  refine lv_iload_n hx hb dX11_least_1 rfl (lv_at hl 1 rfl) ?_
  refine lv_icmp_ge (tgt := 9) hx hb dX11_least_2 (by decide) (fun c1 => ?_) (fun c1 => ?_)
  · have h2 := pp_t c1 h
    clear h
    refine lv_iload_n hx hb dX11_least_9 rfl (lv_at hl 1 rfl) ?_
    exact xs_iret hx hb hr hlk rfl h2 hQ dX11_least_10
  · have h3 := pp_f c1 h
    clear h
    refine lv_iload_n hx hb dX11_least_5 rfl (lv_at hl 0 rfl) ?_
    refine lv_goto (tgt := 10) hx hb dX11_least_6 (by decide) ?_
    exact xs_iret hx hb hr hlk rfl h3 hQ dX11_least_10
noncomputable def R_most (v0 : Int32) (v1 : Int32) : Option Int32 := (if v0 ≤ v1 then some v1 else some v0)
abbrev rmX11_most : Room := { frames := 0, cells := 0, slots := 0, locals := 0 }
set_option maxHeartbeats 4000000 in
set_option maxRecDepth 100000 in
theorem ctX11_most (l : Launch) (v0 : Int32) (v1 : Int32) {res : Int32} (h : R_most v0 v1 = some res) : xs_Mi l yX11_most wsX11_most rmX11_most [.int v0, .int v1] res := by
  intro sz
  unfold R_most at h
  refine xs_ofW (own := RX11) (by decide) rfl rfl (Nat.le_of_ble_eq_true rfl) ?_
  intro p e s m args below meth c ls X hr hlk hl Q hQ
  have hx := X.1
  have hb := X.2.1
  have hown := X.2.2.2.1
  have hts := X.2.2.2.2
  have hl : lv_has ls 2 [(0, .int v0), (1, .int v1)] := hl
  refine lv_iload_n hx hb dX11_most_0 rfl (lv_at hl 0 rfl) ?_
  refine lv_iload_n hx hb dX11_most_1 rfl (lv_at hl 1 rfl) ?_
  refine lv_icmp_le (tgt := 9) hx hb dX11_most_2 (by decide) (fun c1 => ?_) (fun c1 => ?_)
  · have h2 := pp_t c1 h
    clear h
    refine lv_iload_n hx hb dX11_most_9 rfl (lv_at hl 1 rfl) ?_
    exact xs_iret hx hb hr hlk rfl h2 hQ dX11_most_10
  · have h3 := pp_f c1 h
    clear h
    refine lv_iload_n hx hb dX11_most_5 rfl (lv_at hl 0 rfl) ?_
    refine lv_goto (tgt := 10) hx hb dX11_most_6 (by decide) ?_
    exact xs_iret hx hb hr hlk rfl h3 hQ dX11_most_10
noncomputable def R_game (q : rr_S) (v1 : Int32) (v2 : Int32) (v3 : Int32) : Option (Int64 × rr_S) := pp_ob (R_isPlayer q v1) (fun r1 => pp_lj (fun (a3 : Int32) => ((if a3 = (0 : Int32) then pp_ob (R_hitOf q v1 v2 (0 : Int32)) (fun r8 => pp_ob (R_hitOf q v1 v2 (2 : Int32)) (fun r10 => pp_ob (R_caughtOf q v2 (0 : Int32)) (fun r12 => pp_lj (((r8 + (6 : Int32)) - ((2 : Int32) * r12)) : Int32) (fun x14 => pp_ob (R_caughtOf q v2 (2 : Int32)) (fun r16 => pp_lj (((r10 + (6 : Int32)) - ((2 : Int32) * r16)) : Int32) (fun x18 => pp_ob (R_least r8 x14) (fun r20 => pp_ob (R_least r10 x18) (fun r22 => pp_ob (R_most r20 r22) (fun r24 => pp_ob (R_most r8 r10) (fun r26 => pp_ob (R_most x14 x18) (fun r28 => pp_ob (R_least r26 r28) (fun r30 => (if r24 = r30 then (if v3 = (0 : Int32) then some ((Int32.toInt64 r24), q) else some ((1 : Int64), q)) else pp_lj ((Int32.toInt64 ((r8 * x18) - (x14 * r10))) : Int64) (fun x34 => pp_lj ((Int32.toInt64 (((r8 + x18) - x14) - r10)) : Int64) (fun x36 => pp_lj (fun (a38 : Int64 × Int64) => (pp_lj (fun (a41 : Int64) => (pp_ob (R_divisor a38.1 a38.2) (fun r44 => pp_dl r44 (some ((a41 / r44), q))) : Option (Int64 × rr_S))) (fun j41 => (if v3 = (0 : Int32) then j41 a38.1 else j41 a38.2)) : Option (Int64 × rr_S))) (fun j38 => (if (0 : Int32) ≤ (lg_cmp x36 (0 : Int64)) then j38 (x34, x36) else pp_lj ((-x34) : Int64) (fun x54 => pp_lj ((-x36) : Int64) (fun x56 => j38 (x54, x56)))))))))))))))))))) else pp_ob (R_lowest q a3) (fun r63 => some (r63.1, r63.2))) : Option (Int64 × rr_S))) (fun j3 => pp_lj (fun (a65 : Unit) => (j3 (-1 : Int32) : Option (Int64 × rr_S))) (fun j65 => (if r1 = (0 : Int32) then j65 () else pp_ob (R_isPlayer q v2) (fun r71 => (if r71 = (0 : Int32) then j65 () else pp_ob (R_isIn v3 (0 : Int32) (1 : Int32)) (fun r75 => (if r75 = (0 : Int32) then j3 (-2 : Int32) else pp_ob (R_areAgainst q v1 v2) (fun r79 => (if r79 = (0 : Int32) then j3 (-3 : Int32) else j3 (0 : Int32)))))))))))
abbrev rmX11_game : Room := { frames := 3, cells := 0, slots := 0, locals := 68 }
set_option maxHeartbeats 4000000 in
set_option maxRecDepth 100000 in
theorem ctX11_game (l : Launch) (g : rr_G) (q : rr_S) (v1 : Int32) (v2 : Int32) (v3 : Int32) {res : (Int64 × rr_S)} (h : R_game q v1 v2 v3 = some res) : rr_Ml l yX11_game wsX11_game rmX11_game g q [.int v1, .int v2, .int v3] res := by
  intro sz
  unfold R_game at h
  refine rr_ofW (by decide) rfl rfl (fun _ z => List.mem_cons_of_mem _ (List.mem_append_right _ z)) (Nat.le_of_ble_eq_true rfl) ?_
  intro p e s m args below meth c ls X hr hlk hsz G hl Q hQ
  subst hsz
  have hx := X.1.1
  have hb := X.1.2.1
  have hown := X.1.2.2.2.1
  have hts := X.1.2.2.2.2
  refine (fun (key : ∀ (H : Heap) (locs : List Loc), rr_H g q s H locs → W p l e (headSpec wsX11_game rmX11_game).room s m args below meth c H locs 0 0 Q (F0 m 0 ls [])) => key _ _ G) ?_
  clear G
  intro H locs G
  have hl : lv_has ls 15 [(0, .ref (g.2.2.2 28)), (1, .int v1), (2, .int v2), (3, .int v3)] := hl
  refine lv_aload_n hx hb dX11_game_0 rfl (lv_at hl 0 rfl) ?_
  refine lv_iload_n hx hb dX11_game_1 rfl (lv_at hl 1 rfl) ?_
  obtain ⟨r1, hc1, h2⟩ := pp_ob_ex h
  clear h
  refine rr_cali X G (ctX11_isPlayer l g _ _ hc1) (cwV 1 hts gX11_game_X11_isPlayer rfl rfl rfl (by decide +kernel) ⟨Nat.le_of_ble_eq_true rfl, Nat.le_of_ble_eq_true rfl⟩) (rest := []) rfl hl.1 rfl (Nat.le_of_ble_eq_true rfl) dX11_game_2 (fun H locs G => ?_)
  obtain ⟨j3, ej3, h4⟩ := pp_lj_ex h2
  clear h2
  have hj3 : ∀ (a3 : Int32) (H : Heap) (locs : List Loc) (ls : Array Slot), j3 a3 = some res → rr_H g q s H locs → lv_has ls 15 [(0, .ref (g.2.2.2 28)), (1, .int v1), (2, .int v2), (3, .int v3)] → W p l e (headSpec wsX11_game rmX11_game).room s m args below meth c H locs 0 0 Q (F0 m 49 ls [.int a3]) := by
    intro a3 H locs ls h G hl
    have h5 := pp_jmp ej3 h
    clear h h4
    refine lv_istore (lv' := [(4, .int a3), (0, .ref (g.2.2.2 28)), (1, .int v1), (2, .int v2), (3, .int v3)]) hx hb dX11_game_49 hl (by decide) rfl (fun ls hl => ?_)
    refine lv_iload hx hb dX11_game_51 (lv_at hl 0 rfl) ?_
    refine lv_if_eq (tgt := 63) hx hb dX11_game_53 (by decide) (fun c6 => ?_) (fun c6 => ?_)
    · have h7 := pp_t c6 h5
      clear h5
      refine lv_aload_n hx hb dX11_game_63 rfl (lv_at hl 1 rfl) ?_
      refine lv_iload_n hx hb dX11_game_64 rfl (lv_at hl 2 rfl) ?_
      refine lv_iload_n hx hb dX11_game_65 rfl (lv_at hl 3 rfl) ?_
      refine lv_iconst (v := 0) hx hb dX11_game_66 (by decide) ?_
      obtain ⟨r8, hc8, h9⟩ := pp_ob_ex h7
      clear h7
      refine rr_cali X G (ctX11_hitOf l g _ _ _ _ hc8) (cwV 3 hts gX11_game_X11_hitOf rfl rfl rfl (by decide +kernel) ⟨Nat.le_of_ble_eq_true rfl, Nat.le_of_ble_eq_true rfl⟩) (rest := []) rfl hl.1 rfl (Nat.le_of_ble_eq_true rfl) dX11_game_67 (fun H locs G => ?_)
      refine lv_istore (lv' := [(5, .int r8), (4, .int a3), (0, .ref (g.2.2.2 28)), (1, .int v1), (2, .int v2), (3, .int v3)]) hx hb dX11_game_70 hl (by decide) rfl (fun ls hl => ?_)
      refine lv_aload_n hx hb dX11_game_72 rfl (lv_at hl 2 rfl) ?_
      refine lv_iload_n hx hb dX11_game_73 rfl (lv_at hl 3 rfl) ?_
      refine lv_iload_n hx hb dX11_game_74 rfl (lv_at hl 4 rfl) ?_
      refine lv_iconst (v := 2) hx hb dX11_game_75 (by decide) ?_
      obtain ⟨r10, hc10, h11⟩ := pp_ob_ex h9
      clear h9
      refine rr_cali X G (ctX11_hitOf l g _ _ _ _ hc10) (cwV 3 hts gX11_game_X11_hitOf rfl rfl rfl (by decide +kernel) ⟨Nat.le_of_ble_eq_true rfl, Nat.le_of_ble_eq_true rfl⟩) (rest := []) rfl hl.1 rfl (Nat.le_of_ble_eq_true rfl) dX11_game_76 (fun H locs G => ?_)
      refine lv_istore (lv' := [(6, .int r10), (5, .int r8), (4, .int a3), (0, .ref (g.2.2.2 28)), (1, .int v1), (2, .int v2), (3, .int v3)]) hx hb dX11_game_79 hl (by decide) rfl (fun ls hl => ?_)
      refine lv_iload hx hb dX11_game_81 (lv_at hl 1 rfl) ?_
      refine lv_bipush (v := 6) hx hb dX11_game_83 (by decide) ?_
      refine lv_iadd hx hb dX11_game_85 ?_
      refine lv_iconst (v := 2) hx hb dX11_game_86 (by decide) ?_
      refine lv_aload_n hx hb dX11_game_87 rfl (lv_at hl 3 rfl) ?_
      refine lv_iload_n hx hb dX11_game_88 rfl (lv_at hl 5 rfl) ?_
      refine lv_iconst (v := 0) hx hb dX11_game_89 (by decide) ?_
      obtain ⟨r12, hc12, h13⟩ := pp_ob_ex h11
      clear h11
      refine rr_cali X G (ctX11_caughtOf l g _ _ _ hc12) (cwV 2 hts gX11_game_X11_caughtOf rfl rfl rfl (by decide +kernel) ⟨Nat.le_of_ble_eq_true rfl, Nat.le_of_ble_eq_true rfl⟩) (rest := [.int (2 : Int32), .int (r8 + (6 : Int32))]) rfl hl.1 rfl (Nat.le_of_ble_eq_true rfl) dX11_game_90 (fun H locs G => ?_)
      refine lv_imul hx hb dX11_game_93 ?_
      refine lv_isub hx hb dX11_game_94 ?_
      obtain ⟨x14, ex14, h15⟩ := pp_lj_ex h13
      clear h13
      refine lv_nmi ex14 ?_
      refine lv_istore (lv' := [(7, .int x14), (6, .int r10), (5, .int r8), (4, .int a3), (0, .ref (g.2.2.2 28)), (1, .int v1), (2, .int v2), (3, .int v3)]) hx hb dX11_game_95 hl (by decide) rfl (fun ls hl => ?_)
      refine lv_iload hx hb dX11_game_97 (lv_at hl 1 rfl) ?_
      refine lv_bipush (v := 6) hx hb dX11_game_99 (by decide) ?_
      refine lv_iadd hx hb dX11_game_101 ?_
      refine lv_iconst (v := 2) hx hb dX11_game_102 (by decide) ?_
      refine lv_aload_n hx hb dX11_game_103 rfl (lv_at hl 4 rfl) ?_
      refine lv_iload_n hx hb dX11_game_104 rfl (lv_at hl 6 rfl) ?_
      refine lv_iconst (v := 2) hx hb dX11_game_105 (by decide) ?_
      obtain ⟨r16, hc16, h17⟩ := pp_ob_ex h15
      clear h15
      refine rr_cali X G (ctX11_caughtOf l g _ _ _ hc16) (cwV 2 hts gX11_game_X11_caughtOf rfl rfl rfl (by decide +kernel) ⟨Nat.le_of_ble_eq_true rfl, Nat.le_of_ble_eq_true rfl⟩) (rest := [.int (2 : Int32), .int (r10 + (6 : Int32))]) rfl hl.1 rfl (Nat.le_of_ble_eq_true rfl) dX11_game_106 (fun H locs G => ?_)
      refine lv_imul hx hb dX11_game_109 ?_
      refine lv_isub hx hb dX11_game_110 ?_
      obtain ⟨x18, ex18, h19⟩ := pp_lj_ex h17
      clear h17
      refine lv_nmi ex18 ?_
      refine lv_istore (lv' := [(8, .int x18), (7, .int x14), (6, .int r10), (5, .int r8), (4, .int a3), (0, .ref (g.2.2.2 28)), (1, .int v1), (2, .int v2), (3, .int v3)]) hx hb dX11_game_111 hl (by decide) rfl (fun ls hl => ?_)
      refine lv_iload hx hb dX11_game_113 (lv_at hl 3 rfl) ?_
      refine lv_iload hx hb dX11_game_115 (lv_at hl 1 rfl) ?_
      obtain ⟨r20, hc20, h21⟩ := pp_ob_ex h19
      clear h19
      refine rr_csi X G (ctX11_least l _ _ hc20) (va_cwS 2 hts gX11_game_X11_least rfl rfl rfl (by decide +kernel) ⟨Nat.le_of_ble_eq_true rfl, Nat.le_of_ble_eq_true rfl⟩) (rest := []) rfl hl.1 rfl (Nat.le_of_ble_eq_true rfl) dX11_game_117 (fun H locs G => ?_)
      refine lv_iload hx hb dX11_game_120 (lv_at hl 2 rfl) ?_
      refine lv_iload hx hb dX11_game_122 (lv_at hl 0 rfl) ?_
      obtain ⟨r22, hc22, h23⟩ := pp_ob_ex h21
      clear h21
      refine rr_csi X G (ctX11_least l _ _ hc22) (va_cwS 2 hts gX11_game_X11_least rfl rfl rfl (by decide +kernel) ⟨Nat.le_of_ble_eq_true rfl, Nat.le_of_ble_eq_true rfl⟩) (rest := [.int r20]) rfl hl.1 rfl (Nat.le_of_ble_eq_true rfl) dX11_game_124 (fun H locs G => ?_)
      obtain ⟨r24, hc24, h25⟩ := pp_ob_ex h23
      clear h23
      refine rr_csi X G (ctX11_most l _ _ hc24) (va_cwS 2 hts gX11_game_X11_most rfl rfl rfl (by decide +kernel) ⟨Nat.le_of_ble_eq_true rfl, Nat.le_of_ble_eq_true rfl⟩) (rest := []) rfl hl.1 rfl (Nat.le_of_ble_eq_true rfl) dX11_game_127 (fun H locs G => ?_)
      refine lv_istore (lv' := [(9, .int r24), (8, .int x18), (7, .int x14), (6, .int r10), (5, .int r8), (4, .int a3), (0, .ref (g.2.2.2 28)), (1, .int v1), (2, .int v2), (3, .int v3)]) hx hb dX11_game_130 hl (by decide) rfl (fun ls hl => ?_)
      refine lv_iload hx hb dX11_game_132 (lv_at hl 4 rfl) ?_
      refine lv_iload hx hb dX11_game_134 (lv_at hl 3 rfl) ?_
      obtain ⟨r26, hc26, h27⟩ := pp_ob_ex h25
      clear h25
      refine rr_csi X G (ctX11_most l _ _ hc26) (va_cwS 2 hts gX11_game_X11_most rfl rfl rfl (by decide +kernel) ⟨Nat.le_of_ble_eq_true rfl, Nat.le_of_ble_eq_true rfl⟩) (rest := []) rfl hl.1 rfl (Nat.le_of_ble_eq_true rfl) dX11_game_136 (fun H locs G => ?_)
      refine lv_iload hx hb dX11_game_139 (lv_at hl 2 rfl) ?_
      refine lv_iload hx hb dX11_game_141 (lv_at hl 1 rfl) ?_
      obtain ⟨r28, hc28, h29⟩ := pp_ob_ex h27
      clear h27
      refine rr_csi X G (ctX11_most l _ _ hc28) (va_cwS 2 hts gX11_game_X11_most rfl rfl rfl (by decide +kernel) ⟨Nat.le_of_ble_eq_true rfl, Nat.le_of_ble_eq_true rfl⟩) (rest := [.int r26]) rfl hl.1 rfl (Nat.le_of_ble_eq_true rfl) dX11_game_143 (fun H locs G => ?_)
      obtain ⟨r30, hc30, h31⟩ := pp_ob_ex h29
      clear h29
      refine rr_csi X G (ctX11_least l _ _ hc30) (va_cwS 2 hts gX11_game_X11_least rfl rfl rfl (by decide +kernel) ⟨Nat.le_of_ble_eq_true rfl, Nat.le_of_ble_eq_true rfl⟩) (rest := []) rfl hl.1 rfl (Nat.le_of_ble_eq_true rfl) dX11_game_146 (fun H locs G => ?_)
      refine lv_istore (lv' := [(10, .int r30), (9, .int r24), (8, .int x18), (7, .int x14), (6, .int r10), (5, .int r8), (4, .int a3), (0, .ref (g.2.2.2 28)), (1, .int v1), (2, .int v2), (3, .int v3)]) hx hb dX11_game_149 hl (by decide) rfl (fun ls hl => ?_)
      refine lv_iload hx hb dX11_game_151 (lv_at hl 1 rfl) ?_
      refine lv_iload hx hb dX11_game_153 (lv_at hl 0 rfl) ?_
      refine lv_icmp_ne (tgt := 170) hx hb dX11_game_155 (by decide) (fun c32 => ?_) (fun c32 => ?_)
      · have h33 := pp_f c32 h31
        clear h31
        refine lv_iload hx hb dX11_game_170 (lv_at hl 5 rfl) ?_
        refine lv_iload hx hb dX11_game_172 (lv_at hl 2 rfl) ?_
        refine lv_imul hx hb dX11_game_174 ?_
        refine lv_iload hx hb dX11_game_175 (lv_at hl 3 rfl) ?_
        refine lv_iload hx hb dX11_game_177 (lv_at hl 4 rfl) ?_
        refine lv_imul hx hb dX11_game_179 ?_
        refine lv_isub hx hb dX11_game_180 ?_
        refine lv_i2l hx hb dX11_game_181 rfl ?_
        obtain ⟨x34, ex34, h35⟩ := pp_lj_ex h33
        clear h33
        refine lv_nml ex34 ?_
        refine lv_lstore (lv' := [(11, .long x34), (10, .int r30), (9, .int r24), (8, .int x18), (7, .int x14), (6, .int r10), (5, .int r8), (4, .int a3), (0, .ref (g.2.2.2 28)), (1, .int v1), (2, .int v2), (3, .int v3)]) hx hb dX11_game_182 hl (by decide) rfl (fun ls hl => ?_)
        refine lv_iload hx hb dX11_game_184 (lv_at hl 6 rfl) ?_
        refine lv_iload hx hb dX11_game_186 (lv_at hl 3 rfl) ?_
        refine lv_iadd hx hb dX11_game_188 ?_
        refine lv_iload hx hb dX11_game_189 (lv_at hl 4 rfl) ?_
        refine lv_isub hx hb dX11_game_191 ?_
        refine lv_iload hx hb dX11_game_192 (lv_at hl 5 rfl) ?_
        refine lv_isub hx hb dX11_game_194 ?_
        refine lv_i2l hx hb dX11_game_195 rfl ?_
        obtain ⟨x36, ex36, h37⟩ := pp_lj_ex h35
        clear h35
        refine lv_nml ex36 ?_
        refine lv_lstore (lv' := [(13, .long x36), (11, .long x34), (10, .int r30), (9, .int r24), (8, .int x18), (7, .int x14), (6, .int r10), (5, .int r8), (4, .int a3), (0, .ref (g.2.2.2 28)), (1, .int v1), (2, .int v2), (3, .int v3)]) hx hb dX11_game_196 hl (by decide) rfl (fun ls hl => ?_)
        refine lv_lload hx hb dX11_game_198 (lv_at hl 0 rfl) ?_
        refine lv_lconst (v := 0) hx hb dX11_game_200 (by decide) ?_
        refine W.lcmp hx hb dX11_game_201 ?_
        obtain ⟨j38, ej38, h39⟩ := pp_lj_ex h37
        clear h37
        have hj38 : ∀ (a38 : Int64 × Int64) (H : Heap) (locs : List Loc) (ls : Array Slot), j38 a38 = some res → rr_H g q s H locs → lv_has ls 15 [(3, .int v3), (11, .long a38.1), (13, .long a38.2)] → W p l e (headSpec wsX11_game rmX11_game).room s m args below meth c H locs 0 0 Q (F0 m 215 ls []) := by
          intro a38 H locs ls h G hl
          have h40 := pp_jmp ej38 h
          clear h h39
          refine lv_iload_n hx hb dX11_game_215 rfl (lv_at hl 0 rfl) ?_
          obtain ⟨j41, ej41, h42⟩ := pp_lj_ex h40
          clear h40
          have hj41 : ∀ (a41 : Int64) (H : Heap) (locs : List Loc) (ls : Array Slot), j41 a41 = some res → rr_H g q s H locs → lv_has ls 15 [(11, .long a38.1), (13, .long a38.2)] → W p l e (headSpec wsX11_game rmX11_game).room s m args below meth c H locs 0 0 Q (F0 m 226 ls [.long a41]) := by
            intro a41 H locs ls h G hl
            have h43 := pp_jmp ej41 h
            clear h h42
            refine lv_lload hx hb dX11_game_226 (lv_at hl 0 rfl) ?_
            refine lv_lload hx hb dX11_game_228 (lv_at hl 1 rfl) ?_
            obtain ⟨r44, hc44, h45⟩ := pp_ob_ex h43
            clear h43
            refine rr_csl X G (ctX11_divisor l _ _ hc44) (va_cwS 2 hts gX11_game_X11_divisor rfl rfl rfl (by decide +kernel) ⟨Nat.le_of_ble_eq_true rfl, Nat.le_of_ble_eq_true rfl⟩) (rest := [.long a41]) rfl hl.1 rfl (Nat.le_of_ble_eq_true rfl) dX11_game_230 (fun H locs G => ?_)
            obtain ⟨hz46, h47⟩ := pp_dl_ex h45
            clear h45
            refine lv_ldiv hx hb dX11_game_233 hz46 ?_
            exact rr_lret X hr hlk G h47 hQ dX11_game_234
          refine lv_if_ne (tgt := 224) hx hb dX11_game_216 (by decide) (fun c48 => ?_) (fun c48 => ?_)
          · have h49 := pp_f c48 h42
            clear h42
            refine lv_lload hx hb dX11_game_224 (lv_at hl 2 rfl) ?_
            exact hj41 _ H locs ls h49 G (lv_sub hl [1, 2] rfl)
          · have h50 := pp_t c48 h42
            clear h42
            refine lv_lload hx hb dX11_game_219 (lv_at hl 1 rfl) ?_
            refine lv_goto (tgt := 226) hx hb dX11_game_221 (by decide) ?_
            exact hj41 _ H locs ls h50 G (lv_sub hl [1, 2] rfl)
        refine lv_if_ge (tgt := 215) hx hb dX11_game_202 (by decide) (fun c51 => ?_) (fun c51 => ?_)
        · have h52 := pp_t c51 h39
          clear h39
          exact hj38 _ H locs ls h52 G (lv_sub hl [12, 1, 0] rfl)
        · have h53 := pp_f c51 h39
          clear h39
          refine lv_lload hx hb dX11_game_205 (lv_at hl 1 rfl) ?_
          refine lv_lneg hx hb dX11_game_207 ?_
          obtain ⟨x54, ex54, h55⟩ := pp_lj_ex h53
          clear h53
          refine lv_nml ex54 ?_
          refine lv_lstore (lv' := [(11, .long x54), (13, .long x36), (10, .int r30), (9, .int r24), (8, .int x18), (7, .int x14), (6, .int r10), (5, .int r8), (4, .int a3), (0, .ref (g.2.2.2 28)), (1, .int v1), (2, .int v2), (3, .int v3)]) hx hb dX11_game_208 hl (by decide) rfl (fun ls hl => ?_)
          refine lv_lload hx hb dX11_game_210 (lv_at hl 1 rfl) ?_
          refine lv_lneg hx hb dX11_game_212 ?_
          obtain ⟨x56, ex56, h57⟩ := pp_lj_ex h55
          clear h55
          refine lv_nml ex56 ?_
          refine lv_lstore (lv' := [(13, .long x56), (11, .long x54), (10, .int r30), (9, .int r24), (8, .int x18), (7, .int x14), (6, .int r10), (5, .int r8), (4, .int a3), (0, .ref (g.2.2.2 28)), (1, .int v1), (2, .int v2), (3, .int v3)]) hx hb dX11_game_213 hl (by decide) rfl (fun ls hl => ?_)
          exact hj38 _ H locs ls h57 G (lv_sub hl [12, 1, 0] rfl)
      · have h58 := pp_t c32 h31
        clear h31
        refine lv_iload_n hx hb dX11_game_158 rfl (lv_at hl 10 rfl) ?_
        refine lv_if_ne (tgt := 168) hx hb dX11_game_159 (by decide) (fun c59 => ?_) (fun c59 => ?_)
        · have h60 := pp_f c59 h58
          clear h58
          refine lv_lconst (v := 1) hx hb dX11_game_168 (by decide) ?_
          exact rr_lret X hr hlk G h60 hQ dX11_game_169
        · have h61 := pp_t c59 h58
          clear h58
          refine lv_iload hx hb dX11_game_162 (lv_at hl 1 rfl) ?_
          refine lv_i2l hx hb dX11_game_164 rfl ?_
          refine lv_goto (tgt := 169) hx hb dX11_game_165 (by decide) ?_
          exact rr_lret X hr hlk G h61 hQ dX11_game_169
    · have h62 := pp_f c6 h5
      clear h5
      refine lv_aload_n hx hb dX11_game_56 rfl (lv_at hl 1 rfl) ?_
      refine lv_iload hx hb dX11_game_57 (lv_at hl 0 rfl) ?_
      obtain ⟨r63, hc63, h64⟩ := pp_ob_ex h62
      clear h62
      refine rr_call X G (ctX11_lowest l g _ _ hc63) (cwV 1 hts gX11_game_X11_lowest rfl rfl rfl (by decide +kernel) ⟨Nat.le_of_ble_eq_true rfl, Nat.le_of_ble_eq_true rfl⟩) (rest := []) rfl hl.1 rfl (Nat.le_of_ble_eq_true rfl) dX11_game_59 (fun H locs G => ?_)
      exact rr_lret X hr hlk G h64 hQ dX11_game_62
  obtain ⟨j65, ej65, h66⟩ := pp_lj_ex h4
  clear h4
  have hj65 : ∀ (a65 : Unit) (H : Heap) (locs : List Loc) (ls : Array Slot), j65 a65 = some res → rr_H g q s H locs → lv_has ls 15 [(0, .ref (g.2.2.2 28)), (1, .int v1), (2, .int v2), (3, .int v3)] → W p l e (headSpec wsX11_game rmX11_game).room s m args below meth c H locs 0 0 Q (F0 m 16 ls []) := by
    intro a65 H locs ls h G hl
    have h67 := pp_jmp ej65 h
    clear h h66
    refine lv_iconst (v := -1) hx hb dX11_game_16 (by decide) ?_
    refine lv_goto (tgt := 49) hx hb dX11_game_17 (by decide) ?_
    exact hj3 _ H locs ls h67 G hl
  refine lv_if_eq (tgt := 16) hx hb dX11_game_5 (by decide) (fun c68 => ?_) (fun c68 => ?_)
  · have h69 := pp_t c68 h66
    clear h66
    exact hj65 _ H locs ls h69 G hl
  · have h70 := pp_f c68 h66
    clear h66
    refine lv_aload_n hx hb dX11_game_8 rfl (lv_at hl 0 rfl) ?_
    refine lv_iload_n hx hb dX11_game_9 rfl (lv_at hl 2 rfl) ?_
    obtain ⟨r71, hc71, h72⟩ := pp_ob_ex h70
    clear h70
    refine rr_cali X G (ctX11_isPlayer l g _ _ hc71) (cwV 1 hts gX11_game_X11_isPlayer rfl rfl rfl (by decide +kernel) ⟨Nat.le_of_ble_eq_true rfl, Nat.le_of_ble_eq_true rfl⟩) (rest := []) rfl hl.1 rfl (Nat.le_of_ble_eq_true rfl) dX11_game_10 (fun H locs G => ?_)
    refine lv_if_ne (tgt := 20) hx hb dX11_game_13 (by decide) (fun c73 => ?_) (fun c73 => ?_)
    · have h74 := pp_f c73 h72
      clear h72
      refine lv_iload_n hx hb dX11_game_20 rfl (lv_at hl 3 rfl) ?_
      refine lv_iconst (v := 0) hx hb dX11_game_21 (by decide) ?_
      refine lv_iconst (v := 1) hx hb dX11_game_22 (by decide) ?_
      obtain ⟨r75, hc75, h76⟩ := pp_ob_ex h74
      clear h74
      refine rr_csi X G (ctX11_isIn l _ _ _ hc75) (va_cwS 3 hts gX11_game_X11_isIn rfl rfl rfl (by decide +kernel) ⟨Nat.le_of_ble_eq_true rfl, Nat.le_of_ble_eq_true rfl⟩) (rest := []) rfl hl.1 rfl (Nat.le_of_ble_eq_true rfl) dX11_game_23 (fun H locs G => ?_)
      refine lv_if_ne (tgt := 34) hx hb dX11_game_26 (by decide) (fun c77 => ?_) (fun c77 => ?_)
      · have h78 := pp_f c77 h76
        clear h76
        refine lv_aload_n hx hb dX11_game_34 rfl (lv_at hl 0 rfl) ?_
        refine lv_iload_n hx hb dX11_game_35 rfl (lv_at hl 1 rfl) ?_
        refine lv_iload_n hx hb dX11_game_36 rfl (lv_at hl 2 rfl) ?_
        obtain ⟨r79, hc79, h80⟩ := pp_ob_ex h78
        clear h78
        refine rr_cali X G (ctX11_areAgainst l g _ _ _ hc79) (cwV 2 hts gX11_game_X11_areAgainst rfl rfl rfl (by decide +kernel) ⟨Nat.le_of_ble_eq_true rfl, Nat.le_of_ble_eq_true rfl⟩) (rest := []) rfl hl.1 rfl (Nat.le_of_ble_eq_true rfl) dX11_game_37 (fun H locs G => ?_)
        refine lv_if_ne (tgt := 48) hx hb dX11_game_40 (by decide) (fun c81 => ?_) (fun c81 => ?_)
        · have h82 := pp_f c81 h80
          clear h80
          refine lv_iconst (v := 0) hx hb dX11_game_48 (by decide) ?_
          exact hj3 _ H locs ls h82 G hl
        · have h83 := pp_t c81 h80
          clear h80
          refine lv_bipush (v := -3) hx hb dX11_game_43 (by decide) ?_
          refine lv_goto (tgt := 49) hx hb dX11_game_45 (by decide) ?_
          exact hj3 _ H locs ls h83 G hl
      · have h84 := pp_t c77 h76
        clear h76
        refine lv_bipush (v := -2) hx hb dX11_game_29 (by decide) ?_
        refine lv_goto (tgt := 49) hx hb dX11_game_31 (by decide) ?_
        exact hj3 _ H locs ls h84 G hl
    · have h85 := pp_t c73 h72
      clear h72
      exact hj65 _ H locs ls h85 G hl
noncomputable def R_row (q : rr_S) (v1 : Int32) : Option (Int32 × rr_S) := pp_ob (R_bound v1 (0 : Int32) (9999 : Int32)) (fun r1 => pp_lj (fun (a3 : Int32) => ((if a3 = (0 : Int32) then pp_ix (q.1 26) 12 (pp_lj (rr_A q 25 (Int32.toNatClampNeg (q.1 26)) v1 : rr_S) (fun x10 => pp_lj (rr_I x10 26 ((x10.1 26) + (1 : Int32)) : rr_S) (fun x12 => some ((x12.1 26), x12)))) else pp_ob (R_no q a3) (fun r15 => some (r15.1, r15.2))) : Option (Int32 × rr_S))) (fun j3 => (if r1 = (0 : Int32) then (if (q.1 26) = (12 : Int32) then j3 (-6 : Int32) else j3 r1) else j3 r1)))
abbrev rmX11_row : Room := { frames := 1, cells := 0, slots := 0, locals := 22 }
set_option maxHeartbeats 4000000 in
set_option maxRecDepth 100000 in
theorem ctX11_row (l : Launch) (g : rr_G) (q : rr_S) (v1 : Int32) {res : (Int32 × rr_S)} (h : R_row q v1 = some res) : rr_Mi l yX11_row wsX11_row rmX11_row g q [.int v1] res := by
  intro sz
  unfold R_row at h
  refine rr_ofW (by decide) rfl rfl (fun _ z => List.mem_cons_of_mem _ (List.mem_append_right _ z)) (Nat.le_of_ble_eq_true rfl) ?_
  intro p e s m args below meth c ls X hr hlk hsz G hl Q hQ
  subst hsz
  have hx := X.1.1
  have hb := X.1.2.1
  have hown := X.1.2.2.2.1
  have hts := X.1.2.2.2.2
  refine (fun (key : ∀ (H : Heap) (locs : List Loc), rr_H g q s H locs → W p l e (headSpec wsX11_row rmX11_row).room s m args below meth c H locs 0 0 Q (F0 m 0 ls [])) => key _ _ G) ?_
  clear G
  intro H locs G
  have hl : lv_has ls 3 [(0, .ref (g.2.2.2 28)), (1, .int v1)] := hl
  have hf59 : Cond.fieldLink RX11 59 (TX11 25).1 (TX11 25).2.1 (TX11 25).2.2.1 ∈ wsX11_row := by decide +kernel
  have hf235 : Cond.fieldLink RX11 235 (TX11 26).1 (TX11 26).2.1 (TX11 26).2.2.1 ∈ wsX11_row := by decide +kernel
  refine lv_iload_n hx hb dX11_row_0 rfl (lv_at hl 1 rfl) ?_
  refine lv_iconst (v := 0) hx hb dX11_row_1 (by decide) ?_
  refine lv_sipush (v := 9999) hx hb dX11_row_2 (by decide) ?_
  obtain ⟨r1, hc1, h2⟩ := pp_ob_ex h
  clear h
  refine rr_csi X G (ctX11_bound l _ _ _ hc1) (va_cwS 3 hts gX11_row_X11_bound rfl rfl rfl (by decide +kernel) ⟨Nat.le_of_ble_eq_true rfl, Nat.le_of_ble_eq_true rfl⟩) (rest := []) rfl hl.1 rfl (Nat.le_of_ble_eq_true rfl) dX11_row_5 (fun H locs G => ?_)
  refine lv_istore_n (lv' := [(2, .int r1), (0, .ref (g.2.2.2 28)), (1, .int v1)]) hx hb dX11_row_8 rfl hl (by decide) rfl (fun ls hl => ?_)
  refine lv_iload_n hx hb dX11_row_9 rfl (lv_at hl 0 rfl) ?_
  obtain ⟨j3, ej3, h4⟩ := pp_lj_ex h2
  clear h2
  have hj3 : ∀ (a3 : Int32) (H : Heap) (locs : List Loc) (ls : Array Slot), j3 a3 = some res → rr_H g q s H locs → lv_has ls 3 [(0, .ref (g.2.2.2 28)), (1, .int v1), (2, .int a3)] → W p l e (headSpec wsX11_row rmX11_row).room s m args below meth c H locs 0 0 Q (F0 m 25 ls []) := by
    intro a3 H locs ls h G hl
    have h5 := pp_jmp ej3 h
    clear h h4
    refine lv_iload_n hx hb dX11_row_25 rfl (lv_at hl 2 rfl) ?_
    refine lv_if_eq (tgt := 35) hx hb dX11_row_26 (by decide) (fun c6 => ?_) (fun c6 => ?_)
    · have h7 := pp_t c6 h5
      clear h5
      refine lv_aload_n hx hb dX11_row_35 rfl (lv_at hl 0 rfl) ?_
      refine rr_get X G 25 (by decide) hf59 (v := .ref (g.2.2.2 25)) rfl dX11_row_36 ?_
      refine lv_aload_n hx hb dX11_row_39 rfl (lv_at hl 0 rfl) ?_
      refine rr_get X G 26 (by decide) hf235 (v := .int (q.1 26)) rfl dX11_row_40 ?_
      refine lv_iload_n hx hb dX11_row_43 rfl (lv_at hl 1 rfl) ?_
      obtain ⟨hi8, h9⟩ := pp_ix_ex h7
      clear h7
      obtain ⟨x10, ex10, h11⟩ := pp_lj_ex h9
      clear h9
      refine rr_iast X G ra_25 hi8 ex10 dX11_row_44 (fun H locs G => ?_)
      refine lv_aload_n hx hb dX11_row_45 rfl (lv_at hl 0 rfl) ?_
      refine lv_dup hx hb dX11_row_46 rfl ?_
      refine rr_get X G 26 (by decide) hf235 (v := .int (x10.1 26)) rfl dX11_row_47 ?_
      refine lv_iconst (v := 1) hx hb dX11_row_50 (by decide) ?_
      refine lv_iadd hx hb dX11_row_51 ?_
      obtain ⟨x12, ex12, h13⟩ := pp_lj_ex h11
      clear h11
      refine rr_put X G 26 (by decide) hf235 rfl (ty := .int) (by decide +kernel) rfl rfl (ri_26 g _ _) ex12 dX11_row_52 (fun H locs G => ?_)
      refine lv_aload_n hx hb dX11_row_55 rfl (lv_at hl 0 rfl) ?_
      refine rr_get X G 26 (by decide) hf235 (v := .int (x12.1 26)) rfl dX11_row_56 ?_
      exact rr_iret X hr hlk rfl G h13 hQ dX11_row_59
    · have h14 := pp_f c6 h5
      clear h5
      refine lv_aload_n hx hb dX11_row_29 rfl (lv_at hl 0 rfl) ?_
      refine lv_iload_n hx hb dX11_row_30 rfl (lv_at hl 2 rfl) ?_
      obtain ⟨r15, hc15, h16⟩ := pp_ob_ex h14
      clear h14
      refine rr_cali X G (ctX11_no l g _ _ hc15) (cwV 1 hts gX11_row_X11_no rfl rfl rfl (by decide +kernel) ⟨Nat.le_of_ble_eq_true rfl, Nat.le_of_ble_eq_true rfl⟩) (rest := []) rfl hl.1 rfl (Nat.le_of_ble_eq_true rfl) dX11_row_31 (fun H locs G => ?_)
      exact rr_iret X hr hlk rfl G h16 hQ dX11_row_34
  refine lv_if_ne (tgt := 25) hx hb dX11_row_10 (by decide) (fun c17 => ?_) (fun c17 => ?_)
  · have h18 := pp_f c17 h4
    clear h4
    exact hj3 _ H locs ls h18 G (lv_sub hl [1, 2, 0] rfl)
  · have h19 := pp_t c17 h4
    clear h4
    refine lv_aload_n hx hb dX11_row_13 rfl (lv_at hl 1 rfl) ?_
    refine rr_get X G 26 (by decide) hf235 (v := .int (q.1 26)) rfl dX11_row_14 ?_
    refine lv_bipush (v := 12) hx hb dX11_row_17 (by decide) ?_
    refine lv_icmp_ne (tgt := 25) hx hb dX11_row_19 (by decide) (fun c20 => ?_) (fun c20 => ?_)
    · have h21 := pp_f c20 h19
      clear h19
      exact hj3 _ H locs ls h21 G (lv_sub hl [1, 2, 0] rfl)
    · have h22 := pp_t c20 h19
      clear h19
      refine lv_bipush (v := -6) hx hb dX11_row_22 (by decide) ?_
      refine lv_istore_n (lv' := [(2, .int (-6 : Int32)), (0, .ref (g.2.2.2 28)), (1, .int v1)]) hx hb dX11_row_24 rfl hl (by decide) rfl (fun ls hl => ?_)
      exact hj3 _ H locs ls h22 G (lv_sub hl [1, 2, 0] rfl)
noncomputable def R_clear (q : rr_S) : Option (Int32 × rr_S) := pp_lj ((q.1 26) : Int32) (fun x1 => pp_lj (rr_I q 26 (0 : Int32) : rr_S) (fun x3 => some (x1, x3)))
abbrev rmX11_clear : Room := { frames := 0, cells := 0, slots := 0, locals := 0 }
set_option maxHeartbeats 4000000 in
set_option maxRecDepth 100000 in
theorem ctX11_clear (l : Launch) (g : rr_G) (q : rr_S) {res : (Int32 × rr_S)} (h : R_clear q = some res) : rr_Mi l yX11_clear wsX11_clear rmX11_clear g q [] res := by
  intro sz
  unfold R_clear at h
  refine rr_ofW (by decide) rfl rfl (fun _ z => List.mem_cons_of_mem _ (List.mem_append_right _ z)) (Nat.le_of_ble_eq_true rfl) ?_
  intro p e s m args below meth c ls X hr hlk hsz G hl Q hQ
  subst hsz
  have hx := X.1.1
  have hb := X.1.2.1
  have hown := X.1.2.2.2.1
  have hts := X.1.2.2.2.2
  refine (fun (key : ∀ (H : Heap) (locs : List Loc), rr_H g q s H locs → W p l e (headSpec wsX11_clear rmX11_clear).room s m args below meth c H locs 0 0 Q (F0 m 0 ls [])) => key _ _ G) ?_
  clear G
  intro H locs G
  have hl : lv_has ls 2 [(0, .ref (g.2.2.2 28))] := hl
  have hf235 : Cond.fieldLink RX11 235 (TX11 26).1 (TX11 26).2.1 (TX11 26).2.2.1 ∈ wsX11_clear := by decide +kernel
  refine lv_aload_n hx hb dX11_clear_0 rfl (lv_at hl 0 rfl) ?_
  refine rr_get X G 26 (by decide) hf235 (v := .int (q.1 26)) rfl dX11_clear_1 ?_
  obtain ⟨x1, ex1, h2⟩ := pp_lj_ex h
  clear h
  refine lv_nmi ex1 ?_
  refine lv_istore_n (lv' := [(1, .int x1), (0, .ref (g.2.2.2 28))]) hx hb dX11_clear_4 rfl hl (by decide) rfl (fun ls hl => ?_)
  refine lv_aload_n hx hb dX11_clear_5 rfl (lv_at hl 1 rfl) ?_
  refine lv_iconst (v := 0) hx hb dX11_clear_6 (by decide) ?_
  obtain ⟨x3, ex3, h4⟩ := pp_lj_ex h2
  clear h2
  refine rr_put X G 26 (by decide) hf235 rfl (ty := .int) (by decide +kernel) rfl rfl (ri_26 g _ _) ex3 dX11_clear_7 (fun H locs G => ?_)
  refine lv_iload_n hx hb dX11_clear_10 rfl (lv_at hl 0 rfl) ?_
  exact rr_iret X hr hlk rfl G h4 hQ dX11_clear_11
noncomputable def R_isThrown (q : rr_S) (v1 : Int32) : Option (Int32 × rr_S) := pp_lj ((v1 / (1000 : Int32)) : Int32) (fun x1 => pp_lj (((v1 / (100 : Int32)) - ((v1 / (100 : Int32)) / (10 : Int32)) * (10 : Int32)) : Int32) (fun x3 => (if (2 : Int32) < ((v1 / (10 : Int32)) - ((v1 / (10 : Int32)) / (10 : Int32)) * (10 : Int32)) then some ((0 : Int32), q) else (if (2 : Int32) < (v1 - (v1 / (10 : Int32)) * (10 : Int32)) then some ((0 : Int32), q) else pp_ob (R_isPlayer q x1) (fun r11 => (if r11 = (0 : Int32) then some ((0 : Int32), q) else pp_ob (R_holds q x1) (fun r16 => (if r16 = (0 : Int32) then some ((0 : Int32), q) else pp_ob (R_areAgainst q x1 x3) (fun r21 => (if r21 = (0 : Int32) then some ((0 : Int32), q) else pp_it (fun (self25 : Int32 → Option (Int32 × rr_S)) (a25 : Int32) => pp_ix a25 6 ((if (q.2.1 6 (Int32.toNatClampNeg a25)) = x1 then pp_ob (R_finishes q a25 x3 (v1 - (v1 / (10 : Int32)) * (10 : Int32))) (fun r30 => some ((1 : Int32), r30)) else pp_lj (a25 + 1 : Int32) (fun x33 => self25 x33)))) 200 (0 : Int32)))))))))))
abbrev rmX11_isThrown : Room := { frames := 3, cells := 0, slots := 0, locals := 69 }
set_option maxHeartbeats 4000000 in
set_option maxRecDepth 100000 in
theorem ctX11_isThrown (l : Launch) (g : rr_G) (q : rr_S) (v1 : Int32) {res : (Int32 × rr_S)} (h : R_isThrown q v1 = some res) : rr_Mi l yX11_isThrown wsX11_isThrown rmX11_isThrown g q [.int v1] res := by
  intro sz
  unfold R_isThrown at h
  refine rr_ofW (by decide) rfl rfl (fun _ z => List.mem_cons_of_mem _ (List.mem_append_right _ z)) (Nat.le_of_ble_eq_true rfl) ?_
  intro p e s m args below meth c ls X hr hlk hsz G hl Q hQ
  subst hsz
  have hx := X.1.1
  have hb := X.1.2.1
  have hown := X.1.2.2.2.1
  have hts := X.1.2.2.2.2
  refine (fun (key : ∀ (H : Heap) (locs : List Loc), rr_H g q s H locs → W p l e (headSpec wsX11_isThrown rmX11_isThrown).room s m args below meth c H locs 0 0 Q (F0 m 0 ls [])) => key _ _ G) ?_
  clear G
  intro H locs G
  have hl : lv_has ls 5 [(0, .ref (g.2.2.2 28)), (1, .int v1)] := hl
  have hf28 : Cond.fieldLink RX11 28 (TX11 6).1 (TX11 6).2.1 (TX11 6).2.2.1 ∈ wsX11_isThrown := by decide +kernel
  refine lv_iload_n hx hb dX11_isThrown_0 rfl (lv_at hl 1 rfl) ?_
  refine lv_sipush (v := 1000) hx hb dX11_isThrown_1 (by decide) ?_
  refine lv_idiv hx hb dX11_isThrown_4 (by decide) ?_
  obtain ⟨x1, ex1, h2⟩ := pp_lj_ex h
  clear h
  refine lv_nmi ex1 ?_
  refine lv_istore_n (lv' := [(2, .int x1), (0, .ref (g.2.2.2 28)), (1, .int v1)]) hx hb dX11_isThrown_5 rfl hl (by decide) rfl (fun ls hl => ?_)
  refine lv_iload_n hx hb dX11_isThrown_6 rfl (lv_at hl 2 rfl) ?_
  refine lv_bipush (v := 100) hx hb dX11_isThrown_7 (by decide) ?_
  refine lv_idiv hx hb dX11_isThrown_9 (by decide) ?_
  refine lv_bipush (v := 10) hx hb dX11_isThrown_10 (by decide) ?_
  refine lv_irem hx hb dX11_isThrown_12 (by decide) ?_
  obtain ⟨x3, ex3, h4⟩ := pp_lj_ex h2
  clear h2
  refine lv_nmi ex3 ?_
  refine lv_istore_n (lv' := [(3, .int x3), (2, .int x1), (0, .ref (g.2.2.2 28)), (1, .int v1)]) hx hb dX11_isThrown_13 rfl hl (by decide) rfl (fun ls hl => ?_)
  refine lv_iload_n hx hb dX11_isThrown_14 rfl (lv_at hl 3 rfl) ?_
  refine lv_bipush (v := 10) hx hb dX11_isThrown_15 (by decide) ?_
  refine lv_idiv hx hb dX11_isThrown_17 (by decide) ?_
  refine lv_bipush (v := 10) hx hb dX11_isThrown_18 (by decide) ?_
  refine lv_irem hx hb dX11_isThrown_20 (by decide) ?_
  refine lv_iconst (v := 2) hx hb dX11_isThrown_21 (by decide) ?_
  refine lv_icmp_gt (tgt := 58) hx hb dX11_isThrown_22 (by decide) (fun c5 => ?_) (fun c5 => ?_)
  · have h6 := pp_t c5 h4
    clear h4
    refine lv_iconst (v := 0) hx hb dX11_isThrown_58 (by decide) ?_
    exact rr_iret X hr hlk rfl G h6 hQ dX11_isThrown_59
  · have h7 := pp_f c5 h4
    clear h4
    refine lv_iload_n hx hb dX11_isThrown_25 rfl (lv_at hl 3 rfl) ?_
    refine lv_bipush (v := 10) hx hb dX11_isThrown_26 (by decide) ?_
    refine lv_irem hx hb dX11_isThrown_28 (by decide) ?_
    refine lv_iconst (v := 2) hx hb dX11_isThrown_29 (by decide) ?_
    refine lv_icmp_gt (tgt := 58) hx hb dX11_isThrown_30 (by decide) (fun c8 => ?_) (fun c8 => ?_)
    · have h9 := pp_t c8 h7
      clear h7
      refine lv_iconst (v := 0) hx hb dX11_isThrown_58 (by decide) ?_
      exact rr_iret X hr hlk rfl G h9 hQ dX11_isThrown_59
    · have h10 := pp_f c8 h7
      clear h7
      refine lv_aload_n hx hb dX11_isThrown_33 rfl (lv_at hl 2 rfl) ?_
      refine lv_iload_n hx hb dX11_isThrown_34 rfl (lv_at hl 1 rfl) ?_
      obtain ⟨r11, hc11, h12⟩ := pp_ob_ex h10
      clear h10
      refine rr_cali X G (ctX11_isPlayer l g _ _ hc11) (cwV 1 hts gX11_isThrown_X11_isPlayer rfl rfl rfl (by decide +kernel) ⟨Nat.le_of_ble_eq_true rfl, Nat.le_of_ble_eq_true rfl⟩) (rest := []) rfl hl.1 rfl (Nat.le_of_ble_eq_true rfl) dX11_isThrown_35 (fun H locs G => ?_)
      refine lv_if_eq (tgt := 58) hx hb dX11_isThrown_38 (by decide) (fun c13 => ?_) (fun c13 => ?_)
      · have h14 := pp_t c13 h12
        clear h12
        refine lv_iconst (v := 0) hx hb dX11_isThrown_58 (by decide) ?_
        exact rr_iret X hr hlk rfl G h14 hQ dX11_isThrown_59
      · have h15 := pp_f c13 h12
        clear h12
        refine lv_aload_n hx hb dX11_isThrown_41 rfl (lv_at hl 2 rfl) ?_
        refine lv_iload_n hx hb dX11_isThrown_42 rfl (lv_at hl 1 rfl) ?_
        obtain ⟨r16, hc16, h17⟩ := pp_ob_ex h15
        clear h15
        refine rr_cali X G (ctX11_holds l g _ _ hc16) (cwV 1 hts gX11_isThrown_X11_holds rfl rfl rfl (by decide +kernel) ⟨Nat.le_of_ble_eq_true rfl, Nat.le_of_ble_eq_true rfl⟩) (rest := []) rfl hl.1 rfl (Nat.le_of_ble_eq_true rfl) dX11_isThrown_43 (fun H locs G => ?_)
        refine lv_if_eq (tgt := 58) hx hb dX11_isThrown_46 (by decide) (fun c18 => ?_) (fun c18 => ?_)
        · have h19 := pp_t c18 h17
          clear h17
          refine lv_iconst (v := 0) hx hb dX11_isThrown_58 (by decide) ?_
          exact rr_iret X hr hlk rfl G h19 hQ dX11_isThrown_59
        · have h20 := pp_f c18 h17
          clear h17
          refine lv_aload_n hx hb dX11_isThrown_49 rfl (lv_at hl 2 rfl) ?_
          refine lv_iload_n hx hb dX11_isThrown_50 rfl (lv_at hl 1 rfl) ?_
          refine lv_iload_n hx hb dX11_isThrown_51 rfl (lv_at hl 0 rfl) ?_
          obtain ⟨r21, hc21, h22⟩ := pp_ob_ex h20
          clear h20
          refine rr_cali X G (ctX11_areAgainst l g _ _ _ hc21) (cwV 2 hts gX11_isThrown_X11_areAgainst rfl rfl rfl (by decide +kernel) ⟨Nat.le_of_ble_eq_true rfl, Nat.le_of_ble_eq_true rfl⟩) (rest := []) rfl hl.1 rfl (Nat.le_of_ble_eq_true rfl) dX11_isThrown_52 (fun H locs G => ?_)
          refine lv_if_ne (tgt := 60) hx hb dX11_isThrown_55 (by decide) (fun c23 => ?_) (fun c23 => ?_)
          · have h24 := pp_f c23 h22
            clear h22
            refine lv_iconst (v := 0) hx hb dX11_isThrown_60 (by decide) ?_
            refine lv_istore (lv' := [(4, .int (0 : Int32)), (3, .int x3), (2, .int x1), (0, .ref (g.2.2.2 28)), (1, .int v1)]) hx hb dX11_isThrown_61 hl (by decide) rfl (fun ls hl => ?_)
            refine pp_loop (I := fun (a25 : Int32) => ∀ (H : Heap) (locs : List Loc) (ls : Array Slot), rr_H g q s H locs → lv_has ls 5 [(0, .ref (g.2.2.2 28)), (1, .int v1), (2, .int x1), (3, .int x3), (4, .int a25)] → W p l e (headSpec wsX11_isThrown rmX11_isThrown).room s m args below meth c H locs 0 0 Q (F0 m 63 ls [])) ?_ 200 _ h24 H locs ls G (lv_sub hl [3, 4, 2, 1, 0] rfl)
            clear h24
            intro self25 ih25 a25 h25 H locs ls G hl
            refine lv_aload_n hx hb dX11_isThrown_63 rfl (lv_at hl 0 rfl) ?_
            refine rr_get X G 6 (by decide) hf28 (v := .ref (g.2.2.2 6)) rfl dX11_isThrown_64 ?_
            refine lv_iload hx hb dX11_isThrown_67 (lv_at hl 4 rfl) ?_
            obtain ⟨hi26, h27⟩ := pp_ix_ex h25
            clear h25
            refine rr_iald X G ra_6 hi26 dX11_isThrown_69 ?_
            refine lv_iload_n hx hb dX11_isThrown_70 rfl (lv_at hl 2 rfl) ?_
            refine lv_icmp_eq (tgt := 80) hx hb dX11_isThrown_71 (by decide) (fun c28 => ?_) (fun c28 => ?_)
            · have h29 := pp_t c28 h27
              clear h27
              refine lv_aload_n hx hb dX11_isThrown_80 rfl (lv_at hl 0 rfl) ?_
              refine lv_iload hx hb dX11_isThrown_81 (lv_at hl 4 rfl) ?_
              refine lv_iload_n hx hb dX11_isThrown_83 rfl (lv_at hl 3 rfl) ?_
              refine lv_iload_n hx hb dX11_isThrown_84 rfl (lv_at hl 1 rfl) ?_
              refine lv_bipush (v := 10) hx hb dX11_isThrown_85 (by decide) ?_
              refine lv_irem hx hb dX11_isThrown_87 (by decide) ?_
              obtain ⟨r30, hc30, h31⟩ := pp_ob_ex h29
              clear h29
              refine rr_calv X G (ctX11_finishes l g _ _ _ _ hc30) (cwV 3 hts gX11_isThrown_X11_finishes rfl rfl rfl (by decide +kernel) ⟨Nat.le_of_ble_eq_true rfl, Nat.le_of_ble_eq_true rfl⟩) (rest := []) rfl hl.1 rfl (Nat.le_of_ble_eq_true rfl) dX11_isThrown_88 (fun H locs G => ?_)
              refine lv_iconst (v := 1) hx hb dX11_isThrown_91 (by decide) ?_
              exact rr_iret X hr hlk rfl G h31 hQ dX11_isThrown_92
            · have h32 := pp_f c28 h27
              clear h27
              obtain ⟨x33, ex33, h34⟩ := pp_lj_ex h32
              clear h32
              refine lv_iinc (v := x33) (lv' := [(4, .int x33), (0, .ref (g.2.2.2 28)), (1, .int v1), (2, .int x1), (3, .int x3)]) hx hb dX11_isThrown_74 hl (k := 4) rfl (by rw [ex33]; rfl) (by decide) rfl (fun ls hl => ?_)
              refine lv_goto (tgt := 63) hx hb dX11_isThrown_77 (by decide) ?_
              exact ih25 _ h34 H locs ls G (lv_sub hl [1, 2, 3, 4, 0] rfl)
          · have h35 := pp_t c23 h22
            clear h22
            refine lv_iconst (v := 0) hx hb dX11_isThrown_58 (by decide) ?_
            exact rr_iret X hr hlk rfl G h35 hQ dX11_isThrown_59
noncomputable def R_judge (q : rr_S) : Option (Int32 × rr_S) := pp_ob (R_passesAll q (1 : Int32) (1 : Int32)) (fun r1 => pp_it (fun (self3 : rr_S × Int32 × Int32 → Option (Int32 × rr_S)) (a3 : rr_S × Int32 × Int32) => pp_lj (fun (a4 : Unit) => (pp_ob (R_passesAll a3.1 (1 : Int32) (0 : Int32)) (fun r7 => some (a3.2.1, r7)) : Option (Int32 × rr_S))) (fun j4 => (if (a3.1.1 26) ≤ a3.2.2 then j4 () else (if (0 : Int32) ≤ a3.2.1 then j4 () else pp_ix a3.2.2 12 (pp_ob (R_isThrown a3.1 (a3.1.2.1 25 (Int32.toNatClampNeg a3.2.2))) (fun r17 => pp_lj (fun (a19 : Int32) => (pp_lj (a3.2.2 + 1 : Int32) (fun x22 => self3 (r17.2, a19, x22)) : Option (Int32 × rr_S))) (fun j19 => (if r17.1 = (0 : Int32) then j19 a3.2.2 else j19 a3.2.1)))))))) 200 (r1, (-9 : Int32), (0 : Int32)))
abbrev rmX11_judge : Room := { frames := 4, cells := 0, slots := 0, locals := 93 }
set_option maxHeartbeats 4000000 in
set_option maxRecDepth 100000 in
theorem ctX11_judge (l : Launch) (g : rr_G) (q : rr_S) {res : (Int32 × rr_S)} (h : R_judge q = some res) : rr_Mi l yX11_judge wsX11_judge rmX11_judge g q [] res := by
  intro sz
  unfold R_judge at h
  refine rr_ofW (by decide) rfl rfl (fun _ z => List.mem_cons_of_mem _ (List.mem_append_right _ z)) (Nat.le_of_ble_eq_true rfl) ?_
  intro p e s m args below meth c ls X hr hlk hsz G hl Q hQ
  subst hsz
  have hx := X.1.1
  have hb := X.1.2.1
  have hown := X.1.2.2.2.1
  have hts := X.1.2.2.2.2
  refine (fun (key : ∀ (H : Heap) (locs : List Loc), rr_H g q s H locs → W p l e (headSpec wsX11_judge rmX11_judge).room s m args below meth c H locs 0 0 Q (F0 m 0 ls [])) => key _ _ G) ?_
  clear G
  intro H locs G
  have hl : lv_has ls 3 [(0, .ref (g.2.2.2 28))] := hl
  have hf59 : Cond.fieldLink RX11 59 (TX11 25).1 (TX11 25).2.1 (TX11 25).2.2.1 ∈ wsX11_judge := by decide +kernel
  have hf235 : Cond.fieldLink RX11 235 (TX11 26).1 (TX11 26).2.1 (TX11 26).2.2.1 ∈ wsX11_judge := by decide +kernel
  refine lv_aload_n hx hb dX11_judge_0 rfl (lv_at hl 0 rfl) ?_
  refine lv_iconst (v := 1) hx hb dX11_judge_1 (by decide) ?_
  refine lv_iconst (v := 1) hx hb dX11_judge_2 (by decide) ?_
  obtain ⟨r1, hc1, h2⟩ := pp_ob_ex h
  clear h
  refine rr_calv X G (ctX11_passesAll l g _ _ _ hc1) (cwV 2 hts gX11_judge_X11_passesAll rfl rfl rfl (by decide +kernel) ⟨Nat.le_of_ble_eq_true rfl, Nat.le_of_ble_eq_true rfl⟩) (rest := []) rfl hl.1 rfl (Nat.le_of_ble_eq_true rfl) dX11_judge_3 (fun H locs G => ?_)
  refine lv_bipush (v := -9) hx hb dX11_judge_6 (by decide) ?_
  refine lv_istore_n (lv' := [(1, .int (-9 : Int32)), (0, .ref (g.2.2.2 28))]) hx hb dX11_judge_8 rfl hl (by decide) rfl (fun ls hl => ?_)
  refine lv_iconst (v := 0) hx hb dX11_judge_9 (by decide) ?_
  refine lv_istore_n (lv' := [(2, .int (0 : Int32)), (1, .int (-9 : Int32)), (0, .ref (g.2.2.2 28))]) hx hb dX11_judge_10 rfl hl (by decide) rfl (fun ls hl => ?_)
  refine pp_loop (I := fun (a3 : rr_S × Int32 × Int32) => ∀ (H : Heap) (locs : List Loc) (ls : Array Slot), rr_H g a3.1 s H locs → lv_has ls 3 [(0, .ref (g.2.2.2 28)), (1, .int a3.2.1), (2, .int a3.2.2)] → W p l e (headSpec wsX11_judge rmX11_judge).room s m args below meth c H locs 0 0 Q (F0 m 11 ls [])) ?_ 200 _ h2 H locs ls G (lv_sub hl [2, 1, 0] rfl)
  clear h2
  intro self3 ih3 a3 h3 H locs ls G hl
  refine lv_iload_n hx hb dX11_judge_11 rfl (lv_at hl 2 rfl) ?_
  refine lv_aload_n hx hb dX11_judge_12 rfl (lv_at hl 0 rfl) ?_
  refine rr_get X G 26 (by decide) hf235 (v := .int (a3.1.1 26)) rfl dX11_judge_13 ?_
  obtain ⟨j4, ej4, h5⟩ := pp_lj_ex h3
  clear h3
  have hj4 : ∀ (a4 : Unit) (H : Heap) (locs : List Loc) (ls : Array Slot), j4 a4 = some res → rr_H g a3.1 s H locs → lv_has ls 3 [(0, .ref (g.2.2.2 28)), (1, .int a3.2.1)] → W p l e (headSpec wsX11_judge rmX11_judge).room s m args below meth c H locs 0 0 Q (F0 m 44 ls []) := by
    intro a4 H locs ls h G hl
    have h6 := pp_jmp ej4 h
    clear h h5
    refine lv_aload_n hx hb dX11_judge_44 rfl (lv_at hl 0 rfl) ?_
    refine lv_iconst (v := 1) hx hb dX11_judge_45 (by decide) ?_
    refine lv_iconst (v := 0) hx hb dX11_judge_46 (by decide) ?_
    obtain ⟨r7, hc7, h8⟩ := pp_ob_ex h6
    clear h6
    refine rr_calv X G (ctX11_passesAll l g _ _ _ hc7) (cwV 2 hts gX11_judge_X11_passesAll rfl rfl rfl (by decide +kernel) ⟨Nat.le_of_ble_eq_true rfl, Nat.le_of_ble_eq_true rfl⟩) (rest := []) rfl hl.1 rfl (Nat.le_of_ble_eq_true rfl) dX11_judge_47 (fun H locs G => ?_)
    refine lv_iload_n hx hb dX11_judge_50 rfl (lv_at hl 1 rfl) ?_
    exact rr_iret X hr hlk rfl G h8 hQ dX11_judge_51
  refine lv_icmp_ge (tgt := 44) hx hb dX11_judge_16 (by decide) (fun c9 => ?_) (fun c9 => ?_)
  · have h10 := pp_t c9 h5
    clear h5
    exact hj4 _ H locs ls h10 G (lv_sub hl [0, 1] rfl)
  · have h11 := pp_f c9 h5
    clear h5
    refine lv_iload_n hx hb dX11_judge_19 rfl (lv_at hl 1 rfl) ?_
    refine lv_if_ge (tgt := 44) hx hb dX11_judge_20 (by decide) (fun c12 => ?_) (fun c12 => ?_)
    · have h13 := pp_t c12 h11
      clear h11
      exact hj4 _ H locs ls h13 G (lv_sub hl [0, 1] rfl)
    · have h14 := pp_f c12 h11
      clear h11
      refine lv_aload_n hx hb dX11_judge_23 rfl (lv_at hl 0 rfl) ?_
      refine lv_aload_n hx hb dX11_judge_24 rfl (lv_at hl 0 rfl) ?_
      refine rr_get X G 25 (by decide) hf59 (v := .ref (g.2.2.2 25)) rfl dX11_judge_25 ?_
      refine lv_iload_n hx hb dX11_judge_28 rfl (lv_at hl 2 rfl) ?_
      obtain ⟨hi15, h16⟩ := pp_ix_ex h14
      clear h14
      refine rr_iald X G ra_25 hi15 dX11_judge_29 ?_
      obtain ⟨r17, hc17, h18⟩ := pp_ob_ex h16
      clear h16
      refine rr_cali X G (ctX11_isThrown l g _ _ hc17) (cwV 1 hts gX11_judge_X11_isThrown rfl rfl rfl (by decide +kernel) ⟨Nat.le_of_ble_eq_true rfl, Nat.le_of_ble_eq_true rfl⟩) (rest := []) rfl hl.1 rfl (Nat.le_of_ble_eq_true rfl) dX11_judge_30 (fun H locs G => ?_)
      obtain ⟨j19, ej19, h20⟩ := pp_lj_ex h18
      clear h18
      have hj19 : ∀ (a19 : Int32) (H : Heap) (locs : List Loc) (ls : Array Slot), j19 a19 = some res → rr_H g r17.2 s H locs → lv_has ls 3 [(0, .ref (g.2.2.2 28)), (1, .int a19), (2, .int a3.2.2)] → W p l e (headSpec wsX11_judge rmX11_judge).room s m args below meth c H locs 0 0 Q (F0 m 38 ls []) := by
        intro a19 H locs ls h G hl
        have h21 := pp_jmp ej19 h
        clear h h20
        obtain ⟨x22, ex22, h23⟩ := pp_lj_ex h21
        clear h21
        refine lv_iinc (v := x22) (lv' := [(2, .int x22), (0, .ref (g.2.2.2 28)), (1, .int a19)]) hx hb dX11_judge_38 hl (k := 2) rfl (by rw [ex22]; rfl) (by decide) rfl (fun ls hl => ?_)
        refine lv_goto (tgt := 11) hx hb dX11_judge_41 (by decide) ?_
        exact ih3 _ h23 H locs ls G (lv_sub hl [1, 2, 0] rfl)
      refine lv_if_ne (tgt := 38) hx hb dX11_judge_33 (by decide) (fun c24 => ?_) (fun c24 => ?_)
      · have h25 := pp_f c24 h20
        clear h20
        exact hj19 _ H locs ls h25 G hl
      · have h26 := pp_t c24 h20
        clear h20
        refine lv_iload_n hx hb dX11_judge_36 rfl (lv_at hl 2 rfl) ?_
        refine lv_istore_n (lv' := [(1, .int a3.2.2), (0, .ref (g.2.2.2 28)), (2, .int a3.2.2)]) hx hb dX11_judge_37 rfl hl (by decide) rfl (fun ls hl => ?_)
        exact hj19 _ H locs ls h26 G (lv_sub hl [1, 0, 2] rfl)
noncomputable def R_hereBits (q : rr_S) : Option Int32 := pp_it (fun (self1 : Int32 × Int32 → Option Int32) (a1 : Int32 × Int32) => (if (q.1 9) ≤ a1.2 then some a1.1 else pp_ix a1.2 8 (pp_lj (fun (a7 : Int32) => (pp_lj ((a1.1 ||| a7) : Int32) (fun x10 => pp_lj (a1.2 + 1 : Int32) (fun x12 => self1 (x10, x12))) : Option Int32)) (fun j7 => (if (q.2.1 5 (Int32.toNatClampNeg a1.2)) = (0 : Int32) then j7 ((1 : Int32) <<< (a1.2 &&& 31)) else j7 (0 : Int32)))))) 200 ((0 : Int32), (0 : Int32))
abbrev rmX11_hereBits : Room := { frames := 0, cells := 0, slots := 0, locals := 0 }
set_option maxHeartbeats 4000000 in
set_option maxRecDepth 100000 in
theorem ctX11_hereBits (l : Launch) (g : rr_G) (q : rr_S) {res : Int32} (h : R_hereBits q = some res) : rr_Mi l yX11_hereBits wsX11_hereBits rmX11_hereBits g q [] (res, q) := by
  intro sz
  unfold R_hereBits at h
  refine rr_ofW (by decide) rfl rfl (fun _ z => List.mem_cons_of_mem _ (List.mem_append_right _ z)) (Nat.le_of_ble_eq_true rfl) ?_
  intro p e s m args below meth c ls X hr hlk hsz G hl Q hQ
  subst hsz
  have hx := X.1.1
  have hb := X.1.2.1
  have hown := X.1.2.2.2.1
  have hts := X.1.2.2.2.2
  refine (fun (key : ∀ (H : Heap) (locs : List Loc), rr_H g q s H locs → W p l e (headSpec wsX11_hereBits rmX11_hereBits).room s m args below meth c H locs 0 0 Q (F0 m 0 ls [])) => key _ _ G) ?_
  clear G
  intro H locs G
  have hl : lv_has ls 3 [(0, .ref (g.2.2.2 28))] := hl
  have hf25 : Cond.fieldLink RX11 25 (TX11 5).1 (TX11 5).2.1 (TX11 5).2.2.1 ∈ wsX11_hereBits := by decide +kernel
  have hf65 : Cond.fieldLink RX11 65 (TX11 9).1 (TX11 9).2.1 (TX11 9).2.2.1 ∈ wsX11_hereBits := by decide +kernel
  refine lv_iconst (v := 0) hx hb dX11_hereBits_0 (by decide) ?_
  refine lv_istore_n (lv' := [(1, .int (0 : Int32)), (0, .ref (g.2.2.2 28))]) hx hb dX11_hereBits_1 rfl hl (by decide) rfl (fun ls hl => ?_)
  refine lv_iconst (v := 0) hx hb dX11_hereBits_2 (by decide) ?_
  refine lv_istore_n (lv' := [(2, .int (0 : Int32)), (1, .int (0 : Int32)), (0, .ref (g.2.2.2 28))]) hx hb dX11_hereBits_3 rfl hl (by decide) rfl (fun ls hl => ?_)
  refine pp_loop (I := fun (a1 : Int32 × Int32) => ∀ (H : Heap) (locs : List Loc) (ls : Array Slot), rr_H g q s H locs → lv_has ls 3 [(0, .ref (g.2.2.2 28)), (1, .int a1.1), (2, .int a1.2)] → W p l e (headSpec wsX11_hereBits rmX11_hereBits).room s m args below meth c H locs 0 0 Q (F0 m 4 ls [])) ?_ 200 _ h H locs ls G (lv_sub hl [2, 1, 0] rfl)
  clear h
  intro self1 ih1 a1 h1 H locs ls G hl
  refine lv_iload_n hx hb dX11_hereBits_4 rfl (lv_at hl 2 rfl) ?_
  refine lv_aload_n hx hb dX11_hereBits_5 rfl (lv_at hl 0 rfl) ?_
  refine rr_get X G 9 (by decide) hf65 (v := .int (q.1 9)) rfl dX11_hereBits_6 ?_
  refine lv_icmp_ge (tgt := 37) hx hb dX11_hereBits_9 (by decide) (fun c2 => ?_) (fun c2 => ?_)
  · have h3 := pp_t c2 h1
    clear h1
    refine lv_iload_n hx hb dX11_hereBits_37 rfl (lv_at hl 1 rfl) ?_
    exact rr_iretR X hr hlk rfl G h3 hQ dX11_hereBits_38
  · have h4 := pp_f c2 h1
    clear h1
    refine lv_iload_n hx hb dX11_hereBits_12 rfl (lv_at hl 1 rfl) ?_
    refine lv_aload_n hx hb dX11_hereBits_13 rfl (lv_at hl 0 rfl) ?_
    refine rr_get X G 5 (by decide) hf25 (v := .ref (g.2.2.2 5)) rfl dX11_hereBits_14 ?_
    refine lv_iload_n hx hb dX11_hereBits_17 rfl (lv_at hl 2 rfl) ?_
    obtain ⟨hi5, h6⟩ := pp_ix_ex h4
    clear h4
    refine rr_iald X G ra_5 hi5 dX11_hereBits_18 ?_
    obtain ⟨j7, ej7, h8⟩ := pp_lj_ex h6
    clear h6
    have hj7 : ∀ (a7 : Int32) (H : Heap) (locs : List Loc) (ls : Array Slot), j7 a7 = some res → rr_H g q s H locs → lv_has ls 3 [(0, .ref (g.2.2.2 28)), (2, .int a1.2)] → W p l e (headSpec wsX11_hereBits rmX11_hereBits).room s m args below meth c H locs 0 0 Q (F0 m 29 ls [.int a7, .int a1.1]) := by
      intro a7 H locs ls h G hl
      have h9 := pp_jmp ej7 h
      clear h h8
      refine lv_ior hx hb dX11_hereBits_29 ?_
      obtain ⟨x10, ex10, h11⟩ := pp_lj_ex h9
      clear h9
      refine lv_nmi ex10 ?_
      refine lv_istore_n (lv' := [(1, .int x10), (0, .ref (g.2.2.2 28)), (2, .int a1.2)]) hx hb dX11_hereBits_30 rfl hl (by decide) rfl (fun ls hl => ?_)
      obtain ⟨x12, ex12, h13⟩ := pp_lj_ex h11
      clear h11
      refine lv_iinc (v := x12) (lv' := [(2, .int x12), (1, .int x10), (0, .ref (g.2.2.2 28))]) hx hb dX11_hereBits_31 hl (k := 2) rfl (by rw [ex12]; rfl) (by decide) rfl (fun ls hl => ?_)
      refine lv_goto (tgt := 4) hx hb dX11_hereBits_34 (by decide) ?_
      exact ih1 _ h13 H locs ls G (lv_sub hl [2, 1, 0] rfl)
    refine lv_if_ne (tgt := 28) hx hb dX11_hereBits_19 (by decide) (fun c14 => ?_) (fun c14 => ?_)
    · have h15 := pp_f c14 h8
      clear h8
      refine lv_iconst (v := 0) hx hb dX11_hereBits_28 (by decide) ?_
      exact hj7 _ H locs ls h15 G (lv_sub hl [0, 2] rfl)
    · have h16 := pp_t c14 h8
      clear h8
      refine lv_iconst (v := 1) hx hb dX11_hereBits_22 (by decide) ?_
      refine lv_iload_n hx hb dX11_hereBits_23 rfl (lv_at hl 2 rfl) ?_
      refine lv_ishl hx hb dX11_hereBits_24 ?_
      refine lv_goto (tgt := 29) hx hb dX11_hereBits_25 (by decide) ?_
      exact hj7 _ H locs ls h16 G (lv_sub hl [0, 2] rfl)
noncomputable def R_ends (q : rr_S) : Option (Int32 × rr_S) := pp_ob (R_passesAll q (1 : Int32) (1 : Int32)) (fun r1 => pp_it (fun (self3 : rr_S × Int32 → Option (Int32 × rr_S)) (a3 : rr_S × Int32) => pp_lj (fun (a4 : rr_S) => (pp_ob (R_hereBits a4) (fun r7 => pp_ob (R_passesAll a4 (1 : Int32) (0 : Int32)) (fun r9 => some (r7, r9))) : Option (Int32 × rr_S))) (fun j4 => (if (a3.1.1 26) ≤ a3.2 then j4 a3.1 else pp_ix a3.2 12 (pp_ob (R_isThrown a3.1 (a3.1.2.1 25 (Int32.toNatClampNeg a3.2))) (fun r16 => (if r16.1 = (0 : Int32) then j4 r16.2 else pp_lj (a3.2 + 1 : Int32) (fun x21 => self3 (r16.2, x21)))))))) 200 (r1, (0 : Int32)))
abbrev rmX11_ends : Room := { frames := 4, cells := 0, slots := 0, locals := 93 }
set_option maxHeartbeats 4000000 in
set_option maxRecDepth 100000 in
theorem ctX11_ends (l : Launch) (g : rr_G) (q : rr_S) {res : (Int32 × rr_S)} (h : R_ends q = some res) : rr_Mi l yX11_ends wsX11_ends rmX11_ends g q [] res := by
  intro sz
  unfold R_ends at h
  refine rr_ofW (by decide) rfl rfl (fun _ z => List.mem_cons_of_mem _ (List.mem_append_right _ z)) (Nat.le_of_ble_eq_true rfl) ?_
  intro p e s m args below meth c ls X hr hlk hsz G hl Q hQ
  subst hsz
  have hx := X.1.1
  have hb := X.1.2.1
  have hown := X.1.2.2.2.1
  have hts := X.1.2.2.2.2
  refine (fun (key : ∀ (H : Heap) (locs : List Loc), rr_H g q s H locs → W p l e (headSpec wsX11_ends rmX11_ends).room s m args below meth c H locs 0 0 Q (F0 m 0 ls [])) => key _ _ G) ?_
  clear G
  intro H locs G
  have hl : lv_has ls 3 [(0, .ref (g.2.2.2 28))] := hl
  have hf59 : Cond.fieldLink RX11 59 (TX11 25).1 (TX11 25).2.1 (TX11 25).2.2.1 ∈ wsX11_ends := by decide +kernel
  have hf235 : Cond.fieldLink RX11 235 (TX11 26).1 (TX11 26).2.1 (TX11 26).2.2.1 ∈ wsX11_ends := by decide +kernel
  refine lv_aload_n hx hb dX11_ends_0 rfl (lv_at hl 0 rfl) ?_
  refine lv_iconst (v := 1) hx hb dX11_ends_1 (by decide) ?_
  refine lv_iconst (v := 1) hx hb dX11_ends_2 (by decide) ?_
  obtain ⟨r1, hc1, h2⟩ := pp_ob_ex h
  clear h
  refine rr_calv X G (ctX11_passesAll l g _ _ _ hc1) (cwV 2 hts gX11_ends_X11_passesAll rfl rfl rfl (by decide +kernel) ⟨Nat.le_of_ble_eq_true rfl, Nat.le_of_ble_eq_true rfl⟩) (rest := []) rfl hl.1 rfl (Nat.le_of_ble_eq_true rfl) dX11_ends_3 (fun H locs G => ?_)
  refine lv_iconst (v := 0) hx hb dX11_ends_6 (by decide) ?_
  refine lv_istore_n (lv' := [(1, .int (0 : Int32)), (0, .ref (g.2.2.2 28))]) hx hb dX11_ends_7 rfl hl (by decide) rfl (fun ls hl => ?_)
  refine pp_loop (I := fun (a3 : rr_S × Int32) => ∀ (H : Heap) (locs : List Loc) (ls : Array Slot), rr_H g a3.1 s H locs → lv_has ls 3 [(0, .ref (g.2.2.2 28)), (1, .int a3.2)] → W p l e (headSpec wsX11_ends rmX11_ends).room s m args below meth c H locs 0 0 Q (F0 m 8 ls [])) ?_ 200 _ h2 H locs ls G (lv_sub hl [1, 0] rfl)
  clear h2
  intro self3 ih3 a3 h3 H locs ls G hl
  refine lv_iload_n hx hb dX11_ends_8 rfl (lv_at hl 1 rfl) ?_
  refine lv_aload_n hx hb dX11_ends_9 rfl (lv_at hl 0 rfl) ?_
  refine rr_get X G 26 (by decide) hf235 (v := .int (a3.1.1 26)) rfl dX11_ends_10 ?_
  obtain ⟨j4, ej4, h5⟩ := pp_lj_ex h3
  clear h3
  have hj4 : ∀ (a4 : rr_S) (H : Heap) (locs : List Loc) (ls : Array Slot), j4 a4 = some res → rr_H g a4 s H locs → lv_has ls 3 [(0, .ref (g.2.2.2 28))] → W p l e (headSpec wsX11_ends rmX11_ends).room s m args below meth c H locs 0 0 Q (F0 m 35 ls []) := by
    intro a4 H locs ls h G hl
    have h6 := pp_jmp ej4 h
    clear h h5
    refine lv_aload_n hx hb dX11_ends_35 rfl (lv_at hl 0 rfl) ?_
    obtain ⟨r7, hc7, h8⟩ := pp_ob_ex h6
    clear h6
    refine rr_cali X G (ctX11_hereBits l g _ hc7) (cwV 0 hts gX11_ends_X11_hereBits rfl rfl rfl (by decide +kernel) ⟨Nat.le_of_ble_eq_true rfl, Nat.le_of_ble_eq_true rfl⟩) (rest := []) rfl hl.1 rfl (Nat.le_of_ble_eq_true rfl) dX11_ends_36 (fun H locs G => ?_)
    refine lv_istore_n (lv' := [(2, .int r7), (0, .ref (g.2.2.2 28))]) hx hb dX11_ends_39 rfl hl (by decide) rfl (fun ls hl => ?_)
    refine lv_aload_n hx hb dX11_ends_40 rfl (lv_at hl 1 rfl) ?_
    refine lv_iconst (v := 1) hx hb dX11_ends_41 (by decide) ?_
    refine lv_iconst (v := 0) hx hb dX11_ends_42 (by decide) ?_
    obtain ⟨r9, hc9, h10⟩ := pp_ob_ex h8
    clear h8
    refine rr_calv X G (ctX11_passesAll l g _ _ _ hc9) (cwV 2 hts gX11_ends_X11_passesAll rfl rfl rfl (by decide +kernel) ⟨Nat.le_of_ble_eq_true rfl, Nat.le_of_ble_eq_true rfl⟩) (rest := []) rfl hl.1 rfl (Nat.le_of_ble_eq_true rfl) dX11_ends_43 (fun H locs G => ?_)
    refine lv_iload_n hx hb dX11_ends_46 rfl (lv_at hl 0 rfl) ?_
    exact rr_iret X hr hlk rfl G h10 hQ dX11_ends_47
  refine lv_icmp_ge (tgt := 35) hx hb dX11_ends_13 (by decide) (fun c11 => ?_) (fun c11 => ?_)
  · have h12 := pp_t c11 h5
    clear h5
    exact hj4 _ H locs ls h12 G (lv_sub hl [0] rfl)
  · have h13 := pp_f c11 h5
    clear h5
    refine lv_aload_n hx hb dX11_ends_16 rfl (lv_at hl 0 rfl) ?_
    refine lv_aload_n hx hb dX11_ends_17 rfl (lv_at hl 0 rfl) ?_
    refine rr_get X G 25 (by decide) hf59 (v := .ref (g.2.2.2 25)) rfl dX11_ends_18 ?_
    refine lv_iload_n hx hb dX11_ends_21 rfl (lv_at hl 1 rfl) ?_
    obtain ⟨hi14, h15⟩ := pp_ix_ex h13
    clear h13
    refine rr_iald X G ra_25 hi14 dX11_ends_22 ?_
    obtain ⟨r16, hc16, h17⟩ := pp_ob_ex h15
    clear h15
    refine rr_cali X G (ctX11_isThrown l g _ _ hc16) (cwV 1 hts gX11_ends_X11_isThrown rfl rfl rfl (by decide +kernel) ⟨Nat.le_of_ble_eq_true rfl, Nat.le_of_ble_eq_true rfl⟩) (rest := []) rfl hl.1 rfl (Nat.le_of_ble_eq_true rfl) dX11_ends_23 (fun H locs G => ?_)
    refine lv_if_eq (tgt := 35) hx hb dX11_ends_26 (by decide) (fun c18 => ?_) (fun c18 => ?_)
    · have h19 := pp_t c18 h17
      clear h17
      exact hj4 _ H locs ls h19 G (lv_sub hl [0] rfl)
    · have h20 := pp_f c18 h17
      clear h17
      obtain ⟨x21, ex21, h22⟩ := pp_lj_ex h20
      clear h20
      refine lv_iinc (v := x21) (lv' := [(1, .int x21), (0, .ref (g.2.2.2 28))]) hx hb dX11_ends_29 hl (k := 1) rfl (by rw [ex21]; rfl) (by decide) rfl (fun ls hl => ?_)
      refine lv_goto (tgt := 8) hx hb dX11_ends_32 (by decide) ?_
      exact ih3 _ h22 H locs ls G (lv_sub hl [1, 0] rfl)
noncomputable def R_whose (q : rr_S) (v1 : Int32) : Option (Int32 × rr_S) := pp_ob (R_isPlayer q v1) (fun r1 => pp_lj (fun (a3 : Int32) => ((if a3 = (0 : Int32) then pp_it (fun (self8 : Int32 × Int32 → Option (Int32 × rr_S)) (a8 : Int32 × Int32) => (if (q.1 9) ≤ a8.2 then some (a8.1, q) else pp_ob (R_areAgainst q a8.2 v1) (fun r12 => pp_lj (fun (a14 : Int32) => (pp_lj ((a8.1 ||| a14) : Int32) (fun x17 => pp_lj (a8.2 + 1 : Int32) (fun x19 => self8 (x17, x19))) : Option (Int32 × rr_S))) (fun j14 => pp_lj (fun (a21 : Unit) => (j14 (0 : Int32) : Option (Int32 × rr_S))) (fun j21 => (if r12 = (0 : Int32) then j21 () else pp_ob (R_holds q a8.2) (fun r27 => (if r27 = (0 : Int32) then j21 () else j14 ((1 : Int32) <<< (a8.2 &&& 31)))))))))) 200 ((0 : Int32), (0 : Int32)) else pp_ob (R_no q a3) (fun r33 => some (r33.1, r33.2))) : Option (Int32 × rr_S))) (fun j3 => (if r1 = (0 : Int32) then j3 (-1 : Int32) else pp_ob (R_isHere q v1) (fun r37 => (if r37 = (0 : Int32) then j3 (-3 : Int32) else j3 (0 : Int32))))))
abbrev rmX11_whose : Room := { frames := 3, cells := 0, slots := 0, locals := 64 }
set_option maxHeartbeats 4000000 in
set_option maxRecDepth 100000 in
theorem ctX11_whose (l : Launch) (g : rr_G) (q : rr_S) (v1 : Int32) {res : (Int32 × rr_S)} (h : R_whose q v1 = some res) : rr_Mi l yX11_whose wsX11_whose rmX11_whose g q [.int v1] res := by
  intro sz
  unfold R_whose at h
  refine rr_ofW (by decide) rfl rfl (fun _ z => List.mem_cons_of_mem _ (List.mem_append_right _ z)) (Nat.le_of_ble_eq_true rfl) ?_
  intro p e s m args below meth c ls X hr hlk hsz G hl Q hQ
  subst hsz
  have hx := X.1.1
  have hb := X.1.2.1
  have hown := X.1.2.2.2.1
  have hts := X.1.2.2.2.2
  refine (fun (key : ∀ (H : Heap) (locs : List Loc), rr_H g q s H locs → W p l e (headSpec wsX11_whose rmX11_whose).room s m args below meth c H locs 0 0 Q (F0 m 0 ls [])) => key _ _ G) ?_
  clear G
  intro H locs G
  have hl : lv_has ls 5 [(0, .ref (g.2.2.2 28)), (1, .int v1)] := hl
  have hf65 : Cond.fieldLink RX11 65 (TX11 9).1 (TX11 9).2.1 (TX11 9).2.2.1 ∈ wsX11_whose := by decide +kernel
  refine lv_aload_n hx hb dX11_whose_0 rfl (lv_at hl 0 rfl) ?_
  refine lv_iload_n hx hb dX11_whose_1 rfl (lv_at hl 1 rfl) ?_
  obtain ⟨r1, hc1, h2⟩ := pp_ob_ex h
  clear h
  refine rr_cali X G (ctX11_isPlayer l g _ _ hc1) (cwV 1 hts gX11_whose_X11_isPlayer rfl rfl rfl (by decide +kernel) ⟨Nat.le_of_ble_eq_true rfl, Nat.le_of_ble_eq_true rfl⟩) (rest := []) rfl hl.1 rfl (Nat.le_of_ble_eq_true rfl) dX11_whose_2 (fun H locs G => ?_)
  obtain ⟨j3, ej3, h4⟩ := pp_lj_ex h2
  clear h2
  have hj3 : ∀ (a3 : Int32) (H : Heap) (locs : List Loc) (ls : Array Slot), j3 a3 = some res → rr_H g q s H locs → lv_has ls 5 [(0, .ref (g.2.2.2 28)), (1, .int v1)] → W p l e (headSpec wsX11_whose rmX11_whose).room s m args below meth c H locs 0 0 Q (F0 m 26 ls [.int a3]) := by
    intro a3 H locs ls h G hl
    have h5 := pp_jmp ej3 h
    clear h h4
    refine lv_istore_n (lv' := [(2, .int a3), (0, .ref (g.2.2.2 28)), (1, .int v1)]) hx hb dX11_whose_26 rfl hl (by decide) rfl (fun ls hl => ?_)
    refine lv_iload_n hx hb dX11_whose_27 rfl (lv_at hl 0 rfl) ?_
    refine lv_if_eq (tgt := 37) hx hb dX11_whose_28 (by decide) (fun c6 => ?_) (fun c6 => ?_)
    · have h7 := pp_t c6 h5
      clear h5
      refine lv_iconst (v := 0) hx hb dX11_whose_37 (by decide) ?_
      refine lv_istore_n (lv' := [(3, .int (0 : Int32)), (2, .int a3), (0, .ref (g.2.2.2 28)), (1, .int v1)]) hx hb dX11_whose_38 rfl hl (by decide) rfl (fun ls hl => ?_)
      refine lv_iconst (v := 0) hx hb dX11_whose_39 (by decide) ?_
      refine lv_istore (lv' := [(4, .int (0 : Int32)), (3, .int (0 : Int32)), (2, .int a3), (0, .ref (g.2.2.2 28)), (1, .int v1)]) hx hb dX11_whose_40 hl (by decide) rfl (fun ls hl => ?_)
      refine pp_loop (I := fun (a8 : Int32 × Int32) => ∀ (H : Heap) (locs : List Loc) (ls : Array Slot), rr_H g q s H locs → lv_has ls 5 [(0, .ref (g.2.2.2 28)), (1, .int v1), (3, .int a8.1), (4, .int a8.2)] → W p l e (headSpec wsX11_whose rmX11_whose).room s m args below meth c H locs 0 0 Q (F0 m 42 ls [])) ?_ 200 _ h7 H locs ls G (lv_sub hl [3, 4, 1, 0] rfl)
      clear h7
      intro self8 ih8 a8 h8 H locs ls G hl
      refine lv_iload hx hb dX11_whose_42 (lv_at hl 3 rfl) ?_
      refine lv_aload_n hx hb dX11_whose_44 rfl (lv_at hl 0 rfl) ?_
      refine rr_get X G 9 (by decide) hf65 (v := .int (q.1 9)) rfl dX11_whose_45 ?_
      refine lv_icmp_ge (tgt := 87) hx hb dX11_whose_48 (by decide) (fun c9 => ?_) (fun c9 => ?_)
      · have h10 := pp_t c9 h8
        clear h8
        refine lv_iload_n hx hb dX11_whose_87 rfl (lv_at hl 2 rfl) ?_
        exact rr_iret X hr hlk rfl G h10 hQ dX11_whose_88
      · have h11 := pp_f c9 h8
        clear h8
        refine lv_iload_n hx hb dX11_whose_51 rfl (lv_at hl 2 rfl) ?_
        refine lv_aload_n hx hb dX11_whose_52 rfl (lv_at hl 0 rfl) ?_
        refine lv_iload hx hb dX11_whose_53 (lv_at hl 3 rfl) ?_
        refine lv_iload_n hx hb dX11_whose_55 rfl (lv_at hl 1 rfl) ?_
        obtain ⟨r12, hc12, h13⟩ := pp_ob_ex h11
        clear h11
        refine rr_cali X G (ctX11_areAgainst l g _ _ _ hc12) (cwV 2 hts gX11_whose_X11_areAgainst rfl rfl rfl (by decide +kernel) ⟨Nat.le_of_ble_eq_true rfl, Nat.le_of_ble_eq_true rfl⟩) (rest := [.int a8.1]) rfl hl.1 rfl (Nat.le_of_ble_eq_true rfl) dX11_whose_56 (fun H locs G => ?_)
        obtain ⟨j14, ej14, h15⟩ := pp_lj_ex h13
        clear h13
        have hj14 : ∀ (a14 : Int32) (H : Heap) (locs : List Loc) (ls : Array Slot), j14 a14 = some res → rr_H g q s H locs → lv_has ls 5 [(0, .ref (g.2.2.2 28)), (1, .int v1), (4, .int a8.2)] → W p l e (headSpec wsX11_whose rmX11_whose).room s m args below meth c H locs 0 0 Q (F0 m 79 ls [.int a14, .int a8.1]) := by
          intro a14 H locs ls h G hl
          have h16 := pp_jmp ej14 h
          clear h h15
          refine lv_ior hx hb dX11_whose_79 ?_
          obtain ⟨x17, ex17, h18⟩ := pp_lj_ex h16
          clear h16
          refine lv_nmi ex17 ?_
          refine lv_istore_n (lv' := [(3, .int x17), (0, .ref (g.2.2.2 28)), (1, .int v1), (4, .int a8.2)]) hx hb dX11_whose_80 rfl hl (by decide) rfl (fun ls hl => ?_)
          obtain ⟨x19, ex19, h20⟩ := pp_lj_ex h18
          clear h18
          refine lv_iinc (v := x19) (lv' := [(4, .int x19), (3, .int x17), (0, .ref (g.2.2.2 28)), (1, .int v1)]) hx hb dX11_whose_81 hl (k := 3) rfl (by rw [ex19]; rfl) (by decide) rfl (fun ls hl => ?_)
          refine lv_goto (tgt := 42) hx hb dX11_whose_84 (by decide) ?_
          exact ih8 _ h20 H locs ls G (lv_sub hl [2, 3, 1, 0] rfl)
        obtain ⟨j21, ej21, h22⟩ := pp_lj_ex h15
        clear h15
        have hj21 : ∀ (a21 : Unit) (H : Heap) (locs : List Loc) (ls : Array Slot), j21 a21 = some res → rr_H g q s H locs → lv_has ls 5 [(0, .ref (g.2.2.2 28)), (1, .int v1), (4, .int a8.2)] → W p l e (headSpec wsX11_whose rmX11_whose).room s m args below meth c H locs 0 0 Q (F0 m 78 ls [.int a8.1]) := by
          intro a21 H locs ls h G hl
          have h23 := pp_jmp ej21 h
          clear h h22
          refine lv_iconst (v := 0) hx hb dX11_whose_78 (by decide) ?_
          exact hj14 _ H locs ls h23 G hl
        refine lv_if_eq (tgt := 78) hx hb dX11_whose_59 (by decide) (fun c24 => ?_) (fun c24 => ?_)
        · have h25 := pp_t c24 h22
          clear h22
          exact hj21 _ H locs ls h25 G (lv_sub hl [0, 1, 3] rfl)
        · have h26 := pp_f c24 h22
          clear h22
          refine lv_aload_n hx hb dX11_whose_62 rfl (lv_at hl 0 rfl) ?_
          refine lv_iload hx hb dX11_whose_63 (lv_at hl 3 rfl) ?_
          obtain ⟨r27, hc27, h28⟩ := pp_ob_ex h26
          clear h26
          refine rr_cali X G (ctX11_holds l g _ _ hc27) (cwV 1 hts gX11_whose_X11_holds rfl rfl rfl (by decide +kernel) ⟨Nat.le_of_ble_eq_true rfl, Nat.le_of_ble_eq_true rfl⟩) (rest := [.int a8.1]) rfl hl.1 rfl (Nat.le_of_ble_eq_true rfl) dX11_whose_65 (fun H locs G => ?_)
          refine lv_if_eq (tgt := 78) hx hb dX11_whose_68 (by decide) (fun c29 => ?_) (fun c29 => ?_)
          · have h30 := pp_t c29 h28
            clear h28
            exact hj21 _ H locs ls h30 G (lv_sub hl [0, 1, 3] rfl)
          · have h31 := pp_f c29 h28
            clear h28
            refine lv_iconst (v := 1) hx hb dX11_whose_71 (by decide) ?_
            refine lv_iload hx hb dX11_whose_72 (lv_at hl 3 rfl) ?_
            refine lv_ishl hx hb dX11_whose_74 ?_
            refine lv_goto (tgt := 79) hx hb dX11_whose_75 (by decide) ?_
            exact hj14 _ H locs ls h31 G (lv_sub hl [0, 1, 3] rfl)
    · have h32 := pp_f c6 h5
      clear h5
      refine lv_aload_n hx hb dX11_whose_31 rfl (lv_at hl 1 rfl) ?_
      refine lv_iload_n hx hb dX11_whose_32 rfl (lv_at hl 0 rfl) ?_
      obtain ⟨r33, hc33, h34⟩ := pp_ob_ex h32
      clear h32
      refine rr_cali X G (ctX11_no l g _ _ hc33) (cwV 1 hts gX11_whose_X11_no rfl rfl rfl (by decide +kernel) ⟨Nat.le_of_ble_eq_true rfl, Nat.le_of_ble_eq_true rfl⟩) (rest := []) rfl hl.1 rfl (Nat.le_of_ble_eq_true rfl) dX11_whose_33 (fun H locs G => ?_)
      exact rr_iret X hr hlk rfl G h34 hQ dX11_whose_36
  refine lv_if_ne (tgt := 12) hx hb dX11_whose_5 (by decide) (fun c35 => ?_) (fun c35 => ?_)
  · have h36 := pp_f c35 h4
    clear h4
    refine lv_aload_n hx hb dX11_whose_12 rfl (lv_at hl 0 rfl) ?_
    refine lv_iload_n hx hb dX11_whose_13 rfl (lv_at hl 1 rfl) ?_
    obtain ⟨r37, hc37, h38⟩ := pp_ob_ex h36
    clear h36
    refine rr_cali X G (ctX11_isHere l g _ _ hc37) (cwV 1 hts gX11_whose_X11_isHere rfl rfl rfl (by decide +kernel) ⟨Nat.le_of_ble_eq_true rfl, Nat.le_of_ble_eq_true rfl⟩) (rest := []) rfl hl.1 rfl (Nat.le_of_ble_eq_true rfl) dX11_whose_14 (fun H locs G => ?_)
    refine lv_if_ne (tgt := 25) hx hb dX11_whose_17 (by decide) (fun c39 => ?_) (fun c39 => ?_)
    · have h40 := pp_f c39 h38
      clear h38
      refine lv_iconst (v := 0) hx hb dX11_whose_25 (by decide) ?_
      exact hj3 _ H locs ls h40 G hl
    · have h41 := pp_t c39 h38
      clear h38
      refine lv_bipush (v := -3) hx hb dX11_whose_20 (by decide) ?_
      refine lv_goto (tgt := 26) hx hb dX11_whose_22 (by decide) ?_
      exact hj3 _ H locs ls h41 G hl
  · have h42 := pp_t c35 h4
    clear h4
    refine lv_iconst (v := -1) hx hb dX11_whose_8 (by decide) ?_
    refine lv_goto (tgt := 26) hx hb dX11_whose_9 (by decide) ?_
    exact hj3 _ H locs ls h42 G hl
noncomputable def R_waits (q : rr_S) (v1 : Int32) (v2 : Int32) : Option (Int32 × rr_S) := pp_ob (R_isIn v1 (0 : Int32) (1 : Int32)) (fun r1 => pp_lj (fun (a3 : Int32) => ((if a3 = (0 : Int32) then pp_it (fun (self8 : Int32 → Option (Int32 × rr_S)) (a8 : Int32) => (if (q.1 9) ≤ a8 then some ((-9 : Int32), q) else pp_it (fun (self12 : Int32 × Int32 → Option (Int32 × rr_S)) (a12 : Int32 × Int32) => (if (q.1 9) ≤ a12.2 then pp_ix a8 8 (pp_lj (fun (a17 : Unit) => (pp_lj (a8 + 1 : Int32) (fun x20 => self8 x20) : Option (Int32 × rr_S))) (fun j17 => (if (q.2.1 1 (Int32.toNatClampNeg a8)) = v1 then (if (q.2.1 5 (Int32.toNatClampNeg a8)) ≤ (0 : Int32) then j17 () else (if a12.1 = v2 then some (a8, q) else j17 ())) else j17 ()))) else pp_ix a12.2 8 (pp_lj (fun (a34 : Int32) => (pp_lj ((a12.1 + a34) : Int32) (fun x37 => pp_lj (a12.2 + 1 : Int32) (fun x39 => self12 (x37, x39))) : Option (Int32 × rr_S))) (fun j34 => pp_lj (fun (a41 : Unit) => (j34 (0 : Int32) : Option (Int32 × rr_S))) (fun j41 => (if (q.2.1 1 (Int32.toNatClampNeg a12.2)) = v1 then (if (q.2.1 5 (Int32.toNatClampNeg a12.2)) ≤ (0 : Int32) then j41 () else pp_ix a8 8 ((if (q.2.1 5 (Int32.toNatClampNeg a8)) ≤ (q.2.1 5 (Int32.toNatClampNeg a12.2)) then j41 () else j34 (1 : Int32)))) else j41 ())))))) 200 ((0 : Int32), (0 : Int32)))) 200 (0 : Int32) else pp_ob (R_no q a3) (fun r56 => some (r56.1, r56.2))) : Option (Int32 × rr_S))) (fun j3 => (if r1 = (0 : Int32) then j3 (-1 : Int32) else pp_ob (R_bound v2 (0 : Int32) (7 : Int32)) (fun r60 => j3 r60))))
abbrev rmX11_waits : Room := { frames := 1, cells := 0, slots := 0, locals := 22 }
set_option maxHeartbeats 4000000 in
set_option maxRecDepth 100000 in
theorem ctX11_waits (l : Launch) (g : rr_G) (q : rr_S) (v1 : Int32) (v2 : Int32) {res : (Int32 × rr_S)} (h : R_waits q v1 v2 = some res) : rr_Mi l yX11_waits wsX11_waits rmX11_waits g q [.int v1, .int v2] res := by
  intro sz
  unfold R_waits at h
  refine rr_ofW (by decide) rfl rfl (fun _ z => List.mem_cons_of_mem _ (List.mem_append_right _ z)) (Nat.le_of_ble_eq_true rfl) ?_
  intro p e s m args below meth c ls X hr hlk hsz G hl Q hQ
  subst hsz
  have hx := X.1.1
  have hb := X.1.2.1
  have hown := X.1.2.2.2.1
  have hts := X.1.2.2.2.2
  refine (fun (key : ∀ (H : Heap) (locs : List Loc), rr_H g q s H locs → W p l e (headSpec wsX11_waits rmX11_waits).room s m args below meth c H locs 0 0 Q (F0 m 0 ls [])) => key _ _ G) ?_
  clear G
  intro H locs G
  have hl : lv_has ls 7 [(0, .ref (g.2.2.2 28)), (1, .int v1), (2, .int v2)] := hl
  have hf13 : Cond.fieldLink RX11 13 (TX11 1).1 (TX11 1).2.1 (TX11 1).2.2.1 ∈ wsX11_waits := by decide +kernel
  have hf25 : Cond.fieldLink RX11 25 (TX11 5).1 (TX11 5).2.1 (TX11 5).2.2.1 ∈ wsX11_waits := by decide +kernel
  have hf65 : Cond.fieldLink RX11 65 (TX11 9).1 (TX11 9).2.1 (TX11 9).2.2.1 ∈ wsX11_waits := by decide +kernel
  refine lv_iload_n hx hb dX11_waits_0 rfl (lv_at hl 1 rfl) ?_
  refine lv_iconst (v := 0) hx hb dX11_waits_1 (by decide) ?_
  refine lv_iconst (v := 1) hx hb dX11_waits_2 (by decide) ?_
  obtain ⟨r1, hc1, h2⟩ := pp_ob_ex h
  clear h
  refine rr_csi X G (ctX11_isIn l _ _ _ hc1) (va_cwS 3 hts gX11_waits_X11_isIn rfl rfl rfl (by decide +kernel) ⟨Nat.le_of_ble_eq_true rfl, Nat.le_of_ble_eq_true rfl⟩) (rest := []) rfl hl.1 rfl (Nat.le_of_ble_eq_true rfl) dX11_waits_3 (fun H locs G => ?_)
  obtain ⟨j3, ej3, h4⟩ := pp_lj_ex h2
  clear h2
  have hj3 : ∀ (a3 : Int32) (H : Heap) (locs : List Loc) (ls : Array Slot), j3 a3 = some res → rr_H g q s H locs → lv_has ls 7 [(0, .ref (g.2.2.2 28)), (1, .int v1), (2, .int v2)] → W p l e (headSpec wsX11_waits rmX11_waits).room s m args below meth c H locs 0 0 Q (F0 m 20 ls [.int a3]) := by
    intro a3 H locs ls h G hl
    have h5 := pp_jmp ej3 h
    clear h h4
    refine lv_istore_n (lv' := [(3, .int a3), (0, .ref (g.2.2.2 28)), (1, .int v1), (2, .int v2)]) hx hb dX11_waits_20 rfl hl (by decide) rfl (fun ls hl => ?_)
    refine lv_iload_n hx hb dX11_waits_21 rfl (lv_at hl 0 rfl) ?_
    refine lv_if_eq (tgt := 31) hx hb dX11_waits_22 (by decide) (fun c6 => ?_) (fun c6 => ?_)
    · have h7 := pp_t c6 h5
      clear h5
      refine lv_iconst (v := 0) hx hb dX11_waits_31 (by decide) ?_
      refine lv_istore (lv' := [(4, .int (0 : Int32)), (3, .int a3), (0, .ref (g.2.2.2 28)), (1, .int v1), (2, .int v2)]) hx hb dX11_waits_32 hl (by decide) rfl (fun ls hl => ?_)
      refine pp_loop (I := fun (a8 : Int32) => ∀ (H : Heap) (locs : List Loc) (ls : Array Slot), rr_H g q s H locs → lv_has ls 7 [(0, .ref (g.2.2.2 28)), (1, .int v1), (2, .int v2), (4, .int a8)] → W p l e (headSpec wsX11_waits rmX11_waits).room s m args below meth c H locs 0 0 Q (F0 m 34 ls [])) ?_ 200 _ h7 H locs ls G (lv_sub hl [2, 3, 4, 0] rfl)
      clear h7
      intro self8 ih8 a8 h8 H locs ls G hl
      refine lv_iload hx hb dX11_waits_34 (lv_at hl 3 rfl) ?_
      refine lv_aload_n hx hb dX11_waits_36 rfl (lv_at hl 0 rfl) ?_
      refine rr_get X G 9 (by decide) hf65 (v := .int (q.1 9)) rfl dX11_waits_37 ?_
      refine lv_icmp_ge (tgt := 148) hx hb dX11_waits_40 (by decide) (fun c9 => ?_) (fun c9 => ?_)
      · have h10 := pp_t c9 h8
        clear h8
        refine lv_bipush (v := -9) hx hb dX11_waits_148 (by decide) ?_
        exact rr_iret X hr hlk rfl G h10 hQ dX11_waits_150
      · have h11 := pp_f c9 h8
        clear h8
        refine lv_iconst (v := 0) hx hb dX11_waits_43 (by decide) ?_
        refine lv_istore (lv' := [(5, .int (0 : Int32)), (0, .ref (g.2.2.2 28)), (1, .int v1), (2, .int v2), (4, .int a8)]) hx hb dX11_waits_44 hl (by decide) rfl (fun ls hl => ?_)
        refine lv_iconst (v := 0) hx hb dX11_waits_46 (by decide) ?_
        refine lv_istore (lv' := [(6, .int (0 : Int32)), (5, .int (0 : Int32)), (0, .ref (g.2.2.2 28)), (1, .int v1), (2, .int v2), (4, .int a8)]) hx hb dX11_waits_47 hl (by decide) rfl (fun ls hl => ?_)
        refine pp_loop (I := fun (a12 : Int32 × Int32) => ∀ (H : Heap) (locs : List Loc) (ls : Array Slot), rr_H g q s H locs → lv_has ls 7 [(0, .ref (g.2.2.2 28)), (1, .int v1), (2, .int v2), (4, .int a8), (5, .int a12.1), (6, .int a12.2)] → W p l e (headSpec wsX11_waits rmX11_waits).room s m args below meth c H locs 0 0 Q (F0 m 49 ls [])) ?_ 200 _ h11 H locs ls G (lv_sub hl [2, 3, 4, 5, 1, 0] rfl)
        clear h11
        intro self12 ih12 a12 h12 H locs ls G hl
        refine lv_iload hx hb dX11_waits_49 (lv_at hl 5 rfl) ?_
        refine lv_aload_n hx hb dX11_waits_51 rfl (lv_at hl 0 rfl) ?_
        refine rr_get X G 9 (by decide) hf65 (v := .int (q.1 9)) rfl dX11_waits_52 ?_
        refine lv_icmp_ge (tgt := 112) hx hb dX11_waits_55 (by decide) (fun c13 => ?_) (fun c13 => ?_)
        · have h14 := pp_t c13 h12
          clear h12
          refine lv_aload_n hx hb dX11_waits_112 rfl (lv_at hl 0 rfl) ?_
          refine rr_get X G 1 (by decide) hf13 (v := .ref (g.2.2.2 1)) rfl dX11_waits_113 ?_
          refine lv_iload hx hb dX11_waits_116 (lv_at hl 3 rfl) ?_
          obtain ⟨hi15, h16⟩ := pp_ix_ex h14
          clear h14
          refine rr_iald X G ra_1 hi15 dX11_waits_118 ?_
          refine lv_iload_n hx hb dX11_waits_119 rfl (lv_at hl 1 rfl) ?_
          obtain ⟨j17, ej17, h18⟩ := pp_lj_ex h16
          clear h16
          have hj17 : ∀ (a17 : Unit) (H : Heap) (locs : List Loc) (ls : Array Slot), j17 a17 = some res → rr_H g q s H locs → lv_has ls 7 [(0, .ref (g.2.2.2 28)), (1, .int v1), (2, .int v2), (4, .int a8)] → W p l e (headSpec wsX11_waits rmX11_waits).room s m args below meth c H locs 0 0 Q (F0 m 142 ls []) := by
            intro a17 H locs ls h G hl
            have h19 := pp_jmp ej17 h
            clear h h18
            obtain ⟨x20, ex20, h21⟩ := pp_lj_ex h19
            clear h19
            refine lv_iinc (v := x20) (lv' := [(4, .int x20), (0, .ref (g.2.2.2 28)), (1, .int v1), (2, .int v2)]) hx hb dX11_waits_142 hl (k := 3) rfl (by rw [ex20]; rfl) (by decide) rfl (fun ls hl => ?_)
            refine lv_goto (tgt := 34) hx hb dX11_waits_145 (by decide) ?_
            exact ih8 _ h21 H locs ls G (lv_sub hl [1, 2, 3, 0] rfl)
          refine lv_icmp_ne (tgt := 142) hx hb dX11_waits_120 (by decide) (fun c22 => ?_) (fun c22 => ?_)
          · have h23 := pp_f c22 h18
            clear h18
            exact hj17 _ H locs ls h23 G (lv_sub hl [0, 1, 2, 3] rfl)
          · have h24 := pp_t c22 h18
            clear h18
            refine lv_aload_n hx hb dX11_waits_123 rfl (lv_at hl 0 rfl) ?_
            refine rr_get X G 5 (by decide) hf25 (v := .ref (g.2.2.2 5)) rfl dX11_waits_124 ?_
            refine lv_iload hx hb dX11_waits_127 (lv_at hl 3 rfl) ?_
            refine rr_iald X G ra_5 hi15 dX11_waits_129 ?_
            refine lv_if_le (tgt := 142) hx hb dX11_waits_130 (by decide) (fun c25 => ?_) (fun c25 => ?_)
            · have h26 := pp_t c25 h24
              clear h24
              exact hj17 _ H locs ls h26 G (lv_sub hl [0, 1, 2, 3] rfl)
            · have h27 := pp_f c25 h24
              clear h24
              refine lv_iload hx hb dX11_waits_133 (lv_at hl 4 rfl) ?_
              refine lv_iload_n hx hb dX11_waits_135 rfl (lv_at hl 2 rfl) ?_
              refine lv_icmp_ne (tgt := 142) hx hb dX11_waits_136 (by decide) (fun c28 => ?_) (fun c28 => ?_)
              · have h29 := pp_f c28 h27
                clear h27
                exact hj17 _ H locs ls h29 G (lv_sub hl [0, 1, 2, 3] rfl)
              · have h30 := pp_t c28 h27
                clear h27
                refine lv_iload hx hb dX11_waits_139 (lv_at hl 3 rfl) ?_
                exact rr_iret X hr hlk rfl G h30 hQ dX11_waits_141
        · have h31 := pp_f c13 h12
          clear h12
          refine lv_iload hx hb dX11_waits_58 (lv_at hl 4 rfl) ?_
          refine lv_aload_n hx hb dX11_waits_60 rfl (lv_at hl 0 rfl) ?_
          refine rr_get X G 1 (by decide) hf13 (v := .ref (g.2.2.2 1)) rfl dX11_waits_61 ?_
          refine lv_iload hx hb dX11_waits_64 (lv_at hl 5 rfl) ?_
          obtain ⟨hi32, h33⟩ := pp_ix_ex h31
          clear h31
          refine rr_iald X G ra_1 hi32 dX11_waits_66 ?_
          refine lv_iload_n hx hb dX11_waits_67 rfl (lv_at hl 1 rfl) ?_
          obtain ⟨j34, ej34, h35⟩ := pp_lj_ex h33
          clear h33
          have hj34 : ∀ (a34 : Int32) (H : Heap) (locs : List Loc) (ls : Array Slot), j34 a34 = some res → rr_H g q s H locs → lv_has ls 7 [(0, .ref (g.2.2.2 28)), (1, .int v1), (2, .int v2), (4, .int a8), (6, .int a12.2)] → W p l e (headSpec wsX11_waits rmX11_waits).room s m args below meth c H locs 0 0 Q (F0 m 103 ls [.int a34, .int a12.1]) := by
            intro a34 H locs ls h G hl
            have h36 := pp_jmp ej34 h
            clear h h35
            refine lv_iadd hx hb dX11_waits_103 ?_
            obtain ⟨x37, ex37, h38⟩ := pp_lj_ex h36
            clear h36
            refine lv_nmi ex37 ?_
            refine lv_istore (lv' := [(5, .int x37), (0, .ref (g.2.2.2 28)), (1, .int v1), (2, .int v2), (4, .int a8), (6, .int a12.2)]) hx hb dX11_waits_104 hl (by decide) rfl (fun ls hl => ?_)
            obtain ⟨x39, ex39, h40⟩ := pp_lj_ex h38
            clear h38
            refine lv_iinc (v := x39) (lv' := [(6, .int x39), (5, .int x37), (0, .ref (g.2.2.2 28)), (1, .int v1), (2, .int v2), (4, .int a8)]) hx hb dX11_waits_106 hl (k := 5) rfl (by rw [ex39]; rfl) (by decide) rfl (fun ls hl => ?_)
            refine lv_goto (tgt := 49) hx hb dX11_waits_109 (by decide) ?_
            exact ih12 _ h40 H locs ls G (lv_sub hl [2, 3, 4, 5, 1, 0] rfl)
          obtain ⟨j41, ej41, h42⟩ := pp_lj_ex h35
          clear h35
          have hj41 : ∀ (a41 : Unit) (H : Heap) (locs : List Loc) (ls : Array Slot), j41 a41 = some res → rr_H g q s H locs → lv_has ls 7 [(0, .ref (g.2.2.2 28)), (1, .int v1), (2, .int v2), (4, .int a8), (6, .int a12.2)] → W p l e (headSpec wsX11_waits rmX11_waits).room s m args below meth c H locs 0 0 Q (F0 m 102 ls [.int a12.1]) := by
            intro a41 H locs ls h G hl
            have h43 := pp_jmp ej41 h
            clear h h42
            refine lv_iconst (v := 0) hx hb dX11_waits_102 (by decide) ?_
            exact hj34 _ H locs ls h43 G hl
          refine lv_icmp_ne (tgt := 102) hx hb dX11_waits_68 (by decide) (fun c44 => ?_) (fun c44 => ?_)
          · have h45 := pp_f c44 h42
            clear h42
            exact hj41 _ H locs ls h45 G (lv_sub hl [0, 1, 2, 3, 5] rfl)
          · have h46 := pp_t c44 h42
            clear h42
            refine lv_aload_n hx hb dX11_waits_71 rfl (lv_at hl 0 rfl) ?_
            refine rr_get X G 5 (by decide) hf25 (v := .ref (g.2.2.2 5)) rfl dX11_waits_72 ?_
            refine lv_iload hx hb dX11_waits_75 (lv_at hl 5 rfl) ?_
            refine rr_iald X G ra_5 hi32 dX11_waits_77 ?_
            refine lv_if_le (tgt := 102) hx hb dX11_waits_78 (by decide) (fun c47 => ?_) (fun c47 => ?_)
            · have h48 := pp_t c47 h46
              clear h46
              exact hj41 _ H locs ls h48 G (lv_sub hl [0, 1, 2, 3, 5] rfl)
            · have h49 := pp_f c47 h46
              clear h46
              refine lv_aload_n hx hb dX11_waits_81 rfl (lv_at hl 0 rfl) ?_
              refine rr_get X G 5 (by decide) hf25 (v := .ref (g.2.2.2 5)) rfl dX11_waits_82 ?_
              refine lv_iload hx hb dX11_waits_85 (lv_at hl 5 rfl) ?_
              refine rr_iald X G ra_5 hi32 dX11_waits_87 ?_
              refine lv_aload_n hx hb dX11_waits_88 rfl (lv_at hl 0 rfl) ?_
              refine rr_get X G 5 (by decide) hf25 (v := .ref (g.2.2.2 5)) rfl dX11_waits_89 ?_
              refine lv_iload hx hb dX11_waits_92 (lv_at hl 3 rfl) ?_
              obtain ⟨hi50, h51⟩ := pp_ix_ex h49
              clear h49
              refine rr_iald X G ra_5 hi50 dX11_waits_94 ?_
              refine lv_icmp_ge (tgt := 102) hx hb dX11_waits_95 (by decide) (fun c52 => ?_) (fun c52 => ?_)
              · have h53 := pp_t c52 h51
                clear h51
                exact hj41 _ H locs ls h53 G (lv_sub hl [0, 1, 2, 3, 5] rfl)
              · have h54 := pp_f c52 h51
                clear h51
                refine lv_iconst (v := 1) hx hb dX11_waits_98 (by decide) ?_
                refine lv_goto (tgt := 103) hx hb dX11_waits_99 (by decide) ?_
                exact hj34 _ H locs ls h54 G (lv_sub hl [0, 1, 2, 3, 5] rfl)
    · have h55 := pp_f c6 h5
      clear h5
      refine lv_aload_n hx hb dX11_waits_25 rfl (lv_at hl 1 rfl) ?_
      refine lv_iload_n hx hb dX11_waits_26 rfl (lv_at hl 0 rfl) ?_
      obtain ⟨r56, hc56, h57⟩ := pp_ob_ex h55
      clear h55
      refine rr_cali X G (ctX11_no l g _ _ hc56) (cwV 1 hts gX11_waits_X11_no rfl rfl rfl (by decide +kernel) ⟨Nat.le_of_ble_eq_true rfl, Nat.le_of_ble_eq_true rfl⟩) (rest := []) rfl hl.1 rfl (Nat.le_of_ble_eq_true rfl) dX11_waits_27 (fun H locs G => ?_)
      exact rr_iret X hr hlk rfl G h57 hQ dX11_waits_30
  refine lv_if_ne (tgt := 13) hx hb dX11_waits_6 (by decide) (fun c58 => ?_) (fun c58 => ?_)
  · have h59 := pp_f c58 h4
    clear h4
    refine lv_iload_n hx hb dX11_waits_13 rfl (lv_at hl 2 rfl) ?_
    refine lv_iconst (v := 0) hx hb dX11_waits_14 (by decide) ?_
    refine lv_bipush (v := 7) hx hb dX11_waits_15 (by decide) ?_
    obtain ⟨r60, hc60, h61⟩ := pp_ob_ex h59
    clear h59
    refine rr_csi X G (ctX11_bound l _ _ _ hc60) (va_cwS 3 hts gX11_waits_X11_bound rfl rfl rfl (by decide +kernel) ⟨Nat.le_of_ble_eq_true rfl, Nat.le_of_ble_eq_true rfl⟩) (rest := []) rfl hl.1 rfl (Nat.le_of_ble_eq_true rfl) dX11_waits_17 (fun H locs G => ?_)
    exact hj3 _ H locs ls h61 G hl
  · have h62 := pp_t c58 h4
    clear h4
    refine lv_iconst (v := -1) hx hb dX11_waits_9 (by decide) ?_
    refine lv_goto (tgt := 20) hx hb dX11_waits_10 (by decide) ?_
    exact hj3 _ H locs ls h62 G hl
noncomputable def R_draw (q : rr_S) (v1 : Int32) : Option (Int32 × rr_S) := pp_lj (rr_I q 27 (((q.1 27) * (1664525 : Int32)) + (1013904223 : Int32)) : rr_S) (fun x1 => pp_dz v1 (some (((((x1.1 27) &&& (2147483647 : Int32)) / (256 : Int32)) - ((((x1.1 27) &&& (2147483647 : Int32)) / (256 : Int32)) / v1) * v1), x1)))
abbrev rmX11_draw : Room := { frames := 0, cells := 0, slots := 0, locals := 0 }
set_option maxHeartbeats 4000000 in
set_option maxRecDepth 100000 in
theorem ctX11_draw (l : Launch) (g : rr_G) (q : rr_S) (v1 : Int32) {res : (Int32 × rr_S)} (h : R_draw q v1 = some res) : rr_Mi l yX11_draw wsX11_draw rmX11_draw g q [.int v1] res := by
  intro sz
  unfold R_draw at h
  refine rr_ofW (by decide) rfl rfl (fun _ z => List.mem_cons_of_mem _ (List.mem_append_right _ z)) (Nat.le_of_ble_eq_true rfl) ?_
  intro p e s m args below meth c ls X hr hlk hsz G hl Q hQ
  subst hsz
  have hx := X.1.1
  have hb := X.1.2.1
  have hown := X.1.2.2.2.1
  have hts := X.1.2.2.2.2
  refine (fun (key : ∀ (H : Heap) (locs : List Loc), rr_H g q s H locs → W p l e (headSpec wsX11_draw rmX11_draw).room s m args below meth c H locs 0 0 Q (F0 m 0 ls [])) => key _ _ G) ?_
  clear G
  intro H locs G
  have hl : lv_has ls 2 [(0, .ref (g.2.2.2 28)), (1, .int v1)] := hl
  have hf244 : Cond.fieldLink RX11 244 (TX11 27).1 (TX11 27).2.1 (TX11 27).2.2.1 ∈ wsX11_draw := by decide +kernel
  refine lv_aload_n hx hb dX11_draw_0 rfl (lv_at hl 0 rfl) ?_
  refine lv_aload_n hx hb dX11_draw_1 rfl (lv_at hl 0 rfl) ?_
  refine rr_get X G 27 (by decide) hf244 (v := .int (q.1 27)) rfl dX11_draw_2 ?_
  refine lv_ldc (v := 1664525) hx hb hown (hts (.constant RX11 247 (1664525)) (by decide +kernel)) dX11_draw_5 ?_
  refine lv_imul hx hb dX11_draw_7 ?_
  refine lv_ldc (v := 1013904223) hx hb hown (hts (.constant RX11 248 (1013904223)) (by decide +kernel)) dX11_draw_8 ?_
  refine lv_iadd hx hb dX11_draw_10 ?_
  obtain ⟨x1, ex1, h2⟩ := pp_lj_ex h
  clear h
  refine rr_put X G 27 (by decide) hf244 rfl (ty := .int) (by decide +kernel) rfl rfl (ri_27 g _ _) ex1 dX11_draw_11 (fun H locs G => ?_)
  refine lv_aload_n hx hb dX11_draw_14 rfl (lv_at hl 0 rfl) ?_
  refine rr_get X G 27 (by decide) hf244 (v := .int (x1.1 27)) rfl dX11_draw_15 ?_
  refine lv_ldc (v := 2147483647) hx hb hown (hts (.constant RX11 249 (2147483647)) (by decide +kernel)) dX11_draw_18 ?_
  refine lv_iand hx hb dX11_draw_20 ?_
  refine lv_sipush (v := 256) hx hb dX11_draw_21 (by decide) ?_
  refine lv_idiv hx hb dX11_draw_24 (by decide) ?_
  refine lv_iload_n hx hb dX11_draw_25 rfl (lv_at hl 1 rfl) ?_
  obtain ⟨hz3, h4⟩ := pp_dz_ex h2
  clear h2
  refine lv_irem hx hb dX11_draw_26 hz3 ?_
  exact rr_iret X hr hlk rfl G h4 hQ dX11_draw_27
noncomputable def R_goesLot (q : rr_S) : Option rr_S := pp_ob (R_draw q (6 : Int32)) (fun r1 => pp_ob (R_draw r1.2 (r1.2.1 9)) (fun r3 => pp_ob (R_draw r3.2 (3 : Int32)) (fun r5 => pp_ob (R_canThrow r5.2 r1.1 r3.1) (fun r7 => (if r7 = (0 : Int32) then some r5.2 else pp_ix r1.1 6 (pp_ob (R_hitOf r5.2 (r5.2.2.1 6 (Int32.toNatClampNeg r1.1)) r3.1 r5.1) (fun r13 => pp_ob (R_caughtOf r5.2 r3.1 r5.1) (fun r15 => pp_ob (R_draw r5.2 (40 : Int32)) (fun r17 => pp_lj (fun (a19 : Int32) => (pp_ob (R_finishes r17.2 r1.1 r3.1 a19) (fun r22 => some r22) : Option rr_S)) (fun j19 => (if r13 ≤ r17.1 then (if (r13 + r15) ≤ r17.1 then j19 (2 : Int32) else j19 (1 : Int32)) else j19 (0 : Int32))))))))))))
abbrev rmX11_goesLot : Room := { frames := 4, cells := 0, slots := 0, locals := 86 }
set_option maxHeartbeats 4000000 in
set_option maxRecDepth 100000 in
theorem ctX11_goesLot (l : Launch) (g : rr_G) (q : rr_S) {res : rr_S} (h : R_goesLot q = some res) : rr_Mv l yX11_goesLot wsX11_goesLot rmX11_goesLot g q [] res := by
  intro sz
  unfold R_goesLot at h
  refine rr_ofW (by decide) rfl rfl (fun _ z => List.mem_cons_of_mem _ (List.mem_append_right _ z)) (Nat.le_of_ble_eq_true rfl) ?_
  intro p e s m args below meth c ls X hr hlk hsz G hl Q hQ
  subst hsz
  have hx := X.1.1
  have hb := X.1.2.1
  have hown := X.1.2.2.2.1
  have hts := X.1.2.2.2.2
  refine (fun (key : ∀ (H : Heap) (locs : List Loc), rr_H g q s H locs → W p l e (headSpec wsX11_goesLot rmX11_goesLot).room s m args below meth c H locs 0 0 Q (F0 m 0 ls [])) => key _ _ G) ?_
  clear G
  intro H locs G
  have hl : lv_has ls 7 [(0, .ref (g.2.2.2 28))] := hl
  have hf28 : Cond.fieldLink RX11 28 (TX11 6).1 (TX11 6).2.1 (TX11 6).2.2.1 ∈ wsX11_goesLot := by decide +kernel
  have hf65 : Cond.fieldLink RX11 65 (TX11 9).1 (TX11 9).2.1 (TX11 9).2.2.1 ∈ wsX11_goesLot := by decide +kernel
  refine lv_aload_n hx hb dX11_goesLot_0 rfl (lv_at hl 0 rfl) ?_
  refine lv_bipush (v := 6) hx hb dX11_goesLot_1 (by decide) ?_
  obtain ⟨r1, hc1, h2⟩ := pp_ob_ex h
  clear h
  refine rr_cali X G (ctX11_draw l g _ _ hc1) (cwV 1 hts gX11_goesLot_X11_draw rfl rfl rfl (by decide +kernel) ⟨Nat.le_of_ble_eq_true rfl, Nat.le_of_ble_eq_true rfl⟩) (rest := []) rfl hl.1 rfl (Nat.le_of_ble_eq_true rfl) dX11_goesLot_3 (fun H locs G => ?_)
  refine lv_istore_n (lv' := [(1, .int r1.1), (0, .ref (g.2.2.2 28))]) hx hb dX11_goesLot_6 rfl hl (by decide) rfl (fun ls hl => ?_)
  refine lv_aload_n hx hb dX11_goesLot_7 rfl (lv_at hl 1 rfl) ?_
  refine lv_aload_n hx hb dX11_goesLot_8 rfl (lv_at hl 1 rfl) ?_
  refine rr_get X G 9 (by decide) hf65 (v := .int (r1.2.1 9)) rfl dX11_goesLot_9 ?_
  obtain ⟨r3, hc3, h4⟩ := pp_ob_ex h2
  clear h2
  refine rr_cali X G (ctX11_draw l g _ _ hc3) (cwV 1 hts gX11_goesLot_X11_draw rfl rfl rfl (by decide +kernel) ⟨Nat.le_of_ble_eq_true rfl, Nat.le_of_ble_eq_true rfl⟩) (rest := []) rfl hl.1 rfl (Nat.le_of_ble_eq_true rfl) dX11_goesLot_12 (fun H locs G => ?_)
  refine lv_istore_n (lv' := [(2, .int r3.1), (1, .int r1.1), (0, .ref (g.2.2.2 28))]) hx hb dX11_goesLot_15 rfl hl (by decide) rfl (fun ls hl => ?_)
  refine lv_aload_n hx hb dX11_goesLot_16 rfl (lv_at hl 2 rfl) ?_
  refine lv_iconst (v := 3) hx hb dX11_goesLot_17 (by decide) ?_
  obtain ⟨r5, hc5, h6⟩ := pp_ob_ex h4
  clear h4
  refine rr_cali X G (ctX11_draw l g _ _ hc5) (cwV 1 hts gX11_goesLot_X11_draw rfl rfl rfl (by decide +kernel) ⟨Nat.le_of_ble_eq_true rfl, Nat.le_of_ble_eq_true rfl⟩) (rest := []) rfl hl.1 rfl (Nat.le_of_ble_eq_true rfl) dX11_goesLot_18 (fun H locs G => ?_)
  refine lv_istore_n (lv' := [(3, .int r5.1), (2, .int r3.1), (1, .int r1.1), (0, .ref (g.2.2.2 28))]) hx hb dX11_goesLot_21 rfl hl (by decide) rfl (fun ls hl => ?_)
  refine lv_aload_n hx hb dX11_goesLot_22 rfl (lv_at hl 3 rfl) ?_
  refine lv_iload_n hx hb dX11_goesLot_23 rfl (lv_at hl 2 rfl) ?_
  refine lv_iload_n hx hb dX11_goesLot_24 rfl (lv_at hl 1 rfl) ?_
  obtain ⟨r7, hc7, h8⟩ := pp_ob_ex h6
  clear h6
  refine rr_cali X G (ctX11_canThrow l g _ _ _ hc7) (cwV 2 hts gX11_goesLot_X11_canThrow rfl rfl rfl (by decide +kernel) ⟨Nat.le_of_ble_eq_true rfl, Nat.le_of_ble_eq_true rfl⟩) (rest := []) rfl hl.1 rfl (Nat.le_of_ble_eq_true rfl) dX11_goesLot_25 (fun H locs G => ?_)
  refine lv_if_ne (tgt := 32) hx hb dX11_goesLot_28 (by decide) (fun c9 => ?_) (fun c9 => ?_)
  · have h10 := pp_f c9 h8
    clear h8
    refine lv_aload_n hx hb dX11_goesLot_32 rfl (lv_at hl 3 rfl) ?_
    refine lv_aload_n hx hb dX11_goesLot_33 rfl (lv_at hl 3 rfl) ?_
    refine rr_get X G 6 (by decide) hf28 (v := .ref (g.2.2.2 6)) rfl dX11_goesLot_34 ?_
    refine lv_iload_n hx hb dX11_goesLot_37 rfl (lv_at hl 2 rfl) ?_
    obtain ⟨hi11, h12⟩ := pp_ix_ex h10
    clear h10
    refine rr_iald X G ra_6 hi11 dX11_goesLot_38 ?_
    refine lv_iload_n hx hb dX11_goesLot_39 rfl (lv_at hl 1 rfl) ?_
    refine lv_iload_n hx hb dX11_goesLot_40 rfl (lv_at hl 0 rfl) ?_
    obtain ⟨r13, hc13, h14⟩ := pp_ob_ex h12
    clear h12
    refine rr_cali X G (ctX11_hitOf l g _ _ _ _ hc13) (cwV 3 hts gX11_goesLot_X11_hitOf rfl rfl rfl (by decide +kernel) ⟨Nat.le_of_ble_eq_true rfl, Nat.le_of_ble_eq_true rfl⟩) (rest := []) rfl hl.1 rfl (Nat.le_of_ble_eq_true rfl) dX11_goesLot_41 (fun H locs G => ?_)
    refine lv_istore (lv' := [(4, .int r13), (3, .int r5.1), (2, .int r3.1), (1, .int r1.1), (0, .ref (g.2.2.2 28))]) hx hb dX11_goesLot_44 hl (by decide) rfl (fun ls hl => ?_)
    refine lv_aload_n hx hb dX11_goesLot_46 rfl (lv_at hl 4 rfl) ?_
    refine lv_iload_n hx hb dX11_goesLot_47 rfl (lv_at hl 2 rfl) ?_
    refine lv_iload_n hx hb dX11_goesLot_48 rfl (lv_at hl 1 rfl) ?_
    obtain ⟨r15, hc15, h16⟩ := pp_ob_ex h14
    clear h14
    refine rr_cali X G (ctX11_caughtOf l g _ _ _ hc15) (cwV 2 hts gX11_goesLot_X11_caughtOf rfl rfl rfl (by decide +kernel) ⟨Nat.le_of_ble_eq_true rfl, Nat.le_of_ble_eq_true rfl⟩) (rest := []) rfl hl.1 rfl (Nat.le_of_ble_eq_true rfl) dX11_goesLot_49 (fun H locs G => ?_)
    refine lv_istore (lv' := [(5, .int r15), (4, .int r13), (3, .int r5.1), (2, .int r3.1), (1, .int r1.1), (0, .ref (g.2.2.2 28))]) hx hb dX11_goesLot_52 hl (by decide) rfl (fun ls hl => ?_)
    refine lv_aload_n hx hb dX11_goesLot_54 rfl (lv_at hl 5 rfl) ?_
    refine lv_bipush (v := 40) hx hb dX11_goesLot_55 (by decide) ?_
    obtain ⟨r17, hc17, h18⟩ := pp_ob_ex h16
    clear h16
    refine rr_cali X G (ctX11_draw l g _ _ hc17) (cwV 1 hts gX11_goesLot_X11_draw rfl rfl rfl (by decide +kernel) ⟨Nat.le_of_ble_eq_true rfl, Nat.le_of_ble_eq_true rfl⟩) (rest := []) rfl hl.1 rfl (Nat.le_of_ble_eq_true rfl) dX11_goesLot_57 (fun H locs G => ?_)
    refine lv_istore (lv' := [(6, .int r17.1), (5, .int r15), (4, .int r13), (3, .int r5.1), (2, .int r3.1), (1, .int r1.1), (0, .ref (g.2.2.2 28))]) hx hb dX11_goesLot_60 hl (by decide) rfl (fun ls hl => ?_)
    refine lv_aload_n hx hb dX11_goesLot_62 rfl (lv_at hl 6 rfl) ?_
    refine lv_iload_n hx hb dX11_goesLot_63 rfl (lv_at hl 5 rfl) ?_
    refine lv_iload_n hx hb dX11_goesLot_64 rfl (lv_at hl 4 rfl) ?_
    refine lv_iload hx hb dX11_goesLot_65 (lv_at hl 0 rfl) ?_
    refine lv_iload hx hb dX11_goesLot_67 (lv_at hl 2 rfl) ?_
    obtain ⟨j19, ej19, h20⟩ := pp_lj_ex h18
    clear h18
    have hj19 : ∀ (a19 : Int32) (H : Heap) (locs : List Loc) (ls : Array Slot), j19 a19 = some res → rr_H g r17.2 s H locs → lv_has ls 7 [] → W p l e (headSpec wsX11_goesLot rmX11_goesLot).room s m args below meth c H locs 0 0 Q (F0 m 91 ls [.int a19, .int r3.1, .int r1.1, .ref (g.2.2.2 28)]) := by
      intro a19 H locs ls h G hl
      have h21 := pp_jmp ej19 h
      clear h h20
      obtain ⟨r22, hc22, h23⟩ := pp_ob_ex h21
      clear h21
      refine rr_calv X G (ctX11_finishes l g _ _ _ _ hc22) (cwV 3 hts gX11_goesLot_X11_finishes rfl rfl rfl (by decide +kernel) ⟨Nat.le_of_ble_eq_true rfl, Nat.le_of_ble_eq_true rfl⟩) (rest := []) rfl hl.1 rfl (Nat.le_of_ble_eq_true rfl) dX11_goesLot_91 (fun H locs G => ?_)
      exact rr_vret X hr hlk G h23 hQ dX11_goesLot_94
    refine lv_icmp_ge (tgt := 76) hx hb dX11_goesLot_69 (by decide) (fun c24 => ?_) (fun c24 => ?_)
    · have h25 := pp_t c24 h20
      clear h20
      refine lv_iload hx hb dX11_goesLot_76 (lv_at hl 0 rfl) ?_
      refine lv_iload hx hb dX11_goesLot_78 (lv_at hl 2 rfl) ?_
      refine lv_iload hx hb dX11_goesLot_80 (lv_at hl 1 rfl) ?_
      refine lv_iadd hx hb dX11_goesLot_82 ?_
      refine lv_icmp_ge (tgt := 90) hx hb dX11_goesLot_83 (by decide) (fun c26 => ?_) (fun c26 => ?_)
      · have h27 := pp_t c26 h25
        clear h25
        refine lv_iconst (v := 2) hx hb dX11_goesLot_90 (by decide) ?_
        exact hj19 _ H locs ls h27 G (lv_sub hl [] rfl)
      · have h28 := pp_f c26 h25
        clear h25
        refine lv_iconst (v := 1) hx hb dX11_goesLot_86 (by decide) ?_
        refine lv_goto (tgt := 91) hx hb dX11_goesLot_87 (by decide) ?_
        exact hj19 _ H locs ls h28 G (lv_sub hl [] rfl)
    · have h29 := pp_f c24 h20
      clear h20
      refine lv_iconst (v := 0) hx hb dX11_goesLot_72 (by decide) ?_
      refine lv_goto (tgt := 91) hx hb dX11_goesLot_73 (by decide) ?_
      exact hj19 _ H locs ls h29 G (lv_sub hl [] rfl)
  · have h30 := pp_t c9 h8
    clear h8
    exact rr_vret X hr hlk G h30 hQ dX11_goesLot_31
noncomputable def R_lots (q : rr_S) (v1 : Int32) (v2 : Int32) : Option (Int32 × rr_S) := pp_ob (R_bound v1 (1 : Int32) (30 : Int32)) (fun r1 => pp_lj (fun (a3 : Int32) => ((if a3 = (0 : Int32) then pp_ob (R_passesAll q (1 : Int32) (1 : Int32)) (fun r8 => pp_lj (rr_I r8 27 v2 : rr_S) (fun x10 => pp_it (fun (self12 : rr_S × Int32 → Option (Int32 × rr_S)) (a12 : rr_S × Int32) => (if v1 ≤ a12.2 then pp_ob (R_hereBits a12.1) (fun r15 => pp_ob (R_passesAll a12.1 (1 : Int32) (0 : Int32)) (fun r17 => some (r15, r17))) else pp_ob (R_goesLot a12.1) (fun r20 => pp_lj (a12.2 + 1 : Int32) (fun x22 => self12 (r20, x22))))) 200 (x10, (0 : Int32)))) else pp_ob (R_no q a3) (fun r25 => some (r25.1, r25.2))) : Option (Int32 × rr_S))) (fun j3 => (if r1 = (0 : Int32) then (if (q.1 9) = (0 : Int32) then j3 (-3 : Int32) else j3 r1) else j3 r1)))
abbrev rmX11_lots : Room := { frames := 5, cells := 0, slots := 0, locals := 112 }
set_option maxHeartbeats 4000000 in
set_option maxRecDepth 100000 in
theorem ctX11_lots (l : Launch) (g : rr_G) (q : rr_S) (v1 : Int32) (v2 : Int32) {res : (Int32 × rr_S)} (h : R_lots q v1 v2 = some res) : rr_Mi l yX11_lots wsX11_lots rmX11_lots g q [.int v1, .int v2] res := by
  intro sz
  unfold R_lots at h
  refine rr_ofW (by decide) rfl rfl (fun _ z => List.mem_cons_of_mem _ (List.mem_append_right _ z)) (Nat.le_of_ble_eq_true rfl) ?_
  intro p e s m args below meth c ls X hr hlk hsz G hl Q hQ
  subst hsz
  have hx := X.1.1
  have hb := X.1.2.1
  have hown := X.1.2.2.2.1
  have hts := X.1.2.2.2.2
  refine (fun (key : ∀ (H : Heap) (locs : List Loc), rr_H g q s H locs → W p l e (headSpec wsX11_lots rmX11_lots).room s m args below meth c H locs 0 0 Q (F0 m 0 ls [])) => key _ _ G) ?_
  clear G
  intro H locs G
  have hl : lv_has ls 5 [(0, .ref (g.2.2.2 28)), (1, .int v1), (2, .int v2)] := hl
  have hf65 : Cond.fieldLink RX11 65 (TX11 9).1 (TX11 9).2.1 (TX11 9).2.2.1 ∈ wsX11_lots := by decide +kernel
  have hf244 : Cond.fieldLink RX11 244 (TX11 27).1 (TX11 27).2.1 (TX11 27).2.2.1 ∈ wsX11_lots := by decide +kernel
  refine lv_iload_n hx hb dX11_lots_0 rfl (lv_at hl 1 rfl) ?_
  refine lv_iconst (v := 1) hx hb dX11_lots_1 (by decide) ?_
  refine lv_bipush (v := 30) hx hb dX11_lots_2 (by decide) ?_
  obtain ⟨r1, hc1, h2⟩ := pp_ob_ex h
  clear h
  refine rr_csi X G (ctX11_bound l _ _ _ hc1) (va_cwS 3 hts gX11_lots_X11_bound rfl rfl rfl (by decide +kernel) ⟨Nat.le_of_ble_eq_true rfl, Nat.le_of_ble_eq_true rfl⟩) (rest := []) rfl hl.1 rfl (Nat.le_of_ble_eq_true rfl) dX11_lots_4 (fun H locs G => ?_)
  refine lv_istore_n (lv' := [(3, .int r1), (0, .ref (g.2.2.2 28)), (1, .int v1), (2, .int v2)]) hx hb dX11_lots_7 rfl hl (by decide) rfl (fun ls hl => ?_)
  refine lv_iload_n hx hb dX11_lots_8 rfl (lv_at hl 0 rfl) ?_
  obtain ⟨j3, ej3, h4⟩ := pp_lj_ex h2
  clear h2
  have hj3 : ∀ (a3 : Int32) (H : Heap) (locs : List Loc) (ls : Array Slot), j3 a3 = some res → rr_H g q s H locs → lv_has ls 5 [(0, .ref (g.2.2.2 28)), (1, .int v1), (2, .int v2), (3, .int a3)] → W p l e (headSpec wsX11_lots rmX11_lots).room s m args below meth c H locs 0 0 Q (F0 m 22 ls []) := by
    intro a3 H locs ls h G hl
    have h5 := pp_jmp ej3 h
    clear h h4
    refine lv_iload_n hx hb dX11_lots_22 rfl (lv_at hl 3 rfl) ?_
    refine lv_if_eq (tgt := 32) hx hb dX11_lots_23 (by decide) (fun c6 => ?_) (fun c6 => ?_)
    · have h7 := pp_t c6 h5
      clear h5
      refine lv_aload_n hx hb dX11_lots_32 rfl (lv_at hl 0 rfl) ?_
      refine lv_iconst (v := 1) hx hb dX11_lots_33 (by decide) ?_
      refine lv_iconst (v := 1) hx hb dX11_lots_34 (by decide) ?_
      obtain ⟨r8, hc8, h9⟩ := pp_ob_ex h7
      clear h7
      refine rr_calv X G (ctX11_passesAll l g _ _ _ hc8) (cwV 2 hts gX11_lots_X11_passesAll rfl rfl rfl (by decide +kernel) ⟨Nat.le_of_ble_eq_true rfl, Nat.le_of_ble_eq_true rfl⟩) (rest := []) rfl hl.1 rfl (Nat.le_of_ble_eq_true rfl) dX11_lots_35 (fun H locs G => ?_)
      refine lv_aload_n hx hb dX11_lots_38 rfl (lv_at hl 0 rfl) ?_
      refine lv_iload_n hx hb dX11_lots_39 rfl (lv_at hl 2 rfl) ?_
      obtain ⟨x10, ex10, h11⟩ := pp_lj_ex h9
      clear h9
      refine rr_put X G 27 (by decide) hf244 rfl (ty := .int) (by decide +kernel) rfl rfl (ri_27 g _ _) ex10 dX11_lots_40 (fun H locs G => ?_)
      refine lv_iconst (v := 0) hx hb dX11_lots_43 (by decide) ?_
      refine lv_istore (lv' := [(4, .int (0 : Int32)), (0, .ref (g.2.2.2 28)), (1, .int v1), (2, .int v2), (3, .int a3)]) hx hb dX11_lots_44 hl (by decide) rfl (fun ls hl => ?_)
      refine pp_loop (I := fun (a12 : rr_S × Int32) => ∀ (H : Heap) (locs : List Loc) (ls : Array Slot), rr_H g a12.1 s H locs → lv_has ls 5 [(0, .ref (g.2.2.2 28)), (1, .int v1), (4, .int a12.2)] → W p l e (headSpec wsX11_lots rmX11_lots).room s m args below meth c H locs 0 0 Q (F0 m 46 ls [])) ?_ 200 _ h11 H locs ls G (lv_sub hl [1, 2, 0] rfl)
      clear h11
      intro self12 ih12 a12 h12 H locs ls G hl
      refine lv_iload hx hb dX11_lots_46 (lv_at hl 2 rfl) ?_
      refine lv_iload_n hx hb dX11_lots_48 rfl (lv_at hl 1 rfl) ?_
      refine lv_icmp_ge (tgt := 62) hx hb dX11_lots_49 (by decide) (fun c13 => ?_) (fun c13 => ?_)
      · have h14 := pp_t c13 h12
        clear h12
        refine lv_aload_n hx hb dX11_lots_62 rfl (lv_at hl 0 rfl) ?_
        obtain ⟨r15, hc15, h16⟩ := pp_ob_ex h14
        clear h14
        refine rr_cali X G (ctX11_hereBits l g _ hc15) (cwV 0 hts gX11_lots_X11_hereBits rfl rfl rfl (by decide +kernel) ⟨Nat.le_of_ble_eq_true rfl, Nat.le_of_ble_eq_true rfl⟩) (rest := []) rfl hl.1 rfl (Nat.le_of_ble_eq_true rfl) dX11_lots_63 (fun H locs G => ?_)
        refine lv_istore (lv' := [(4, .int r15), (0, .ref (g.2.2.2 28)), (1, .int v1)]) hx hb dX11_lots_66 hl (by decide) rfl (fun ls hl => ?_)
        refine lv_aload_n hx hb dX11_lots_68 rfl (lv_at hl 1 rfl) ?_
        refine lv_iconst (v := 1) hx hb dX11_lots_69 (by decide) ?_
        refine lv_iconst (v := 0) hx hb dX11_lots_70 (by decide) ?_
        obtain ⟨r17, hc17, h18⟩ := pp_ob_ex h16
        clear h16
        refine rr_calv X G (ctX11_passesAll l g _ _ _ hc17) (cwV 2 hts gX11_lots_X11_passesAll rfl rfl rfl (by decide +kernel) ⟨Nat.le_of_ble_eq_true rfl, Nat.le_of_ble_eq_true rfl⟩) (rest := []) rfl hl.1 rfl (Nat.le_of_ble_eq_true rfl) dX11_lots_71 (fun H locs G => ?_)
        refine lv_iload hx hb dX11_lots_74 (lv_at hl 0 rfl) ?_
        exact rr_iret X hr hlk rfl G h18 hQ dX11_lots_76
      · have h19 := pp_f c13 h12
        clear h12
        refine lv_aload_n hx hb dX11_lots_52 rfl (lv_at hl 0 rfl) ?_
        obtain ⟨r20, hc20, h21⟩ := pp_ob_ex h19
        clear h19
        refine rr_calv X G (ctX11_goesLot l g _ hc20) (cwV 0 hts gX11_lots_X11_goesLot rfl rfl rfl (by decide +kernel) ⟨Nat.le_of_ble_eq_true rfl, Nat.le_of_ble_eq_true rfl⟩) (rest := []) rfl hl.1 rfl (Nat.le_of_ble_eq_true rfl) dX11_lots_53 (fun H locs G => ?_)
        obtain ⟨x22, ex22, h23⟩ := pp_lj_ex h21
        clear h21
        refine lv_iinc (v := x22) (lv' := [(4, .int x22), (0, .ref (g.2.2.2 28)), (1, .int v1)]) hx hb dX11_lots_56 hl (k := 2) rfl (by rw [ex22]; rfl) (by decide) rfl (fun ls hl => ?_)
        refine lv_goto (tgt := 46) hx hb dX11_lots_59 (by decide) ?_
        exact ih12 _ h23 H locs ls G (lv_sub hl [1, 2, 0] rfl)
    · have h24 := pp_f c6 h5
      clear h5
      refine lv_aload_n hx hb dX11_lots_26 rfl (lv_at hl 0 rfl) ?_
      refine lv_iload_n hx hb dX11_lots_27 rfl (lv_at hl 3 rfl) ?_
      obtain ⟨r25, hc25, h26⟩ := pp_ob_ex h24
      clear h24
      refine rr_cali X G (ctX11_no l g _ _ hc25) (cwV 1 hts gX11_lots_X11_no rfl rfl rfl (by decide +kernel) ⟨Nat.le_of_ble_eq_true rfl, Nat.le_of_ble_eq_true rfl⟩) (rest := []) rfl hl.1 rfl (Nat.le_of_ble_eq_true rfl) dX11_lots_28 (fun H locs G => ?_)
      exact rr_iret X hr hlk rfl G h26 hQ dX11_lots_31
  refine lv_if_ne (tgt := 22) hx hb dX11_lots_9 (by decide) (fun c27 => ?_) (fun c27 => ?_)
  · have h28 := pp_f c27 h4
    clear h4
    exact hj3 _ H locs ls h28 G (lv_sub hl [1, 2, 3, 0] rfl)
  · have h29 := pp_t c27 h4
    clear h4
    refine lv_aload_n hx hb dX11_lots_12 rfl (lv_at hl 1 rfl) ?_
    refine rr_get X G 9 (by decide) hf65 (v := .int (q.1 9)) rfl dX11_lots_13 ?_
    refine lv_if_ne (tgt := 22) hx hb dX11_lots_16 (by decide) (fun c30 => ?_) (fun c30 => ?_)
    · have h31 := pp_f c30 h29
      clear h29
      exact hj3 _ H locs ls h31 G (lv_sub hl [1, 2, 3, 0] rfl)
    · have h32 := pp_t c30 h29
      clear h29
      refine lv_bipush (v := -3) hx hb dX11_lots_19 (by decide) ?_
      refine lv_istore_n (lv' := [(3, .int (-3 : Int32)), (0, .ref (g.2.2.2 28)), (1, .int v1), (2, .int v2)]) hx hb dX11_lots_21 rfl hl (by decide) rfl (fun ls hl => ?_)
      exact hj3 _ H locs ls h32 G (lv_sub hl [1, 2, 3, 0] rfl)
noncomputable def R_lying (q : rr_S) (v1 : Int32) : Option Int32 := pp_it (fun (self1 : Int32 × Int32 → Option Int32) (a1 : Int32 × Int32) => (if (6 : Int32) ≤ a1.2 then some a1.1 else pp_ix a1.2 6 (pp_lj (fun (a7 : Int32) => (pp_lj ((a1.1 + a7) : Int32) (fun x10 => pp_lj (a1.2 + 1 : Int32) (fun x12 => self1 (x10, x12))) : Option Int32)) (fun j7 => (if (q.2.1 7 (Int32.toNatClampNeg a1.2)) = v1 then j7 (1 : Int32) else j7 (0 : Int32)))))) 200 ((0 : Int32), (0 : Int32))
abbrev rmX11_lying : Room := { frames := 0, cells := 0, slots := 0, locals := 0 }
set_option maxHeartbeats 4000000 in
set_option maxRecDepth 100000 in
theorem ctX11_lying (l : Launch) (g : rr_G) (q : rr_S) (v1 : Int32) {res : Int32} (h : R_lying q v1 = some res) : rr_Mi l yX11_lying wsX11_lying rmX11_lying g q [.int v1] (res, q) := by
  intro sz
  unfold R_lying at h
  refine rr_ofW (by decide) rfl rfl (fun _ z => List.mem_cons_of_mem _ (List.mem_append_right _ z)) (Nat.le_of_ble_eq_true rfl) ?_
  intro p e s m args below meth c ls X hr hlk hsz G hl Q hQ
  subst hsz
  have hx := X.1.1
  have hb := X.1.2.1
  have hown := X.1.2.2.2.1
  have hts := X.1.2.2.2.2
  refine (fun (key : ∀ (H : Heap) (locs : List Loc), rr_H g q s H locs → W p l e (headSpec wsX11_lying rmX11_lying).room s m args below meth c H locs 0 0 Q (F0 m 0 ls [])) => key _ _ G) ?_
  clear G
  intro H locs G
  have hl : lv_has ls 4 [(0, .ref (g.2.2.2 28)), (1, .int v1)] := hl
  have hf31 : Cond.fieldLink RX11 31 (TX11 7).1 (TX11 7).2.1 (TX11 7).2.2.1 ∈ wsX11_lying := by decide +kernel
  refine lv_iconst (v := 0) hx hb dX11_lying_0 (by decide) ?_
  refine lv_istore_n (lv' := [(2, .int (0 : Int32)), (0, .ref (g.2.2.2 28)), (1, .int v1)]) hx hb dX11_lying_1 rfl hl (by decide) rfl (fun ls hl => ?_)
  refine lv_iconst (v := 0) hx hb dX11_lying_2 (by decide) ?_
  refine lv_istore_n (lv' := [(3, .int (0 : Int32)), (2, .int (0 : Int32)), (0, .ref (g.2.2.2 28)), (1, .int v1)]) hx hb dX11_lying_3 rfl hl (by decide) rfl (fun ls hl => ?_)
  refine pp_loop (I := fun (a1 : Int32 × Int32) => ∀ (H : Heap) (locs : List Loc) (ls : Array Slot), rr_H g q s H locs → lv_has ls 4 [(0, .ref (g.2.2.2 28)), (1, .int v1), (2, .int a1.1), (3, .int a1.2)] → W p l e (headSpec wsX11_lying rmX11_lying).room s m args below meth c H locs 0 0 Q (F0 m 4 ls [])) ?_ 200 _ h H locs ls G (lv_sub hl [2, 3, 1, 0] rfl)
  clear h
  intro self1 ih1 a1 h1 H locs ls G hl
  refine lv_iload_n hx hb dX11_lying_4 rfl (lv_at hl 3 rfl) ?_
  refine lv_bipush (v := 6) hx hb dX11_lying_5 (by decide) ?_
  refine lv_icmp_ge (tgt := 34) hx hb dX11_lying_7 (by decide) (fun c2 => ?_) (fun c2 => ?_)
  · have h3 := pp_t c2 h1
    clear h1
    refine lv_iload_n hx hb dX11_lying_34 rfl (lv_at hl 2 rfl) ?_
    exact rr_iretR X hr hlk rfl G h3 hQ dX11_lying_35
  · have h4 := pp_f c2 h1
    clear h1
    refine lv_iload_n hx hb dX11_lying_10 rfl (lv_at hl 2 rfl) ?_
    refine lv_aload_n hx hb dX11_lying_11 rfl (lv_at hl 0 rfl) ?_
    refine rr_get X G 7 (by decide) hf31 (v := .ref (g.2.2.2 7)) rfl dX11_lying_12 ?_
    refine lv_iload_n hx hb dX11_lying_15 rfl (lv_at hl 3 rfl) ?_
    obtain ⟨hi5, h6⟩ := pp_ix_ex h4
    clear h4
    refine rr_iald X G ra_7 hi5 dX11_lying_16 ?_
    refine lv_iload_n hx hb dX11_lying_17 rfl (lv_at hl 1 rfl) ?_
    obtain ⟨j7, ej7, h8⟩ := pp_lj_ex h6
    clear h6
    have hj7 : ∀ (a7 : Int32) (H : Heap) (locs : List Loc) (ls : Array Slot), j7 a7 = some res → rr_H g q s H locs → lv_has ls 4 [(0, .ref (g.2.2.2 28)), (1, .int v1), (3, .int a1.2)] → W p l e (headSpec wsX11_lying rmX11_lying).room s m args below meth c H locs 0 0 Q (F0 m 26 ls [.int a7, .int a1.1]) := by
      intro a7 H locs ls h G hl
      have h9 := pp_jmp ej7 h
      clear h h8
      refine lv_iadd hx hb dX11_lying_26 ?_
      obtain ⟨x10, ex10, h11⟩ := pp_lj_ex h9
      clear h9
      refine lv_nmi ex10 ?_
      refine lv_istore_n (lv' := [(2, .int x10), (0, .ref (g.2.2.2 28)), (1, .int v1), (3, .int a1.2)]) hx hb dX11_lying_27 rfl hl (by decide) rfl (fun ls hl => ?_)
      obtain ⟨x12, ex12, h13⟩ := pp_lj_ex h11
      clear h11
      refine lv_iinc (v := x12) (lv' := [(3, .int x12), (2, .int x10), (0, .ref (g.2.2.2 28)), (1, .int v1)]) hx hb dX11_lying_28 hl (k := 3) rfl (by rw [ex12]; rfl) (by decide) rfl (fun ls hl => ?_)
      refine lv_goto (tgt := 4) hx hb dX11_lying_31 (by decide) ?_
      exact ih1 _ h13 H locs ls G (lv_sub hl [2, 3, 1, 0] rfl)
    refine lv_icmp_ne (tgt := 25) hx hb dX11_lying_18 (by decide) (fun c14 => ?_) (fun c14 => ?_)
    · have h15 := pp_f c14 h8
      clear h8
      refine lv_iconst (v := 0) hx hb dX11_lying_25 (by decide) ?_
      exact hj7 _ H locs ls h15 G (lv_sub hl [0, 1, 3] rfl)
    · have h16 := pp_t c14 h8
      clear h8
      refine lv_iconst (v := 1) hx hb dX11_lying_21 (by decide) ?_
      refine lv_goto (tgt := 26) hx hb dX11_lying_22 (by decide) ?_
      exact hj7 _ H locs ls h16 G (lv_sub hl [0, 1, 3] rfl)
noncomputable def R_count (q : rr_S) (v1 : Int32) : Option Int32 := pp_ob (R_isIn v1 (11 : Int32) (16 : Int32)) (fun r1 => (if r1 = (0 : Int32) then (if v1 = (0 : Int32) then some (q.1 9) else (if v1 = (1 : Int32) then pp_ob (R_hereOf q (v1 - (1 : Int32))) (fun r11 => some r11) else (if v1 = (2 : Int32) then pp_ob (R_hereOf q (v1 - (1 : Int32))) (fun r16 => some r16) else (if v1 = (3 : Int32) then some (q.1 10) else (if v1 = (4 : Int32) then pp_ob (R_lying q (v1 - (4 : Int32))) (fun r24 => some r24) else (if v1 = (5 : Int32) then pp_ob (R_lying q (v1 - (4 : Int32))) (fun r29 => some r29) else (if v1 = (6 : Int32) then some (q.1 26) else (if v1 = (7 : Int32) then some (q.1 16) else some (-9 : Int32))))))))) else pp_ix (v1 - (10 : Int32)) 7 (some (q.2.1 0 (Int32.toNatClampNeg (v1 - (10 : Int32)))))))
abbrev rmX11_count : Room := { frames := 1, cells := 0, slots := 0, locals := 23 }
set_option maxHeartbeats 4000000 in
set_option maxRecDepth 100000 in
theorem ctX11_count (l : Launch) (g : rr_G) (q : rr_S) (v1 : Int32) {res : Int32} (h : R_count q v1 = some res) : rr_Mi l yX11_count wsX11_count rmX11_count g q [.int v1] (res, q) := by
  intro sz
  unfold R_count at h
  refine rr_ofW (by decide) rfl rfl (fun _ z => List.mem_cons_of_mem _ (List.mem_append_right _ z)) (Nat.le_of_ble_eq_true rfl) ?_
  intro p e s m args below meth c ls X hr hlk hsz G hl Q hQ
  subst hsz
  have hx := X.1.1
  have hb := X.1.2.1
  have hown := X.1.2.2.2.1
  have hts := X.1.2.2.2.2
  refine (fun (key : ∀ (H : Heap) (locs : List Loc), rr_H g q s H locs → W p l e (headSpec wsX11_count rmX11_count).room s m args below meth c H locs 0 0 Q (F0 m 0 ls [])) => key _ _ G) ?_
  clear G
  intro H locs G
  have hl : lv_has ls 2 [(0, .ref (g.2.2.2 28)), (1, .int v1)] := hl
  have hf7 : Cond.fieldLink RX11 7 (TX11 0).1 (TX11 0).2.1 (TX11 0).2.2.1 ∈ wsX11_count := by decide +kernel
  have hf65 : Cond.fieldLink RX11 65 (TX11 9).1 (TX11 9).2.1 (TX11 9).2.2.1 ∈ wsX11_count := by decide +kernel
  have hf77 : Cond.fieldLink RX11 77 (TX11 16).1 (TX11 16).2.1 (TX11 16).2.2.1 ∈ wsX11_count := by decide +kernel
  have hf165 : Cond.fieldLink RX11 165 (TX11 10).1 (TX11 10).2.1 (TX11 10).2.2.1 ∈ wsX11_count := by decide +kernel
  have hf235 : Cond.fieldLink RX11 235 (TX11 26).1 (TX11 26).2.1 (TX11 26).2.2.1 ∈ wsX11_count := by decide +kernel
  refine lv_iload_n hx hb dX11_count_0 rfl (lv_at hl 1 rfl) ?_
  refine lv_bipush (v := 11) hx hb dX11_count_1 (by decide) ?_
  refine lv_bipush (v := 16) hx hb dX11_count_3 (by decide) ?_
  obtain ⟨r1, hc1, h2⟩ := pp_ob_ex h
  clear h
  refine rr_csi X G (ctX11_isIn l _ _ _ hc1) (va_cwS 3 hts gX11_count_X11_isIn rfl rfl rfl (by decide +kernel) ⟨Nat.le_of_ble_eq_true rfl, Nat.le_of_ble_eq_true rfl⟩) (rest := []) rfl hl.1 rfl (Nat.le_of_ble_eq_true rfl) dX11_count_5 (fun H locs G => ?_)
  refine lv_if_eq (tgt := 21) hx hb dX11_count_8 (by decide) (fun c3 => ?_) (fun c3 => ?_)
  · have h4 := pp_t c3 h2
    clear h2
    refine lv_iload_n hx hb dX11_count_21 rfl (lv_at hl 1 rfl) ?_
    by_cases c5 : v1 = (0 : Int32)
    · have h6 := pp_t c5 h4
      clear h4
      refine lv_tableIn (off := 46) (tgt := 68) hx hb dX11_count_22 (by rw [c5]; decide) (by rw [c5]; decide) (by rw [c5]; decide) (by decide) ?_
      refine lv_aload_n hx hb dX11_count_68 rfl (lv_at hl 0 rfl) ?_
      refine rr_get X G 9 (by decide) hf65 (v := .int (q.1 9)) rfl dX11_count_69 ?_
      exact rr_iretR X hr hlk rfl G h6 hQ dX11_count_72
    have h7 := pp_f c5 h4
    clear h4
    by_cases c8 : v1 = (1 : Int32)
    · have h9 := pp_t c8 h7
      clear h7
      refine lv_tableIn (off := 51) (tgt := 73) hx hb dX11_count_22 (by rw [c8]; decide) (by rw [c8]; decide) (by rw [c8]; decide) (by decide) ?_
      refine lv_aload_n hx hb dX11_count_73 rfl (lv_at hl 0 rfl) ?_
      refine lv_iload_n hx hb dX11_count_74 rfl (lv_at hl 1 rfl) ?_
      refine lv_iconst (v := 1) hx hb dX11_count_75 (by decide) ?_
      refine lv_isub hx hb dX11_count_76 ?_
      obtain ⟨r11, hc11, h12⟩ := pp_ob_ex h9
      clear h9
      refine rr_cali X G (ctX11_hereOf l g _ _ hc11) (cwV 1 hts gX11_count_X11_hereOf rfl rfl rfl (by decide +kernel) ⟨Nat.le_of_ble_eq_true rfl, Nat.le_of_ble_eq_true rfl⟩) (rest := []) rfl hl.1 rfl (Nat.le_of_ble_eq_true rfl) dX11_count_77 (fun H locs G => ?_)
      exact rr_iretR X hr hlk rfl G h12 hQ dX11_count_80
    have h10 := pp_f c8 h7
    clear h7
    by_cases c13 : v1 = (2 : Int32)
    · have h14 := pp_t c13 h10
      clear h10
      refine lv_tableIn (off := 51) (tgt := 73) hx hb dX11_count_22 (by rw [c13]; decide) (by rw [c13]; decide) (by rw [c13]; decide) (by decide) ?_
      refine lv_aload_n hx hb dX11_count_73 rfl (lv_at hl 0 rfl) ?_
      refine lv_iload_n hx hb dX11_count_74 rfl (lv_at hl 1 rfl) ?_
      refine lv_iconst (v := 1) hx hb dX11_count_75 (by decide) ?_
      refine lv_isub hx hb dX11_count_76 ?_
      obtain ⟨r16, hc16, h17⟩ := pp_ob_ex h14
      clear h14
      refine rr_cali X G (ctX11_hereOf l g _ _ hc16) (cwV 1 hts gX11_count_X11_hereOf rfl rfl rfl (by decide +kernel) ⟨Nat.le_of_ble_eq_true rfl, Nat.le_of_ble_eq_true rfl⟩) (rest := []) rfl hl.1 rfl (Nat.le_of_ble_eq_true rfl) dX11_count_77 (fun H locs G => ?_)
      exact rr_iretR X hr hlk rfl G h17 hQ dX11_count_80
    have h15 := pp_f c13 h10
    clear h10
    by_cases c18 : v1 = (3 : Int32)
    · have h19 := pp_t c18 h15
      clear h15
      refine lv_tableIn (off := 59) (tgt := 81) hx hb dX11_count_22 (by rw [c18]; decide) (by rw [c18]; decide) (by rw [c18]; decide) (by decide) ?_
      refine lv_aload_n hx hb dX11_count_81 rfl (lv_at hl 0 rfl) ?_
      refine rr_get X G 10 (by decide) hf165 (v := .int (q.1 10)) rfl dX11_count_82 ?_
      exact rr_iretR X hr hlk rfl G h19 hQ dX11_count_85
    have h20 := pp_f c18 h15
    clear h15
    by_cases c21 : v1 = (4 : Int32)
    · have h22 := pp_t c21 h20
      clear h20
      refine lv_tableIn (off := 64) (tgt := 86) hx hb dX11_count_22 (by rw [c21]; decide) (by rw [c21]; decide) (by rw [c21]; decide) (by decide) ?_
      refine lv_aload_n hx hb dX11_count_86 rfl (lv_at hl 0 rfl) ?_
      refine lv_iload_n hx hb dX11_count_87 rfl (lv_at hl 1 rfl) ?_
      refine lv_iconst (v := 4) hx hb dX11_count_88 (by decide) ?_
      refine lv_isub hx hb dX11_count_89 ?_
      obtain ⟨r24, hc24, h25⟩ := pp_ob_ex h22
      clear h22
      refine rr_cali X G (ctX11_lying l g _ _ hc24) (cwV 1 hts gX11_count_X11_lying rfl rfl rfl (by decide +kernel) ⟨Nat.le_of_ble_eq_true rfl, Nat.le_of_ble_eq_true rfl⟩) (rest := []) rfl hl.1 rfl (Nat.le_of_ble_eq_true rfl) dX11_count_90 (fun H locs G => ?_)
      exact rr_iretR X hr hlk rfl G h25 hQ dX11_count_93
    have h23 := pp_f c21 h20
    clear h20
    by_cases c26 : v1 = (5 : Int32)
    · have h27 := pp_t c26 h23
      clear h23
      refine lv_tableIn (off := 64) (tgt := 86) hx hb dX11_count_22 (by rw [c26]; decide) (by rw [c26]; decide) (by rw [c26]; decide) (by decide) ?_
      refine lv_aload_n hx hb dX11_count_86 rfl (lv_at hl 0 rfl) ?_
      refine lv_iload_n hx hb dX11_count_87 rfl (lv_at hl 1 rfl) ?_
      refine lv_iconst (v := 4) hx hb dX11_count_88 (by decide) ?_
      refine lv_isub hx hb dX11_count_89 ?_
      obtain ⟨r29, hc29, h30⟩ := pp_ob_ex h27
      clear h27
      refine rr_cali X G (ctX11_lying l g _ _ hc29) (cwV 1 hts gX11_count_X11_lying rfl rfl rfl (by decide +kernel) ⟨Nat.le_of_ble_eq_true rfl, Nat.le_of_ble_eq_true rfl⟩) (rest := []) rfl hl.1 rfl (Nat.le_of_ble_eq_true rfl) dX11_count_90 (fun H locs G => ?_)
      exact rr_iretR X hr hlk rfl G h30 hQ dX11_count_93
    have h28 := pp_f c26 h23
    clear h23
    by_cases c31 : v1 = (6 : Int32)
    · have h32 := pp_t c31 h28
      clear h28
      refine lv_tableIn (off := 72) (tgt := 94) hx hb dX11_count_22 (by rw [c31]; decide) (by rw [c31]; decide) (by rw [c31]; decide) (by decide) ?_
      refine lv_aload_n hx hb dX11_count_94 rfl (lv_at hl 0 rfl) ?_
      refine rr_get X G 26 (by decide) hf235 (v := .int (q.1 26)) rfl dX11_count_95 ?_
      exact rr_iretR X hr hlk rfl G h32 hQ dX11_count_98
    have h33 := pp_f c31 h28
    clear h28
    by_cases c34 : v1 = (7 : Int32)
    · have h35 := pp_t c34 h33
      clear h33
      refine lv_tableIn (off := 77) (tgt := 99) hx hb dX11_count_22 (by rw [c34]; decide) (by rw [c34]; decide) (by rw [c34]; decide) (by decide) ?_
      refine lv_aload_n hx hb dX11_count_99 rfl (lv_at hl 0 rfl) ?_
      refine rr_get X G 16 (by decide) hf77 (v := .int (q.1 16)) rfl dX11_count_100 ?_
      exact rr_iretR X hr hlk rfl G h35 hQ dX11_count_103
    have h36 := pp_f c34 h33
    clear h33
    refine lv_tableOut (tgt := 104) hx hb dX11_count_22 (by have n0 := lv_neT c5 (a := 0) (by decide); have n1 := lv_neT c8 (a := 1) (by decide); have n2 := lv_neT c13 (a := 2) (by decide); have n3 := lv_neT c18 (a := 3) (by decide); have n4 := lv_neT c21 (a := 4) (by decide); have n5 := lv_neT c26 (a := 5) (by decide); have n6 := lv_neT c31 (a := 6) (by decide); have n7 := lv_neT c34 (a := 7) (by decide); omega) (by decide) ?_
    refine lv_bipush (v := -9) hx hb dX11_count_104 (by decide) ?_
    exact rr_iretR X hr hlk rfl G h36 hQ dX11_count_106
  · have h37 := pp_f c3 h2
    clear h2
    refine lv_aload_n hx hb dX11_count_11 rfl (lv_at hl 0 rfl) ?_
    refine rr_get X G 0 (by decide) hf7 (v := .ref (g.2.2.2 0)) rfl dX11_count_12 ?_
    refine lv_iload_n hx hb dX11_count_15 rfl (lv_at hl 1 rfl) ?_
    refine lv_bipush (v := 10) hx hb dX11_count_16 (by decide) ?_
    refine lv_isub hx hb dX11_count_18 ?_
    obtain ⟨hi38, h39⟩ := pp_ix_ex h37
    clear h37
    refine rr_iald X G ra_0 hi38 dX11_count_19 ?_
    exact rr_iretR X hr hlk rfl G h39 hQ dX11_count_20
