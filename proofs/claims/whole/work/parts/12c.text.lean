noncomputable def z_J0_isLatin1_aae02 (i : Nat) : Option Int32 := pp_lj (fun (a1 : Unit) => (some (0 : Int32) : Option Int32)) (fun j1 => (if (1 : Int32) = (0 : Int32) then j1 () else (if (0 : Int32) = (0 : Int32) then some (1 : Int32) else j1 ())))
abbrev rmJ0_isLatin1_aae02 : Room := { frames := 0, cells := 0, slots := 0, locals := 0 }
set_option maxHeartbeats 4000000 in
set_option maxRecDepth 100000 in
theorem ctJ0_isLatin1_aae02 (l : Launch) (ad : Nat → Nat) {i : Nat} (hi : i < 5) {res : Int32} (h : z_J0_isLatin1_aae02 i = some res) : js_Mi l yJ0_isLatin1_aae02 wsJ0_isLatin1_aae02 rmJ0_isLatin1_aae02 ad [.ref (ad (100 + i))] res := by
  intro sz A
  unfold z_J0_isLatin1_aae02 at h
  refine js_ofW (own := RJ0) (by decide) rfl rfl (Nat.le_of_ble_eq_true rfl) ?_
  intro p e s m args below meth c ls X hr hlk G hl Q hQ
  have hx := X.1.1
  have hb := X.1.2.1
  have hown := X.1.2.2.2.1
  have hts := X.1.2.2.2.2
  refine (fun (key : ∀ (H : Heap) (locs : List Loc), js_H s H locs → W p l e (headSpec wsJ0_isLatin1_aae02 rmJ0_isLatin1_aae02).room s m args below meth c H locs 0 0 Q (F0 m 0 ls [])) => key _ _ G) ?_
  clear G
  intro H locs G
  have hl : lv_has ls 1 [(0, .ref (ad (100 + i)))] := hl
  refine js_cs X G (by decide +kernel) dJ0_isLatin1_aae02_0 ?_
  obtain ⟨j1, ej1, h2⟩ := pp_lj_ex h
  clear h
  have hj1 : ∀ (a1 : Unit) (H : Heap) (locs : List Loc) (ls : Array Slot), j1 a1 = some res → js_H s H locs → lv_has ls 1 [] → W p l e (headSpec wsJ0_isLatin1_aae02 rmJ0_isLatin1_aae02).room s m args below meth c H locs 0 0 Q (F0 m 17 ls []) := by
    intro a1 H locs ls h G hl
    have h3 := pp_jmp ej1 h
    clear h h2
    refine lv_iconst (v := 0) hx hb dJ0_isLatin1_aae02_17 (by decide) ?_
    exact js_iret X hr hlk rfl G h3 hQ dJ0_isLatin1_aae02_18
  refine lv_if_eq (tgt := 17) hx hb dJ0_isLatin1_aae02_3 (by decide) (fun c4 => ?_) (fun c4 => ?_)
  · have h5 := pp_t c4 h2
    clear h2
    exact hj1 _ H locs ls h5 G (lv_sub hl [] rfl)
  · have h6 := pp_f c4 h2
    clear h2
    refine lv_aload_n hx hb dJ0_isLatin1_aae02_6 rfl (lv_at hl 0 rfl) ?_
    refine js_cod X G hi (by decide +kernel) dJ0_isLatin1_aae02_7 ?_
    refine lv_if_ne (tgt := 17) hx hb dJ0_isLatin1_aae02_10 (by decide) (fun c7 => ?_) (fun c7 => ?_)
    · have h8 := pp_f c7 h6
      clear h6
      exact hj1 _ H locs ls h8 G (lv_sub hl [] rfl)
    · have h9 := pp_t c7 h6
      clear h6
      refine lv_iconst (v := 1) hx hb dJ0_isLatin1_aae02_13 (by decide) ?_
      refine lv_goto (tgt := 18) hx hb dJ0_isLatin1_aae02_14 (by decide) ?_
      exact js_iret X hr hlk rfl G h9 hQ dJ0_isLatin1_aae02_18
noncomputable def z_J1_charAt_3b067 (i : Nat) (v1 : Int32) : Option Int32 := pp_ob (z_chk v1 (Int32.ofNat (js_len.getD i 0))) (fun r1 => pp_ix v1 (js_len.getD i 0) (pp_cz ((Int32.toUInt32 (((js_byt.getD i []).getD (Int32.toNatClampNeg v1) 0) &&& (255 : Int32)) % 65536).toInt32) (some ((Int32.toUInt32 (((js_byt.getD i []).getD (Int32.toNatClampNeg v1) 0) &&& (255 : Int32)) % 65536).toInt32))))
abbrev rmJ1_charAt_3b067 : Room := { frames := 2, cells := 0, slots := 0, locals := 43 }
set_option maxHeartbeats 4000000 in
set_option maxRecDepth 100000 in
theorem ctJ1_charAt_3b067 (l : Launch) (ad : Nat → Nat) {i : Nat} (hi : i < 5) (v1 : Int32) {res : Int32} (h : z_J1_charAt_3b067 i v1 = some res) : js_Mi l yJ1_charAt_3b067 wsJ1_charAt_3b067 rmJ1_charAt_3b067 ad [.ref (ad (120 + i)), .int v1] res := by
  intro sz A
  unfold z_J1_charAt_3b067 at h
  refine js_ofW (own := RJ1) (by decide) rfl rfl (Nat.le_of_ble_eq_true rfl) ?_
  intro p e s m args below meth c ls X hr hlk G hl Q hQ
  have hx := X.1.1
  have hb := X.1.2.1
  have hown := X.1.2.2.2.1
  have hts := X.1.2.2.2.2
  refine (fun (key : ∀ (H : Heap) (locs : List Loc), js_H s H locs → W p l e (headSpec wsJ1_charAt_3b067 rmJ1_charAt_3b067).room s m args below meth c H locs 0 0 Q (F0 m 0 ls [])) => key _ _ G) ?_
  clear G
  intro H locs G
  have hl : lv_has ls 2 [(0, .ref (ad (120 + i))), (1, .int v1)] := hl
  refine lv_iload_n hx hb dJ1_charAt_3b067_0 rfl (lv_at hl 1 rfl) ?_
  refine lv_aload_n hx hb dJ1_charAt_3b067_1 rfl (lv_at hl 0 rfl) ?_
  refine js_alen X G hi rfl dJ1_charAt_3b067_2 ?_
  obtain ⟨r1, hc1, h2⟩ := pp_ob_ex h
  clear h
  refine js_csv X G (ctJ0_checkIndex_df160 l ad _ _ (by cases r1; exact hc1)) (va_cwS 2 hts gJ1_charAt_3b067_J0_checkIndex_df160 rfl rfl rfl (by decide +kernel) ⟨Nat.le_of_ble_eq_true rfl, Nat.le_of_ble_eq_true rfl⟩) (rest := []) rfl hl.1 rfl (Nat.le_of_ble_eq_true rfl) dJ1_charAt_3b067_3 (fun H locs G => ?_)
  refine lv_aload_n hx hb dJ1_charAt_3b067_6 rfl (lv_at hl 0 rfl) ?_
  refine lv_iload_n hx hb dJ1_charAt_3b067_7 rfl (lv_at hl 1 rfl) ?_
  obtain ⟨hi3, h4⟩ := pp_ix_ex h2
  clear h2
  refine js_bald X G hi hi3 dJ1_charAt_3b067_8 ?_
  refine lv_sipush (v := 255) hx hb dJ1_charAt_3b067_9 (by decide) ?_
  refine lv_iand hx hb dJ1_charAt_3b067_12 ?_
  refine lv_i2c hx hb dJ1_charAt_3b067_13 rfl ?_
  obtain ⟨hz5, h6⟩ := pp_cz_ex h4
  clear h4
  exact js_iret X hr hlk hz5 G h6 hQ dJ1_charAt_3b067_14
noncomputable def z_J0_charAt_5068e (i : Nat) (v1 : Int32) : Option Int32 := pp_ob (z_J0_isLatin1_aae02 i) (fun r1 => (if r1 = (0 : Int32) then none else pp_ob (z_J1_charAt_3b067 i v1) (fun r6 => pp_cz r6 (some r6))))
abbrev rmJ0_charAt_5068e : Room := { frames := 3, cells := 0, slots := 0, locals := 64 }
set_option maxHeartbeats 4000000 in
set_option maxRecDepth 100000 in
theorem ctJ0_charAt_5068e (l : Launch) (ad : Nat → Nat) {i : Nat} (hi : i < 5) (v1 : Int32) {res : Int32} (h : z_J0_charAt_5068e i v1 = some res) : js_Mi l yJ0_charAt_5068e wsJ0_charAt_5068e rmJ0_charAt_5068e ad [.ref (ad (100 + i)), .int v1] res := by
  intro sz A
  unfold z_J0_charAt_5068e at h
  refine js_ofW (own := RJ0) (by decide) rfl rfl (Nat.le_of_ble_eq_true rfl) ?_
  intro p e s m args below meth c ls X hr hlk G hl Q hQ
  have hx := X.1.1
  have hb := X.1.2.1
  have hown := X.1.2.2.2.1
  have hts := X.1.2.2.2.2
  refine (fun (key : ∀ (H : Heap) (locs : List Loc), js_H s H locs → W p l e (headSpec wsJ0_charAt_5068e rmJ0_charAt_5068e).room s m args below meth c H locs 0 0 Q (F0 m 0 ls [])) => key _ _ G) ?_
  clear G
  intro H locs G
  have hl : lv_has ls 2 [(0, .ref (ad (100 + i))), (1, .int v1)] := hl
  refine lv_aload_n hx hb dJ0_charAt_5068e_0 rfl (lv_at hl 0 rfl) ?_
  obtain ⟨r1, hc1, h2⟩ := pp_ob_ex h
  clear h
  refine js_calV X G (i := i) hi (ctJ0_isLatin1_aae02 l ad (i := i) hi hc1) (cwV 0 hts gJ0_charAt_5068e_J0_isLatin1_aae02 rfl rfl rfl (by decide +kernel) ⟨Nat.le_of_ble_eq_true rfl, Nat.le_of_ble_eq_true rfl⟩) (rest := []) rfl hl.1 rfl (Nat.le_of_ble_eq_true rfl) dJ0_charAt_5068e_1 (fun H locs G => ?_)
  refine lv_if_eq (tgt := 16) hx hb dJ0_charAt_5068e_4 (by decide) (fun c3 => ?_) (fun c3 => ?_)
  · have h4 := pp_t c3 h2
    clear h2
    refine lv_aload_n hx hb dJ0_charAt_5068e_16 rfl (lv_at hl 0 rfl) ?_
    refine js_val X G hi (by decide +kernel) dJ0_charAt_5068e_17 ?_
    refine lv_iload_n hx hb dJ0_charAt_5068e_20 rfl (lv_at hl 1 rfl) ?_
    cases h4
  · have h5 := pp_f c3 h2
    clear h2
    refine lv_aload_n hx hb dJ0_charAt_5068e_7 rfl (lv_at hl 0 rfl) ?_
    refine js_val X G hi (by decide +kernel) dJ0_charAt_5068e_8 ?_
    refine lv_iload_n hx hb dJ0_charAt_5068e_11 rfl (lv_at hl 1 rfl) ?_
    obtain ⟨r6, hc6, h7⟩ := pp_ob_ex h5
    clear h5
    refine js_csi X G (ctJ1_charAt_3b067 l ad hi _ hc6) (va_cwS 2 hts gJ0_charAt_5068e_J1_charAt_3b067 rfl rfl rfl (by decide +kernel) ⟨Nat.le_of_ble_eq_true rfl, Nat.le_of_ble_eq_true rfl⟩) (rest := []) rfl hl.1 rfl (Nat.le_of_ble_eq_true rfl) dJ0_charAt_5068e_12 (fun H locs G => ?_)
    obtain ⟨hz8, h9⟩ := pp_cz_ex h7
    clear h7
    exact js_iret X hr hlk hz8 G h9 hQ dJ0_charAt_5068e_15
noncomputable def z_J0_isEmpty_aae02 (i : Nat) : Option Int32 := (if (Int32.ofNat (js_len.getD i 0)) = (0 : Int32) then some (1 : Int32) else some (0 : Int32))
abbrev rmJ0_isEmpty_aae02 : Room := { frames := 0, cells := 0, slots := 0, locals := 0 }
set_option maxHeartbeats 4000000 in
set_option maxRecDepth 100000 in
theorem ctJ0_isEmpty_aae02 (l : Launch) (ad : Nat → Nat) {i : Nat} (hi : i < 5) {res : Int32} (h : z_J0_isEmpty_aae02 i = some res) : js_Mi l yJ0_isEmpty_aae02 wsJ0_isEmpty_aae02 rmJ0_isEmpty_aae02 ad [.ref (ad (100 + i))] res := by
  intro sz A
  unfold z_J0_isEmpty_aae02 at h
  refine js_ofW (own := RJ0) (by decide) rfl rfl (Nat.le_of_ble_eq_true rfl) ?_
  intro p e s m args below meth c ls X hr hlk G hl Q hQ
  have hx := X.1.1
  have hb := X.1.2.1
  have hown := X.1.2.2.2.1
  have hts := X.1.2.2.2.2
  refine (fun (key : ∀ (H : Heap) (locs : List Loc), js_H s H locs → W p l e (headSpec wsJ0_isEmpty_aae02 rmJ0_isEmpty_aae02).room s m args below meth c H locs 0 0 Q (F0 m 0 ls [])) => key _ _ G) ?_
  clear G
  intro H locs G
  have hl : lv_has ls 1 [(0, .ref (ad (100 + i)))] := hl
  refine lv_aload_n hx hb dJ0_isEmpty_aae02_0 rfl (lv_at hl 0 rfl) ?_
  refine js_val X G hi (by decide +kernel) dJ0_isEmpty_aae02_1 ?_
  refine js_alen X G hi rfl dJ0_isEmpty_aae02_4 ?_
  refine lv_if_ne (tgt := 12) hx hb dJ0_isEmpty_aae02_5 (by decide) (fun c1 => ?_) (fun c1 => ?_)
  · have h2 := pp_f c1 h
    clear h
    refine lv_iconst (v := 0) hx hb dJ0_isEmpty_aae02_12 (by decide) ?_
    exact js_iret X hr hlk rfl G h2 hQ dJ0_isEmpty_aae02_13
  · have h3 := pp_t c1 h
    clear h
    refine lv_iconst (v := 1) hx hb dJ0_isEmpty_aae02_8 (by decide) ?_
    refine lv_goto (tgt := 13) hx hb dJ0_isEmpty_aae02_9 (by decide) ?_
    exact js_iret X hr hlk rfl G h3 hQ dJ0_isEmpty_aae02_13
noncomputable def z_J0_coder_7d493 (i : Nat) : Option Int32 := (if (1 : Int32) = (0 : Int32) then some (1 : Int32) else some (0 : Int32))
abbrev rmJ0_coder_7d493 : Room := { frames := 0, cells := 0, slots := 0, locals := 0 }
set_option maxHeartbeats 4000000 in
set_option maxRecDepth 100000 in
theorem ctJ0_coder_7d493 (l : Launch) (ad : Nat → Nat) {i : Nat} (hi : i < 5) {res : Int32} (h : z_J0_coder_7d493 i = some res) : js_Mi l yJ0_coder_7d493 wsJ0_coder_7d493 rmJ0_coder_7d493 ad [.ref (ad (100 + i))] res := by
  intro sz A
  unfold z_J0_coder_7d493 at h
  refine js_ofW (own := RJ0) (by decide) rfl rfl (Nat.le_of_ble_eq_true rfl) ?_
  intro p e s m args below meth c ls X hr hlk G hl Q hQ
  have hx := X.1.1
  have hb := X.1.2.1
  have hown := X.1.2.2.2.1
  have hts := X.1.2.2.2.2
  refine (fun (key : ∀ (H : Heap) (locs : List Loc), js_H s H locs → W p l e (headSpec wsJ0_coder_7d493 rmJ0_coder_7d493).room s m args below meth c H locs 0 0 Q (F0 m 0 ls [])) => key _ _ G) ?_
  clear G
  intro H locs G
  have hl : lv_has ls 1 [(0, .ref (ad (100 + i)))] := hl
  refine js_cs X G (by decide +kernel) dJ0_coder_7d493_0 ?_
  refine lv_if_eq (tgt := 13) hx hb dJ0_coder_7d493_3 (by decide) (fun c1 => ?_) (fun c1 => ?_)
  · have h2 := pp_t c1 h
    clear h
    refine lv_iconst (v := 1) hx hb dJ0_coder_7d493_13 (by decide) ?_
    exact js_iret X hr hlk rfl G h2 hQ dJ0_coder_7d493_14
  · have h3 := pp_f c1 h
    clear h
    refine lv_aload_n hx hb dJ0_coder_7d493_6 rfl (lv_at hl 0 rfl) ?_
    refine js_cod X G hi (by decide +kernel) dJ0_coder_7d493_7 ?_
    refine lv_goto (tgt := 14) hx hb dJ0_coder_7d493_10 (by decide) ?_
    exact js_iret X hr hlk rfl G h3 hQ dJ0_coder_7d493_14
noncomputable def z_J0_length_8abf5 (i : Nat) : Option Int32 := pp_ob (z_J0_coder_7d493 i) (fun r1 => some ((Int32.ofNat (js_len.getD i 0)) >>> (r1 &&& 31)))
abbrev rmJ0_length_8abf5 : Room := { frames := 1, cells := 0, slots := 0, locals := 20 }
set_option maxHeartbeats 4000000 in
set_option maxRecDepth 100000 in
theorem ctJ0_length_8abf5 (l : Launch) (ad : Nat → Nat) {i : Nat} (hi : i < 5) {res : Int32} (h : z_J0_length_8abf5 i = some res) : js_Mi l yJ0_length_8abf5 wsJ0_length_8abf5 rmJ0_length_8abf5 ad [.ref (ad (100 + i))] res := by
  intro sz A
  unfold z_J0_length_8abf5 at h
  refine js_ofW (own := RJ0) (by decide) rfl rfl (Nat.le_of_ble_eq_true rfl) ?_
  intro p e s m args below meth c ls X hr hlk G hl Q hQ
  have hx := X.1.1
  have hb := X.1.2.1
  have hown := X.1.2.2.2.1
  have hts := X.1.2.2.2.2
  refine (fun (key : ∀ (H : Heap) (locs : List Loc), js_H s H locs → W p l e (headSpec wsJ0_length_8abf5 rmJ0_length_8abf5).room s m args below meth c H locs 0 0 Q (F0 m 0 ls [])) => key _ _ G) ?_
  clear G
  intro H locs G
  have hl : lv_has ls 1 [(0, .ref (ad (100 + i)))] := hl
  refine lv_aload_n hx hb dJ0_length_8abf5_0 rfl (lv_at hl 0 rfl) ?_
  refine js_val X G hi (by decide +kernel) dJ0_length_8abf5_1 ?_
  refine js_alen X G hi rfl dJ0_length_8abf5_4 ?_
  refine lv_aload_n hx hb dJ0_length_8abf5_5 rfl (lv_at hl 0 rfl) ?_
  obtain ⟨r1, hc1, h2⟩ := pp_ob_ex h
  clear h
  refine js_calV X G (i := i) hi (ctJ0_coder_7d493 l ad (i := i) hi hc1) (cwV 0 hts gJ0_length_8abf5_J0_coder_7d493 rfl rfl rfl (by decide +kernel) ⟨Nat.le_of_ble_eq_true rfl, Nat.le_of_ble_eq_true rfl⟩) (rest := [.int (Int32.ofNat (js_len.getD i 0))]) rfl hl.1 rfl (Nat.le_of_ble_eq_true rfl) dJ0_length_8abf5_6 (fun H locs G => ?_)
  refine lv_ishr hx hb dJ0_length_8abf5_9 ?_
  exact js_iret X hr hlk rfl G h2 hQ dJ0_length_8abf5_10
noncomputable def J1_canEncode (v0 : Int32) : Option Int32 := pp_lj (fun (a1 : Unit) => (some (0 : Int32) : Option Int32)) (fun j1 => (if v0 < (0 : Int32) then j1 () else (if (255 : Int32) < v0 then j1 () else some (1 : Int32))))
abbrev rmJ1_canEncode_9a6ad : Room := { frames := 0, cells := 0, slots := 0, locals := 0 }
set_option maxHeartbeats 4000000 in
set_option maxRecDepth 100000 in
theorem ctJ1_canEncode_9a6ad (l : Launch) (v0 : Int32) {res : Int32} (h : J1_canEncode v0 = some res) : xs_Mi l yJ1_canEncode_9a6ad wsJ1_canEncode_9a6ad rmJ1_canEncode_9a6ad [.int v0] res := by
  intro sz
  unfold J1_canEncode at h
  refine xs_ofW (own := RJ1) (by decide) rfl rfl (Nat.le_of_ble_eq_true rfl) ?_
  intro p e s m args below meth c ls X hr hlk hl Q hQ
  have hx := X.1
  have hb := X.2.1
  have hown := X.2.2.2.1
  have hts := X.2.2.2.2
  have hl : lv_has ls 1 [(0, .int v0)] := hl
  refine lv_iload_n hx hb dJ1_canEncode_9a6ad_0 rfl (lv_at hl 0 rfl) ?_
  obtain ⟨j1, ej1, h2⟩ := pp_lj_ex h
  clear h
  have hj1 : ∀ (a1 : Unit) (ls : Array Slot), j1 a1 = some res → lv_has ls 1 [] → W p l e (headSpec wsJ1_canEncode_9a6ad rmJ1_canEncode_9a6ad).room s m args below meth c s.heap [] 0 0 Q (F0 m 15 ls []) := by
    intro a1 ls h hl
    have h3 := pp_jmp ej1 h
    clear h h2
    refine lv_iconst (v := 0) hx hb dJ1_canEncode_9a6ad_15 (by decide) ?_
    exact xs_iret hx hb hr hlk rfl h3 hQ dJ1_canEncode_9a6ad_16
  refine lv_if_lt (tgt := 15) hx hb dJ1_canEncode_9a6ad_1 (by decide) (fun c4 => ?_) (fun c4 => ?_)
  · have h5 := pp_t c4 h2
    clear h2
    exact hj1 _ ls h5 (lv_sub hl [] rfl)
  · have h6 := pp_f c4 h2
    clear h2
    refine lv_iload_n hx hb dJ1_canEncode_9a6ad_4 rfl (lv_at hl 0 rfl) ?_
    refine lv_sipush (v := 255) hx hb dJ1_canEncode_9a6ad_5 (by decide) ?_
    refine lv_icmp_gt (tgt := 15) hx hb dJ1_canEncode_9a6ad_8 (by decide) (fun c7 => ?_) (fun c7 => ?_)
    · have h8 := pp_t c7 h6
      clear h6
      exact hj1 _ ls h8 (lv_sub hl [] rfl)
    · have h9 := pp_f c7 h6
      clear h6
      refine lv_iconst (v := 1) hx hb dJ1_canEncode_9a6ad_11 (by decide) ?_
      refine lv_goto (tgt := 16) hx hb dJ1_canEncode_9a6ad_12 (by decide) ?_
      exact xs_iret hx hb hr hlk rfl h9 hQ dJ1_canEncode_9a6ad_16
noncomputable def z_J1_indexOfChar_4cfef (i : Nat) (v1 : Int32) (v2 : Int32) (v3 : Int32) : Option Int32 := pp_lj (((Int32.toInt8 v1).toInt32) : Int32) (fun x1 => pp_it (fun (self3 : Int32 → Option Int32) (a3 : Int32) => (if v3 ≤ a3 then some (-1 : Int32) else pp_ix a3 (js_len.getD i 0) ((if ((js_byt.getD i []).getD (Int32.toNatClampNeg a3) 0) = x1 then some a3 else pp_lj (a3 + 1 : Int32) (fun x11 => self3 x11))))) 200 v2)
abbrev rmJ1_indexOfChar_4cfef : Room := { frames := 0, cells := 0, slots := 0, locals := 0 }
set_option maxHeartbeats 4000000 in
set_option maxRecDepth 100000 in
theorem ctJ1_indexOfChar_4cfef (l : Launch) (ad : Nat → Nat) {i : Nat} (hi : i < 5) (v1 : Int32) (v2 : Int32) (v3 : Int32) {res : Int32} (h : z_J1_indexOfChar_4cfef i v1 v2 v3 = some res) : js_Mi l yJ1_indexOfChar_4cfef wsJ1_indexOfChar_4cfef rmJ1_indexOfChar_4cfef ad [.ref (ad (120 + i)), .int v1, .int v2, .int v3] res := by
  intro sz A
  unfold z_J1_indexOfChar_4cfef at h
  refine js_ofW (own := RJ1) (by decide) rfl rfl (Nat.le_of_ble_eq_true rfl) ?_
  intro p e s m args below meth c ls X hr hlk G hl Q hQ
  have hx := X.1.1
  have hb := X.1.2.1
  have hown := X.1.2.2.2.1
  have hts := X.1.2.2.2.2
  refine (fun (key : ∀ (H : Heap) (locs : List Loc), js_H s H locs → W p l e (headSpec wsJ1_indexOfChar_4cfef rmJ1_indexOfChar_4cfef).room s m args below meth c H locs 0 0 Q (F0 m 0 ls [])) => key _ _ G) ?_
  clear G
  intro H locs G
  have hl : lv_has ls 6 [(0, .ref (ad (120 + i))), (1, .int v1), (2, .int v2), (3, .int v3)] := hl
  refine lv_iload_n hx hb dJ1_indexOfChar_4cfef_0 rfl (lv_at hl 1 rfl) ?_
  refine lv_i2b hx hb dJ1_indexOfChar_4cfef_1 rfl ?_
  obtain ⟨x1, ex1, h2⟩ := pp_lj_ex h
  clear h
  refine lv_nmi ex1 ?_
  refine lv_istore (lv' := [(4, .int x1), (0, .ref (ad (120 + i))), (1, .int v1), (2, .int v2), (3, .int v3)]) hx hb dJ1_indexOfChar_4cfef_2 hl (by decide) rfl (fun ls hl => ?_)
  refine lv_iload_n hx hb dJ1_indexOfChar_4cfef_4 rfl (lv_at hl 3 rfl) ?_
  refine lv_istore (lv' := [(5, .int v2), (4, .int x1), (0, .ref (ad (120 + i))), (1, .int v1), (2, .int v2), (3, .int v3)]) hx hb dJ1_indexOfChar_4cfef_5 hl (by decide) rfl (fun ls hl => ?_)
  refine pp_loop (I := fun (a3 : Int32) => ∀ (H : Heap) (locs : List Loc) (ls : Array Slot), js_H s H locs → lv_has ls 6 [(0, .ref (ad (120 + i))), (3, .int v3), (4, .int x1), (5, .int a3)] → W p l e (headSpec wsJ1_indexOfChar_4cfef rmJ1_indexOfChar_4cfef).room s m args below meth c H locs 0 0 Q (F0 m 7 ls [])) ?_ 200 _ h2 H locs ls G (lv_sub hl [2, 5, 1, 0] rfl)
  clear h2
  intro self3 ih3 a3 h3 H locs ls G hl
  refine lv_iload hx hb dJ1_indexOfChar_4cfef_7 (lv_at hl 3 rfl) ?_
  refine lv_iload_n hx hb dJ1_indexOfChar_4cfef_9 rfl (lv_at hl 1 rfl) ?_
  refine lv_icmp_ge (tgt := 31) hx hb dJ1_indexOfChar_4cfef_10 (by decide) (fun c4 => ?_) (fun c4 => ?_)
  · have h5 := pp_t c4 h3
    clear h3
    refine lv_iconst (v := -1) hx hb dJ1_indexOfChar_4cfef_31 (by decide) ?_
    exact js_iret X hr hlk rfl G h5 hQ dJ1_indexOfChar_4cfef_32
  · have h6 := pp_f c4 h3
    clear h3
    refine lv_aload_n hx hb dJ1_indexOfChar_4cfef_13 rfl (lv_at hl 0 rfl) ?_
    refine lv_iload hx hb dJ1_indexOfChar_4cfef_14 (lv_at hl 3 rfl) ?_
    obtain ⟨hi7, h8⟩ := pp_ix_ex h6
    clear h6
    refine js_bald X G hi hi7 dJ1_indexOfChar_4cfef_16 ?_
    refine lv_iload hx hb dJ1_indexOfChar_4cfef_17 (lv_at hl 2 rfl) ?_
    refine lv_icmp_ne (tgt := 25) hx hb dJ1_indexOfChar_4cfef_19 (by decide) (fun c9 => ?_) (fun c9 => ?_)
    · have h10 := pp_f c9 h8
      clear h8
      obtain ⟨x11, ex11, h12⟩ := pp_lj_ex h10
      clear h10
      refine lv_iinc (v := x11) (lv' := [(5, .int x11), (0, .ref (ad (120 + i))), (3, .int v3), (4, .int x1)]) hx hb dJ1_indexOfChar_4cfef_25 hl (k := 3) rfl (by rw [ex11]; rfl) (by decide) rfl (fun ls hl => ?_)
      refine lv_goto (tgt := 7) hx hb dJ1_indexOfChar_4cfef_28 (by decide) ?_
      exact ih3 _ h12 H locs ls G (lv_sub hl [1, 2, 3, 0] rfl)
    · have h13 := pp_t c9 h8
      clear h8
      refine lv_iload hx hb dJ1_indexOfChar_4cfef_22 (lv_at hl 3 rfl) ?_
      exact js_iret X hr hlk rfl G h13 hQ dJ1_indexOfChar_4cfef_24
noncomputable def z_J1_indexOf_4cfef (i : Nat) (v1 : Int32) (v2 : Int32) (v3 : Int32) : Option Int32 := pp_ob (J1_canEncode v1) (fun r1 => (if r1 = (0 : Int32) then some (-1 : Int32) else pp_lj ((if v2 < (0 : Int32) then (0 : Int32) else v2) : Int32) (fun x5 => pp_lj ((if (Int32.ofNat (js_len.getD i 0)) < v3 then (Int32.ofNat (js_len.getD i 0)) else v3) : Int32) (fun x7 => (if x5 < x7 then pp_ob (z_J1_indexOfChar_4cfef i v1 x5 x7) (fun r11 => some r11) else some (-1 : Int32))))))
abbrev rmJ1_indexOf_4cfef : Room := { frames := 1, cells := 0, slots := 0, locals := 25 }
set_option maxHeartbeats 4000000 in
set_option maxRecDepth 100000 in
theorem ctJ1_indexOf_4cfef (l : Launch) (ad : Nat → Nat) {i : Nat} (hi : i < 5) (v1 : Int32) (v2 : Int32) (v3 : Int32) {res : Int32} (h : z_J1_indexOf_4cfef i v1 v2 v3 = some res) : js_Mi l yJ1_indexOf_4cfef wsJ1_indexOf_4cfef rmJ1_indexOf_4cfef ad [.ref (ad (120 + i)), .int v1, .int v2, .int v3] res := by
  intro sz A
  unfold z_J1_indexOf_4cfef at h
  refine js_ofW (own := RJ1) (by decide) rfl rfl (Nat.le_of_ble_eq_true rfl) ?_
  intro p e s m args below meth c ls X hr hlk G hl Q hQ
  have hx := X.1.1
  have hb := X.1.2.1
  have hown := X.1.2.2.2.1
  have hts := X.1.2.2.2.2
  refine (fun (key : ∀ (H : Heap) (locs : List Loc), js_H s H locs → W p l e (headSpec wsJ1_indexOf_4cfef rmJ1_indexOf_4cfef).room s m args below meth c H locs 0 0 Q (F0 m 0 ls [])) => key _ _ G) ?_
  clear G
  intro H locs G
  have hl : lv_has ls 4 [(0, .ref (ad (120 + i))), (1, .int v1), (2, .int v2), (3, .int v3)] := hl
  refine lv_iload_n hx hb dJ1_indexOf_4cfef_0 rfl (lv_at hl 1 rfl) ?_
  obtain ⟨r1, hc1, h2⟩ := pp_ob_ex h
  clear h
  refine js_csx X G (ctJ1_canEncode_9a6ad l _ hc1) (va_cwS 1 hts gJ1_indexOf_4cfef_J1_canEncode_9a6ad rfl rfl rfl (by decide +kernel) ⟨Nat.le_of_ble_eq_true rfl, Nat.le_of_ble_eq_true rfl⟩) (rest := []) rfl hl.1 rfl (Nat.le_of_ble_eq_true rfl) dJ1_indexOf_4cfef_1 (fun H locs G => ?_)
  refine lv_if_ne (tgt := 9) hx hb dJ1_indexOf_4cfef_4 (by decide) (fun c3 => ?_) (fun c3 => ?_)
  · have h4 := pp_f c3 h2
    clear h2
    refine lv_iload_n hx hb dJ1_indexOf_4cfef_9 rfl (lv_at hl 2 rfl) ?_
    refine lv_iconst (v := 0) hx hb dJ1_indexOf_4cfef_10 (by decide) ?_
    refine va_mmax hx hb (X.1.2.2.1.trans hl.1.symm) hown (hts (.methodLink RJ1 92 Lib.Math.max.name) (by decide +kernel)) (hts (.static Lib.Math.max.name) (by decide +kernel)) (hts (.initialized "java/lang/Math") (by decide +kernel)) (hts (.code Lib.Math.max.name Lib.Math.max.code 2 (some .int)) (by decide +kernel)) (Nat.le_of_ble_eq_true rfl) (Nat.le_of_ble_eq_true rfl) (Nat.zero_le _) (Nat.zero_le _) dJ1_indexOf_4cfef_11 ?_
    obtain ⟨x5, ex5, h6⟩ := pp_lj_ex h4
    clear h4
    refine lv_nmi ex5 ?_
    refine lv_istore_n (lv' := [(2, .int x5), (0, .ref (ad (120 + i))), (1, .int v1), (3, .int v3)]) hx hb dJ1_indexOf_4cfef_14 rfl hl (by decide) rfl (fun ls hl => ?_)
    refine lv_iload_n hx hb dJ1_indexOf_4cfef_15 rfl (lv_at hl 3 rfl) ?_
    refine lv_aload_n hx hb dJ1_indexOf_4cfef_16 rfl (lv_at hl 1 rfl) ?_
    refine js_alen X G hi rfl dJ1_indexOf_4cfef_17 ?_
    refine va_mmin hx hb (X.1.2.2.1.trans hl.1.symm) hown (hts (.methodLink RJ1 38 Lib.Math.min.name) (by decide +kernel)) (hts (.static Lib.Math.min.name) (by decide +kernel)) (hts (.initialized "java/lang/Math") (by decide +kernel)) (hts (.code Lib.Math.min.name Lib.Math.min.code 2 (some .int)) (by decide +kernel)) (Nat.le_of_ble_eq_true rfl) (Nat.le_of_ble_eq_true rfl) (Nat.zero_le _) (Nat.zero_le _) dJ1_indexOf_4cfef_18 ?_
    obtain ⟨x7, ex7, h8⟩ := pp_lj_ex h6
    clear h6
    refine lv_nmi ex7 ?_
    refine lv_istore_n (lv' := [(3, .int x7), (2, .int x5), (0, .ref (ad (120 + i))), (1, .int v1)]) hx hb dJ1_indexOf_4cfef_21 rfl hl (by decide) rfl (fun ls hl => ?_)
    refine lv_iload_n hx hb dJ1_indexOf_4cfef_22 rfl (lv_at hl 1 rfl) ?_
    refine lv_iload_n hx hb dJ1_indexOf_4cfef_23 rfl (lv_at hl 0 rfl) ?_
    refine lv_icmp_lt (tgt := 29) hx hb dJ1_indexOf_4cfef_24 (by decide) (fun c9 => ?_) (fun c9 => ?_)
    · have h10 := pp_t c9 h8
      clear h8
      refine lv_aload_n hx hb dJ1_indexOf_4cfef_29 rfl (lv_at hl 2 rfl) ?_
      refine lv_iload_n hx hb dJ1_indexOf_4cfef_30 rfl (lv_at hl 3 rfl) ?_
      refine lv_iload_n hx hb dJ1_indexOf_4cfef_31 rfl (lv_at hl 1 rfl) ?_
      refine lv_iload_n hx hb dJ1_indexOf_4cfef_32 rfl (lv_at hl 0 rfl) ?_
      obtain ⟨r11, hc11, h12⟩ := pp_ob_ex h10
      clear h10
      refine js_csi X G (ctJ1_indexOfChar_4cfef l ad hi _ _ _ hc11) (va_cwS 4 hts gJ1_indexOf_4cfef_J1_indexOfChar_4cfef rfl rfl rfl (by decide +kernel) ⟨Nat.le_of_ble_eq_true rfl, Nat.le_of_ble_eq_true rfl⟩) (rest := []) rfl hl.1 rfl (Nat.le_of_ble_eq_true rfl) dJ1_indexOf_4cfef_33 (fun H locs G => ?_)
      exact js_iret X hr hlk rfl G h12 hQ dJ1_indexOf_4cfef_36
    · have h13 := pp_f c9 h8
      clear h8
      refine lv_iconst (v := -1) hx hb dJ1_indexOf_4cfef_27 (by decide) ?_
      exact js_iret X hr hlk rfl G h13 hQ dJ1_indexOf_4cfef_28
  · have h14 := pp_t c3 h2
    clear h2
    refine lv_iconst (v := -1) hx hb dJ1_indexOf_4cfef_7 (by decide) ?_
    exact js_iret X hr hlk rfl G h14 hQ dJ1_indexOf_4cfef_8
noncomputable def z_J0_indexOf_7cf53 (i : Nat) (v1 : Int32) (v2 : Int32) : Option Int32 := pp_ob (z_J0_isLatin1_aae02 i) (fun r1 => (if r1 = (0 : Int32) then pp_ob (z_J0_length_8abf5 i) (fun r5 => none) else pp_ob (z_J0_length_8abf5 i) (fun r8 => pp_ob (z_J1_indexOf_4cfef i v1 v2 r8) (fun r10 => some r10))))
abbrev rmJ0_indexOf_7cf53 : Room := { frames := 2, cells := 0, slots := 0, locals := 48 }
set_option maxHeartbeats 4000000 in
set_option maxRecDepth 100000 in
theorem ctJ0_indexOf_7cf53 (l : Launch) (ad : Nat → Nat) {i : Nat} (hi : i < 5) (v1 : Int32) (v2 : Int32) {res : Int32} (h : z_J0_indexOf_7cf53 i v1 v2 = some res) : js_Mi l yJ0_indexOf_7cf53 wsJ0_indexOf_7cf53 rmJ0_indexOf_7cf53 ad [.ref (ad (100 + i)), .int v1, .int v2] res := by
  intro sz A
  unfold z_J0_indexOf_7cf53 at h
  refine js_ofW (own := RJ0) (by decide) rfl rfl (Nat.le_of_ble_eq_true rfl) ?_
  intro p e s m args below meth c ls X hr hlk G hl Q hQ
  have hx := X.1.1
  have hb := X.1.2.1
  have hown := X.1.2.2.2.1
  have hts := X.1.2.2.2.2
  refine (fun (key : ∀ (H : Heap) (locs : List Loc), js_H s H locs → W p l e (headSpec wsJ0_indexOf_7cf53 rmJ0_indexOf_7cf53).room s m args below meth c H locs 0 0 Q (F0 m 0 ls [])) => key _ _ G) ?_
  clear G
  intro H locs G
  have hl : lv_has ls 3 [(0, .ref (ad (100 + i))), (1, .int v1), (2, .int v2)] := hl
  refine lv_aload_n hx hb dJ0_indexOf_7cf53_0 rfl (lv_at hl 0 rfl) ?_
  obtain ⟨r1, hc1, h2⟩ := pp_ob_ex h
  clear h
  refine js_calV X G (i := i) hi (ctJ0_isLatin1_aae02 l ad (i := i) hi hc1) (cwV 0 hts gJ0_indexOf_7cf53_J0_isLatin1_aae02 rfl rfl rfl (by decide +kernel) ⟨Nat.le_of_ble_eq_true rfl, Nat.le_of_ble_eq_true rfl⟩) (rest := []) rfl hl.1 rfl (Nat.le_of_ble_eq_true rfl) dJ0_indexOf_7cf53_1 (fun H locs G => ?_)
  refine lv_if_eq (tgt := 23) hx hb dJ0_indexOf_7cf53_4 (by decide) (fun c3 => ?_) (fun c3 => ?_)
  · have h4 := pp_t c3 h2
    clear h2
    refine lv_aload_n hx hb dJ0_indexOf_7cf53_23 rfl (lv_at hl 0 rfl) ?_
    refine js_val X G hi (by decide +kernel) dJ0_indexOf_7cf53_24 ?_
    refine lv_iload_n hx hb dJ0_indexOf_7cf53_27 rfl (lv_at hl 1 rfl) ?_
    refine lv_iload_n hx hb dJ0_indexOf_7cf53_28 rfl (lv_at hl 2 rfl) ?_
    refine lv_aload_n hx hb dJ0_indexOf_7cf53_29 rfl (lv_at hl 0 rfl) ?_
    obtain ⟨r5, hc5, h6⟩ := pp_ob_ex h4
    clear h4
    refine js_calV X G (i := i) hi (ctJ0_length_8abf5 l ad (i := i) hi hc5) (cwV 0 hts gJ0_indexOf_7cf53_J0_length_8abf5 rfl rfl rfl (by decide +kernel) ⟨Nat.le_of_ble_eq_true rfl, Nat.le_of_ble_eq_true rfl⟩) (rest := [.int v2, .int v1, .ref (ad (120 + i))]) rfl hl.1 rfl (Nat.le_of_ble_eq_true rfl) dJ0_indexOf_7cf53_30 (fun H locs G => ?_)
    cases h6
  · have h7 := pp_f c3 h2
    clear h2
    refine lv_aload_n hx hb dJ0_indexOf_7cf53_7 rfl (lv_at hl 0 rfl) ?_
    refine js_val X G hi (by decide +kernel) dJ0_indexOf_7cf53_8 ?_
    refine lv_iload_n hx hb dJ0_indexOf_7cf53_11 rfl (lv_at hl 1 rfl) ?_
    refine lv_iload_n hx hb dJ0_indexOf_7cf53_12 rfl (lv_at hl 2 rfl) ?_
    refine lv_aload_n hx hb dJ0_indexOf_7cf53_13 rfl (lv_at hl 0 rfl) ?_
    obtain ⟨r8, hc8, h9⟩ := pp_ob_ex h7
    clear h7
    refine js_calV X G (i := i) hi (ctJ0_length_8abf5 l ad (i := i) hi hc8) (cwV 0 hts gJ0_indexOf_7cf53_J0_length_8abf5 rfl rfl rfl (by decide +kernel) ⟨Nat.le_of_ble_eq_true rfl, Nat.le_of_ble_eq_true rfl⟩) (rest := [.int v2, .int v1, .ref (ad (120 + i))]) rfl hl.1 rfl (Nat.le_of_ble_eq_true rfl) dJ0_indexOf_7cf53_14 (fun H locs G => ?_)
    obtain ⟨r10, hc10, h11⟩ := pp_ob_ex h9
    clear h9
    refine js_csi X G (ctJ1_indexOf_4cfef l ad hi _ _ _ hc10) (va_cwS 4 hts gJ0_indexOf_7cf53_J1_indexOf_4cfef rfl rfl rfl (by decide +kernel) ⟨Nat.le_of_ble_eq_true rfl, Nat.le_of_ble_eq_true rfl⟩) (rest := []) rfl hl.1 rfl (Nat.le_of_ble_eq_true rfl) dJ0_indexOf_7cf53_17 (fun H locs G => ?_)
    refine lv_goto (tgt := 36) hx hb dJ0_indexOf_7cf53_20 (by decide) ?_
    exact js_iret X hr hlk rfl G h11 hQ dJ0_indexOf_7cf53_36
noncomputable def z_J0_indexOf_0f7a4 (i : Nat) (v1 : Int32) : Option Int32 := pp_ob (z_J0_indexOf_7cf53 i v1 (0 : Int32)) (fun r1 => some r1)
abbrev rmJ0_indexOf_0f7a4 : Room := { frames := 3, cells := 0, slots := 0, locals := 70 }
set_option maxHeartbeats 4000000 in
set_option maxRecDepth 100000 in
theorem ctJ0_indexOf_0f7a4 (l : Launch) (ad : Nat → Nat) {i : Nat} (hi : i < 5) (v1 : Int32) {res : Int32} (h : z_J0_indexOf_0f7a4 i v1 = some res) : js_Mi l yJ0_indexOf_0f7a4 wsJ0_indexOf_0f7a4 rmJ0_indexOf_0f7a4 ad [.ref (ad (100 + i)), .int v1] res := by
  intro sz A
  unfold z_J0_indexOf_0f7a4 at h
  refine js_ofW (own := RJ0) (by decide) rfl rfl (Nat.le_of_ble_eq_true rfl) ?_
  intro p e s m args below meth c ls X hr hlk G hl Q hQ
  have hx := X.1.1
  have hb := X.1.2.1
  have hown := X.1.2.2.2.1
  have hts := X.1.2.2.2.2
  refine (fun (key : ∀ (H : Heap) (locs : List Loc), js_H s H locs → W p l e (headSpec wsJ0_indexOf_0f7a4 rmJ0_indexOf_0f7a4).room s m args below meth c H locs 0 0 Q (F0 m 0 ls [])) => key _ _ G) ?_
  clear G
  intro H locs G
  have hl : lv_has ls 2 [(0, .ref (ad (100 + i))), (1, .int v1)] := hl
  refine lv_aload_n hx hb dJ0_indexOf_0f7a4_0 rfl (lv_at hl 0 rfl) ?_
  refine lv_iload_n hx hb dJ0_indexOf_0f7a4_1 rfl (lv_at hl 1 rfl) ?_
  refine lv_iconst (v := 0) hx hb dJ0_indexOf_0f7a4_2 (by decide) ?_
  obtain ⟨r1, hc1, h2⟩ := pp_ob_ex h
  clear h
  refine js_calV X G (i := i) hi (ctJ0_indexOf_7cf53 l ad (i := i) hi _ _ hc1) (cwV 2 hts gJ0_indexOf_0f7a4_J0_indexOf_7cf53 rfl rfl rfl (by decide +kernel) ⟨Nat.le_of_ble_eq_true rfl, Nat.le_of_ble_eq_true rfl⟩) (rest := []) rfl hl.1 rfl (Nat.le_of_ble_eq_true rfl) dJ0_indexOf_0f7a4_3 (fun H locs G => ?_)
  exact js_iret X hr hlk rfl G h2 hQ dJ0_indexOf_0f7a4_6
noncomputable def z_X7_fits (v0 : Int32) (v1 : Int32) : Option Int32 := (if v0 = (100 : Int32) then pp_lj (fun (a4 : Unit) => (some (0 : Int32) : Option Int32)) (fun j4 => (if v1 < (48 : Int32) then j4 () else (if (57 : Int32) < v1 then j4 () else some (1 : Int32)))) else (if v0 = (107 : Int32) then pp_ob (z_J0_indexOf_0f7a4 1 v1) (fun r16 => (if r16 < (0 : Int32) then some (0 : Int32) else some (1 : Int32))) else (if v1 = v0 then some (1 : Int32) else some (0 : Int32))))
abbrev rmX7_fits : Room := { frames := 4, cells := 0, slots := 0, locals := 91 }
set_option maxHeartbeats 4000000 in
set_option maxRecDepth 100000 in
theorem ctX7_fits (l : Launch) (ad : Nat → Nat) (v0 : Int32) (v1 : Int32) {res : Int32} (h : z_X7_fits v0 v1 = some res) : js_Mi l yX7_fits wsX7_fits rmX7_fits ad [.int v0, .int v1] res := by
  intro sz A
  unfold z_X7_fits at h
  refine js_ofW (own := RX7) (by decide) rfl rfl (Nat.le_of_ble_eq_true rfl) ?_
  intro p e s m args below meth c ls X hr hlk G hl Q hQ
  have hx := X.1.1
  have hb := X.1.2.1
  have hown := X.1.2.2.2.1
  have hts := X.1.2.2.2.2
  refine (fun (key : ∀ (H : Heap) (locs : List Loc), js_H s H locs → W p l e (headSpec wsX7_fits rmX7_fits).room s m args below meth c H locs 0 0 Q (F0 m 0 ls [])) => key _ _ G) ?_
  clear G
  intro H locs G
  have hl : lv_has ls 2 [(0, .int v0), (1, .int v1)] := hl
  refine lv_iload_n hx hb dX7_fits_0 rfl (lv_at hl 0 rfl) ?_
  by_cases c1 : v0 = (100 : Int32)
  · have h2 := pp_t c1 h
    clear h
    refine lv_lookup (off := 27) (tgt := 28) hx hb dX7_fits_1 (by decide) (by rw [c1]; decide) (by decide) ?_
    refine lv_iload_n hx hb dX7_fits_28 rfl (lv_at hl 1 rfl) ?_
    refine lv_bipush (v := 48) hx hb dX7_fits_29 (by decide) ?_
    obtain ⟨j4, ej4, h5⟩ := pp_lj_ex h2
    clear h2
    have hj4 : ∀ (a4 : Unit) (H : Heap) (locs : List Loc) (ls : Array Slot), j4 a4 = some res → js_H s H locs → lv_has ls 2 [] → W p l e (headSpec wsX7_fits rmX7_fits).room s m args below meth c H locs 0 0 Q (F0 m 44 ls []) := by
      intro a4 H locs ls h G hl
      have h6 := pp_jmp ej4 h
      clear h h5
      refine lv_iconst (v := 0) hx hb dX7_fits_44 (by decide) ?_
      exact js_iret X hr hlk rfl G h6 hQ dX7_fits_45
    refine lv_icmp_lt (tgt := 44) hx hb dX7_fits_31 (by decide) (fun c7 => ?_) (fun c7 => ?_)
    · have h8 := pp_t c7 h5
      clear h5
      exact hj4 _ H locs ls h8 G (lv_sub hl [] rfl)
    · have h9 := pp_f c7 h5
      clear h5
      refine lv_iload_n hx hb dX7_fits_34 rfl (lv_at hl 1 rfl) ?_
      refine lv_bipush (v := 57) hx hb dX7_fits_35 (by decide) ?_
      refine lv_icmp_gt (tgt := 44) hx hb dX7_fits_37 (by decide) (fun c10 => ?_) (fun c10 => ?_)
      · have h11 := pp_t c10 h9
        clear h9
        exact hj4 _ H locs ls h11 G (lv_sub hl [] rfl)
      · have h12 := pp_f c10 h9
        clear h9
        refine lv_iconst (v := 1) hx hb dX7_fits_40 (by decide) ?_
        refine lv_goto (tgt := 45) hx hb dX7_fits_41 (by decide) ?_
        exact js_iret X hr hlk rfl G h12 hQ dX7_fits_45
  have h3 := pp_f c1 h
  clear h
  by_cases c13 : v0 = (107 : Int32)
  · have h14 := pp_t c13 h3
    clear h3
    refine lv_lookup (off := 45) (tgt := 46) hx hb dX7_fits_1 (by decide) (by rw [c13]; decide) (by decide) ?_
    refine va_ldcS hx hb hown X.2.2.2.1 dX7_fits_46 ?_
    refine lv_iload_n hx hb dX7_fits_48 rfl (lv_at hl 1 rfl) ?_
    obtain ⟨r16, hc16, h17⟩ := pp_ob_ex h14
    clear h14
    refine js_calV X G (i := 1) (by decide) (ctJ0_indexOf_0f7a4 l ad (i := 1) (by decide) _ hc16) (cwV 1 hts gX7_fits_J0_indexOf_0f7a4 rfl rfl rfl (by decide +kernel) ⟨Nat.le_of_ble_eq_true rfl, Nat.le_of_ble_eq_true rfl⟩) (rest := []) rfl hl.1 rfl (Nat.le_of_ble_eq_true rfl) dX7_fits_49 (fun H locs G => ?_)
    refine lv_if_lt (tgt := 59) hx hb dX7_fits_52 (by decide) (fun c18 => ?_) (fun c18 => ?_)
    · have h19 := pp_t c18 h17
      clear h17
      refine lv_iconst (v := 0) hx hb dX7_fits_59 (by decide) ?_
      exact js_iret X hr hlk rfl G h19 hQ dX7_fits_60
    · have h20 := pp_f c18 h17
      clear h17
      refine lv_iconst (v := 1) hx hb dX7_fits_55 (by decide) ?_
      refine lv_goto (tgt := 60) hx hb dX7_fits_56 (by decide) ?_
      exact js_iret X hr hlk rfl G h20 hQ dX7_fits_60
  have h15 := pp_f c13 h3
  clear h3
  refine lv_lookup (off := 60) (tgt := 61) hx hb dX7_fits_1 (by decide) ((lv_osw c1 (by decide)).trans ((lv_osw c13 (by decide)).trans (rfl))) (by decide) ?_
  refine lv_iload_n hx hb dX7_fits_61 rfl (lv_at hl 1 rfl) ?_
  refine lv_iload_n hx hb dX7_fits_62 rfl (lv_at hl 0 rfl) ?_
  refine lv_icmp_ne (tgt := 70) hx hb dX7_fits_63 (by decide) (fun c21 => ?_) (fun c21 => ?_)
  · have h22 := pp_f c21 h15
    clear h15
    refine lv_iconst (v := 0) hx hb dX7_fits_70 (by decide) ?_
    exact js_iret X hr hlk rfl G h22 hQ dX7_fits_71
  · have h23 := pp_t c21 h15
    clear h15
    refine lv_iconst (v := 1) hx hb dX7_fits_66 (by decide) ?_
    refine lv_goto (tgt := 71) hx hb dX7_fits_67 (by decide) ?_
    exact js_iret X hr hlk rfl G h23 hQ dX7_fits_71
noncomputable def z_X7_shapeBehind (v0 : Int32) : Option Nat := (if v0 = (98 : Int32) then some (3 : Nat) else (if v0 = (103 : Int32) then some (3 : Nat) else (if v0 = (111 : Int32) then some (4 : Nat) else (if v0 = (112 : Int32) then some (2 : Nat) else some (0 : Nat)))))
abbrev rmX7_shapeBehind : Room := { frames := 0, cells := 0, slots := 0, locals := 0 }
set_option maxHeartbeats 4000000 in
set_option maxRecDepth 100000 in
theorem ctX7_shapeBehind (l : Launch) (ad : Nat → Nat) (v0 : Int32) {res : Nat} (h : z_X7_shapeBehind v0 = some res) : js_Mo l yX7_shapeBehind wsX7_shapeBehind rmX7_shapeBehind ad [.int v0] (ad (100 + res)) := by
  intro sz A
  unfold z_X7_shapeBehind at h
  refine js_ofW (own := RX7) (by decide) rfl rfl (Nat.le_of_ble_eq_true rfl) ?_
  intro p e s m args below meth c ls X hr hlk G hl Q hQ
  have hx := X.1.1
  have hb := X.1.2.1
  have hown := X.1.2.2.2.1
  have hts := X.1.2.2.2.2
  refine (fun (key : ∀ (H : Heap) (locs : List Loc), js_H s H locs → W p l e (headSpec wsX7_shapeBehind rmX7_shapeBehind).room s m args below meth c H locs 0 0 Q (F0 m 0 ls [])) => key _ _ G) ?_
  clear G
  intro H locs G
  have hl : lv_has ls 1 [(0, .int v0)] := hl
  refine lv_iload_n hx hb dX7_shapeBehind_0 rfl (lv_at hl 0 rfl) ?_
  by_cases c1 : v0 = (98 : Int32)
  · have h2 := pp_t c1 h
    clear h
    refine lv_lookup (off := 46) (tgt := 47) hx hb dX7_shapeBehind_1 (by decide) (by rw [c1]; decide) (by decide) ?_
    refine va_ldcS hx hb hown X.2.2.2.2.2.1 dX7_shapeBehind_47 ?_
    exact js_oret X hr ⟨_, rfl⟩ hlk G (congrArg (fun z => ad (100 + z)) (Option.some.inj h2)) hQ dX7_shapeBehind_49
  have h3 := pp_f c1 h
  clear h
  by_cases c4 : v0 = (103 : Int32)
  · have h5 := pp_t c4 h3
    clear h3
    refine lv_lookup (off := 49) (tgt := 50) hx hb dX7_shapeBehind_1 (by decide) (by rw [c4]; decide) (by decide) ?_
    refine va_ldcS hx hb hown X.2.2.2.2.2.1 dX7_shapeBehind_50 ?_
    exact js_oret X hr ⟨_, rfl⟩ hlk G (congrArg (fun z => ad (100 + z)) (Option.some.inj h5)) hQ dX7_shapeBehind_52
  have h6 := pp_f c4 h3
  clear h3
  by_cases c7 : v0 = (111 : Int32)
  · have h8 := pp_t c7 h6
    clear h6
    refine lv_lookup (off := 52) (tgt := 53) hx hb dX7_shapeBehind_1 (by decide) (by rw [c7]; decide) (by decide) ?_
    refine va_ldcS hx hb hown X.2.2.2.2.2.2 dX7_shapeBehind_53 ?_
    exact js_oret X hr ⟨_, rfl⟩ hlk G (congrArg (fun z => ad (100 + z)) (Option.some.inj h8)) hQ dX7_shapeBehind_55
  have h9 := pp_f c7 h6
  clear h6
  by_cases c10 : v0 = (112 : Int32)
  · have h11 := pp_t c10 h9
    clear h9
    refine lv_lookup (off := 43) (tgt := 44) hx hb dX7_shapeBehind_1 (by decide) (by rw [c10]; decide) (by decide) ?_
    refine va_ldcS hx hb hown X.2.2.2.2.1 dX7_shapeBehind_44 ?_
    exact js_oret X hr ⟨_, rfl⟩ hlk G (congrArg (fun z => ad (100 + z)) (Option.some.inj h11)) hQ dX7_shapeBehind_46
  have h12 := pp_f c10 h9
  clear h9
  refine lv_lookup (off := 55) (tgt := 56) hx hb dX7_shapeBehind_1 (by decide) ((lv_osw c1 (by decide)).trans ((lv_osw c4 (by decide)).trans ((lv_osw c7 (by decide)).trans ((lv_osw c10 (by decide)).trans (rfl))))) (by decide) ?_
  refine va_ldcS hx hb hown X.2.2.1 dX7_shapeBehind_56 ?_
  exact js_oret X hr ⟨_, rfl⟩ hlk G (congrArg (fun z => ad (100 + z)) (Option.some.inj h12)) hQ dX7_shapeBehind_58
noncomputable def T_unfitLetter (x : rr_S) : Option Int32 := pp_it (fun (self1 : Nat × Int32 × Int32 → Option Int32) (a1 : Nat × Int32 × Int32) => (if (x.1 1) ≤ a1.2.2 then pp_lj (fun (a4 : Unit) => (some (x.1 1) : Option Int32)) (fun j4 => (if (x.1 1) = (0 : Int32) then j4 () else pp_l5 a1.1 (pp_ob (z_J0_length_8abf5 a1.1) (fun r10 => (if r10 ≤ a1.2.1 then some (-9 : Int32) else j4 ()))))) else pp_l5 a1.1 (pp_ob (z_J0_length_8abf5 a1.1) (fun r18 => pp_lj (fun (a22 : Nat × Int32) => (pp_lj (a1.2.2 + 1 : Int32) (fun x25 => self1 (a22.1, a22.2, x25)) : Option Int32)) (fun j22 => (if r18 ≤ a1.2.1 then pp_ob (T_letterAt x a1.2.2) (fun r29 => pp_ob (z_X7_shapeBehind r29) (fun r31 => pp_l5 r31 (pp_ob (z_J0_isEmpty_aae02 r31) (fun r33 => (if r33 = (0 : Int32) then j22 (r31, (0 : Int32)) else some a1.2.2))))) else pp_ob (z_J0_charAt_5068e a1.1 a1.2.1) (fun r41 => pp_ob (T_letterAt x a1.2.2) (fun r43 => pp_ob (z_X7_fits r41 r43) (fun r45 => (if r45 = (0 : Int32) then some a1.2.2 else pp_lj (a1.2.1 + 1 : Int32) (fun x49 => j22 (a1.1, x49)))))))))))) 200 (0, (0 : Int32), (0 : Int32))
abbrev rmX7_unfitLetter : Room := { frames := 5, cells := 0, slots := 0, locals := 112 }
set_option maxHeartbeats 4000000 in
set_option maxRecDepth 100000 in
theorem ctX7_unfitLetter (l : Launch) (g : cc_G) (pls : va_W) (q : cc_S) (x : rr_S) {res : Int32} (h : T_unfitLetter x = some res) : cc_Mi l yX7_unfitLetter wsX7_unfitLetter rmX7_unfitLetter g pls [.ref (cc_ad g 1)] (cc_pT q x) res (cc_pT q x) := by
  intro sz A hA
  unfold T_unfitLetter at h
  refine cc_ofW hA (own := RX7) (by decide) rfl rfl (Nat.le_of_ble_eq_true rfl) ?_
  intro p e s m args below meth c ls X hr hlk G hl Q hQ
  have hx := X.1.1
  have hb := X.1.2.1
  have hown := X.1.2.2.2.1
  have hts := X.1.2.2.2.2
  refine (fun (key : ∀ (H : Heap) (locs : List Loc), cc_H g A pls (cc_pT q x) s H locs → W p l e (headSpec wsX7_unfitLetter rmX7_unfitLetter).room s m args below meth c H locs 0 0 Q (F0 m 0 ls [])) => key _ _ G) ?_
  clear G
  intro H locs G
  have hl : lv_has ls 4 [(0, .ref (cc_ad g 1))] := hl
  have hf15 : Cond.fieldLink RX7 15 (TX7 1).1 (TX7 1).2.1 (TX7 1).2.2.1 ∈ wsX7_unfitLetter := by decide +kernel
  have hin7 : ∀ y ∈ wsX70, y ∈ wsX7_unfitLetter := (fun _ z => List.mem_cons_of_mem _ (List.mem_append_right _ z))
  refine va_ldcS hx hb hown X.2.1.2.2.2.1 dX7_unfitLetter_0 ?_
  refine lv_astore_n (lv' := [(1, .ref (cc_ad g (100 + 0))), (0, .ref (cc_ad g 1))]) hx hb dX7_unfitLetter_2 rfl hl (by decide) rfl (fun ls hl => ?_)
  refine lv_iconst (v := 0) hx hb dX7_unfitLetter_3 (by decide) ?_
  refine lv_istore_n (lv' := [(2, .int (0 : Int32)), (1, .ref (cc_ad g (100 + 0))), (0, .ref (cc_ad g 1))]) hx hb dX7_unfitLetter_4 rfl hl (by decide) rfl (fun ls hl => ?_)
  refine lv_iconst (v := 0) hx hb dX7_unfitLetter_5 (by decide) ?_
  refine lv_istore_n (lv' := [(3, .int (0 : Int32)), (2, .int (0 : Int32)), (1, .ref (cc_ad g (100 + 0))), (0, .ref (cc_ad g 1))]) hx hb dX7_unfitLetter_6 rfl hl (by decide) rfl (fun ls hl => ?_)
  refine pp_loop (I := fun (a1 : Nat × Int32 × Int32) => ∀ (H : Heap) (locs : List Loc) (ls : Array Slot), cc_H g A pls (cc_pT q x) s H locs → lv_has ls 4 [(0, .ref (cc_ad g 1)), (1, .ref (cc_ad g (100 + a1.1))), (2, .int a1.2.1), (3, .int a1.2.2)] → W p l e (headSpec wsX7_unfitLetter rmX7_unfitLetter).room s m args below meth c H locs 0 0 Q (F0 m 7 ls [])) ?_ 200 _ h H locs ls G (lv_sub hl [3, 2, 1, 0] rfl)
  clear h
  intro self1 ih1 a1 h1 H locs ls G hl
  refine lv_iload_n hx hb dX7_unfitLetter_7 rfl (lv_at hl 3 rfl) ?_
  refine lv_aload_n hx hb dX7_unfitLetter_8 rfl (lv_at hl 0 rfl) ?_
  refine cc_get (to_text g q) X G (x := x) rfl hin7 1 (by decide) hf15 (v := .int (x.1 1)) rfl dX7_unfitLetter_9 ?_
  refine lv_icmp_ge (tgt := 73) hx hb dX7_unfitLetter_12 (by decide) (fun c2 => ?_) (fun c2 => ?_)
  · have h3 := pp_t c2 h1
    clear h1
    refine lv_aload_n hx hb dX7_unfitLetter_73 rfl (lv_at hl 0 rfl) ?_
    refine cc_get (to_text g q) X G (x := x) rfl hin7 1 (by decide) hf15 (v := .int (x.1 1)) rfl dX7_unfitLetter_74 ?_
    obtain ⟨j4, ej4, h5⟩ := pp_lj_ex h3
    clear h3
    have hj4 : ∀ (a4 : Unit) (H : Heap) (locs : List Loc) (ls : Array Slot), j4 a4 = some res → cc_H g A pls (cc_pT q x) s H locs → lv_has ls 4 [(0, .ref (cc_ad g 1))] → W p l e (headSpec wsX7_unfitLetter rmX7_unfitLetter).room s m args below meth c H locs 0 0 Q (F0 m 88 ls []) := by
      intro a4 H locs ls h G hl
      have h6 := pp_jmp ej4 h
      clear h h5
      refine lv_aload_n hx hb dX7_unfitLetter_88 rfl (lv_at hl 0 rfl) ?_
      refine cc_get (to_text g q) X G (x := x) rfl hin7 1 (by decide) hf15 (v := .int (x.1 1)) rfl dX7_unfitLetter_89 ?_
      refine lv_goto (tgt := 97) hx hb dX7_unfitLetter_92 (by decide) ?_
      exact cc_iret X hr hlk rfl G (Option.some.inj h6) rfl hQ dX7_unfitLetter_97
    refine lv_if_eq (tgt := 88) hx hb dX7_unfitLetter_77 (by decide) (fun c7 => ?_) (fun c7 => ?_)
    · have h8 := pp_t c7 h5
      clear h5
      exact hj4 _ H locs ls h8 G (lv_sub hl [0] rfl)
    · have h9 := pp_f c7 h5
      clear h5
      refine lv_iload_n hx hb dX7_unfitLetter_80 rfl (lv_at hl 2 rfl) ?_
      refine lv_aload_n hx hb dX7_unfitLetter_81 rfl (lv_at hl 1 rfl) ?_
      obtain ⟨hv11, h12⟩ := pp_l5_ex h9
      clear h9
      obtain ⟨r10, hc10, h13⟩ := pp_ob_ex h12
      clear h12
      refine cc_calj X G (i := a1.1) hv11 (ctJ0_length_8abf5 l g.2.2.1 (i := a1.1) hv11 hc10) (cwV 0 hts gX7_unfitLetter_J0_length_8abf5 rfl rfl rfl (by decide +kernel) ⟨Nat.le_of_ble_eq_true rfl, Nat.le_of_ble_eq_true rfl⟩) (rest := [.int a1.2.1]) rfl hl.1 rfl (Nat.le_of_ble_eq_true rfl) dX7_unfitLetter_82 (fun H locs G => ?_)
      refine lv_icmp_ge (tgt := 95) hx hb dX7_unfitLetter_85 (by decide) (fun c14 => ?_) (fun c14 => ?_)
      · have h15 := pp_t c14 h13
        clear h13
        refine lv_bipush (v := -9) hx hb dX7_unfitLetter_95 (by decide) ?_
        exact cc_iret X hr hlk rfl G (Option.some.inj h15) rfl hQ dX7_unfitLetter_97
      · have h16 := pp_f c14 h13
        clear h13
        exact hj4 _ H locs ls h16 G (lv_sub hl [0] rfl)
  · have h17 := pp_f c2 h1
    clear h1
    refine lv_iload_n hx hb dX7_unfitLetter_15 rfl (lv_at hl 2 rfl) ?_
    refine lv_aload_n hx hb dX7_unfitLetter_16 rfl (lv_at hl 1 rfl) ?_
    obtain ⟨hv19, h20⟩ := pp_l5_ex h17
    clear h17
    obtain ⟨r18, hc18, h21⟩ := pp_ob_ex h20
    clear h20
    refine cc_calj X G (i := a1.1) hv19 (ctJ0_length_8abf5 l g.2.2.1 (i := a1.1) hv19 hc18) (cwV 0 hts gX7_unfitLetter_J0_length_8abf5 rfl rfl rfl (by decide +kernel) ⟨Nat.le_of_ble_eq_true rfl, Nat.le_of_ble_eq_true rfl⟩) (rest := [.int a1.2.1]) rfl hl.1 rfl (Nat.le_of_ble_eq_true rfl) dX7_unfitLetter_17 (fun H locs G => ?_)
    obtain ⟨j22, ej22, h23⟩ := pp_lj_ex h21
    clear h21
    have hj22 : ∀ (a22 : Nat × Int32) (H : Heap) (locs : List Loc) (ls : Array Slot), j22 a22 = some res → cc_H g A pls (cc_pT q x) s H locs → lv_has ls 4 [(0, .ref (cc_ad g 1)), (1, .ref (cc_ad g (100 + a22.1))), (2, .int a22.2), (3, .int a1.2.2)] → W p l e (headSpec wsX7_unfitLetter rmX7_unfitLetter).room s m args below meth c H locs 0 0 Q (F0 m 67 ls []) := by
      intro a22 H locs ls h G hl
      have h24 := pp_jmp ej22 h
      clear h h23
      obtain ⟨x25, ex25, h26⟩ := pp_lj_ex h24
      clear h24
      refine lv_iinc (v := x25) (lv' := [(3, .int x25), (0, .ref (cc_ad g 1)), (1, .ref (cc_ad g (100 + a22.1))), (2, .int a22.2)]) hx hb dX7_unfitLetter_67 hl (k := 3) rfl (by rw [ex25]; rfl) (by decide) rfl (fun ls hl => ?_)
      refine lv_goto (tgt := 7) hx hb dX7_unfitLetter_70 (by decide) ?_
      exact ih1 _ h26 H locs ls G (lv_sub hl [1, 2, 3, 0] rfl)
    refine lv_icmp_ge (tgt := 47) hx hb dX7_unfitLetter_20 (by decide) (fun c27 => ?_) (fun c27 => ?_)
    · have h28 := pp_t c27 h23
      clear h23
      refine lv_aload_n hx hb dX7_unfitLetter_47 rfl (lv_at hl 0 rfl) ?_
      refine lv_iload_n hx hb dX7_unfitLetter_48 rfl (lv_at hl 3 rfl) ?_
      obtain ⟨r29, hc29, h30⟩ := pp_ob_ex h28
      clear h28
      refine cc_cali (q2 := (cc_pT q x)) rfl rfl (to_text g q) X G (x := x) rfl (ctX7_letterAt l g pls q x _ hc29) (cwV 1 hts gX7_unfitLetter_X7_letterAt rfl rfl rfl (by decide +kernel) ⟨Nat.le_of_ble_eq_true rfl, Nat.le_of_ble_eq_true rfl⟩) (rest := []) rfl hl.1 rfl (Nat.le_of_ble_eq_true rfl) dX7_unfitLetter_49 (fun H locs G => ?_)
      obtain ⟨r31, hc31, h32⟩ := pp_ob_ex h30
      clear h30
      refine cc_coj X G (ctX7_shapeBehind l g.2.2.1 _ hc31) (va_cwS 1 hts gX7_unfitLetter_X7_shapeBehind rfl rfl rfl (by decide +kernel) ⟨Nat.le_of_ble_eq_true rfl, Nat.le_of_ble_eq_true rfl⟩) (rest := []) rfl hl.1 rfl (Nat.le_of_ble_eq_true rfl) dX7_unfitLetter_52 (fun H locs G => ?_)
      refine lv_astore_n (lv' := [(1, .ref (cc_ad g (100 + r31))), (0, .ref (cc_ad g 1)), (2, .int a1.2.1), (3, .int a1.2.2)]) hx hb dX7_unfitLetter_55 rfl hl (by decide) rfl (fun ls hl => ?_)
      refine lv_iconst (v := 0) hx hb dX7_unfitLetter_56 (by decide) ?_
      refine lv_istore_n (lv' := [(2, .int (0 : Int32)), (1, .ref (cc_ad g (100 + r31))), (0, .ref (cc_ad g 1)), (3, .int a1.2.2)]) hx hb dX7_unfitLetter_57 rfl hl (by decide) rfl (fun ls hl => ?_)
      refine lv_aload_n hx hb dX7_unfitLetter_58 rfl (lv_at hl 1 rfl) ?_
      obtain ⟨hv34, h35⟩ := pp_l5_ex h32
      clear h32
      obtain ⟨r33, hc33, h36⟩ := pp_ob_ex h35
      clear h35
      refine cc_calj X G (i := r31) hv34 (ctJ0_isEmpty_aae02 l g.2.2.1 (i := r31) hv34 hc33) (cwV 0 hts gX7_unfitLetter_J0_isEmpty_aae02 rfl rfl rfl (by decide +kernel) ⟨Nat.le_of_ble_eq_true rfl, Nat.le_of_ble_eq_true rfl⟩) (rest := []) rfl hl.1 rfl (Nat.le_of_ble_eq_true rfl) dX7_unfitLetter_59 (fun H locs G => ?_)
      refine lv_if_eq (tgt := 67) hx hb dX7_unfitLetter_62 (by decide) (fun c37 => ?_) (fun c37 => ?_)
      · have h38 := pp_t c37 h36
        clear h36
        exact hj22 _ H locs ls h38 G (lv_sub hl [2, 1, 0, 3] rfl)
      · have h39 := pp_f c37 h36
        clear h36
        refine lv_iload_n hx hb dX7_unfitLetter_65 rfl (lv_at hl 3 rfl) ?_
        exact cc_iret X hr hlk rfl G (Option.some.inj h39) rfl hQ dX7_unfitLetter_66
    · have h40 := pp_f c27 h23
      clear h23
      refine lv_aload_n hx hb dX7_unfitLetter_23 rfl (lv_at hl 1 rfl) ?_
      refine lv_iload_n hx hb dX7_unfitLetter_24 rfl (lv_at hl 2 rfl) ?_
      obtain ⟨r41, hc41, h42⟩ := pp_ob_ex h40
      clear h40
      refine cc_calj X G (i := a1.1) hv19 (ctJ0_charAt_5068e l g.2.2.1 (i := a1.1) hv19 _ hc41) (cwV 1 hts gX7_unfitLetter_J0_charAt_5068e rfl rfl rfl (by decide +kernel) ⟨Nat.le_of_ble_eq_true rfl, Nat.le_of_ble_eq_true rfl⟩) (rest := []) rfl hl.1 rfl (Nat.le_of_ble_eq_true rfl) dX7_unfitLetter_25 (fun H locs G => ?_)
      refine lv_aload_n hx hb dX7_unfitLetter_28 rfl (lv_at hl 0 rfl) ?_
      refine lv_iload_n hx hb dX7_unfitLetter_29 rfl (lv_at hl 3 rfl) ?_
      obtain ⟨r43, hc43, h44⟩ := pp_ob_ex h42
      clear h42
      refine cc_cali (q2 := (cc_pT q x)) rfl rfl (to_text g q) X G (x := x) rfl (ctX7_letterAt l g pls q x _ hc43) (cwV 1 hts gX7_unfitLetter_X7_letterAt rfl rfl rfl (by decide +kernel) ⟨Nat.le_of_ble_eq_true rfl, Nat.le_of_ble_eq_true rfl⟩) (rest := [.int r41]) rfl hl.1 rfl (Nat.le_of_ble_eq_true rfl) dX7_unfitLetter_30 (fun H locs G => ?_)
      obtain ⟨r45, hc45, h46⟩ := pp_ob_ex h44
      clear h44
      refine cc_csj X G (ctX7_fits l g.2.2.1 _ _ hc45) (va_cwS 2 hts gX7_unfitLetter_X7_fits rfl rfl rfl (by decide +kernel) ⟨Nat.le_of_ble_eq_true rfl, Nat.le_of_ble_eq_true rfl⟩) (rest := []) rfl hl.1 rfl (Nat.le_of_ble_eq_true rfl) dX7_unfitLetter_33 (fun H locs G => ?_)
      refine lv_if_ne (tgt := 41) hx hb dX7_unfitLetter_36 (by decide) (fun c47 => ?_) (fun c47 => ?_)
      · have h48 := pp_f c47 h46
        clear h46
        obtain ⟨x49, ex49, h50⟩ := pp_lj_ex h48
        clear h48
        refine lv_iinc (v := x49) (lv' := [(2, .int x49), (0, .ref (cc_ad g 1)), (1, .ref (cc_ad g (100 + a1.1))), (3, .int a1.2.2)]) hx hb dX7_unfitLetter_41 hl (k := 2) rfl (by rw [ex49]; rfl) (by decide) rfl (fun ls hl => ?_)
        refine lv_goto (tgt := 67) hx hb dX7_unfitLetter_44 (by decide) ?_
        exact hj22 _ H locs ls h50 G (lv_sub hl [1, 2, 0, 3] rfl)
      · have h51 := pp_t c47 h46
        clear h46
        refine lv_iload_n hx hb dX7_unfitLetter_39 rfl (lv_at hl 3 rfl) ?_
        exact cc_iret X hr hlk rfl G (Option.some.inj h51) rfl hQ dX7_unfitLetter_40
noncomputable def T_kindAt (x : rr_S) (v1 : Int32) : Option Int32 := pp_ob (T_letterAt x v1) (fun r1 => pp_ob (z_J0_indexOf_0f7a4 1 r1) (fun r3 => some r3))
abbrev rmX7_kindAt : Room := { frames := 4, cells := 0, slots := 0, locals := 91 }
set_option maxHeartbeats 4000000 in
set_option maxRecDepth 100000 in
theorem ctX7_kindAt (l : Launch) (g : cc_G) (pls : va_W) (q : cc_S) (x : rr_S) (v1 : Int32) {res : Int32} (h : T_kindAt x v1 = some res) : cc_Mi l yX7_kindAt wsX7_kindAt rmX7_kindAt g pls [.ref (cc_ad g 1), .int v1] (cc_pT q x) res (cc_pT q x) := by
  intro sz A hA
  unfold T_kindAt at h
  refine cc_ofW hA (own := RX7) (by decide) rfl rfl (Nat.le_of_ble_eq_true rfl) ?_
  intro p e s m args below meth c ls X hr hlk G hl Q hQ
  have hx := X.1.1
  have hb := X.1.2.1
  have hown := X.1.2.2.2.1
  have hts := X.1.2.2.2.2
  refine (fun (key : ∀ (H : Heap) (locs : List Loc), cc_H g A pls (cc_pT q x) s H locs → W p l e (headSpec wsX7_kindAt rmX7_kindAt).room s m args below meth c H locs 0 0 Q (F0 m 0 ls [])) => key _ _ G) ?_
  clear G
  intro H locs G
  have hl : lv_has ls 2 [(0, .ref (cc_ad g 1)), (1, .int v1)] := hl
  refine va_ldcS hx hb hown X.2.1.2.2.2.2.1 dX7_kindAt_0 ?_
  refine lv_aload_n hx hb dX7_kindAt_2 rfl (lv_at hl 0 rfl) ?_
  refine lv_iload_n hx hb dX7_kindAt_3 rfl (lv_at hl 1 rfl) ?_
  obtain ⟨r1, hc1, h2⟩ := pp_ob_ex h
  clear h
  refine cc_cali (q2 := (cc_pT q x)) rfl rfl (to_text g q) X G (x := x) rfl (ctX7_letterAt l g pls q x _ hc1) (cwV 1 hts gX7_kindAt_X7_letterAt rfl rfl rfl (by decide +kernel) ⟨Nat.le_of_ble_eq_true rfl, Nat.le_of_ble_eq_true rfl⟩) (rest := [.ref (cc_ad g (100 + 1))]) rfl hl.1 rfl (Nat.le_of_ble_eq_true rfl) dX7_kindAt_4 (fun H locs G => ?_)
  obtain ⟨r3, hc3, h4⟩ := pp_ob_ex h2
  clear h2
  refine cc_calj X G (i := 1) (by decide) (ctJ0_indexOf_0f7a4 l g.2.2.1 (i := 1) (by decide) _ hc3) (cwV 1 hts gX7_kindAt_J0_indexOf_0f7a4 rfl rfl rfl (by decide +kernel) ⟨Nat.le_of_ble_eq_true rfl, Nat.le_of_ble_eq_true rfl⟩) (rest := []) rfl hl.1 rfl (Nat.le_of_ble_eq_true rfl) dX7_kindAt_7 (fun H locs G => ?_)
  exact cc_iret X hr hlk rfl G (Option.some.inj h4) rfl hQ dX7_kindAt_10
