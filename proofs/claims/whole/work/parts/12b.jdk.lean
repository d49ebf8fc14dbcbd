noncomputable def z_chk (v0 v1 : Int32) : Option Unit := if v0 < 0 then none else if v0 < v1 then some () else none
set_option maxHeartbeats 4000000 in
set_option maxRecDepth 100000 in
theorem ctJ3_checkIndex (l : Launch) (v0 v1 : Int32) (h : z_chk v0 v1 = some ()) (v2 : Value) (hv : v2 = .null ∨ ∃ t, v2 = .ref t) : xs_Mi l yJ3_checkIndex_8e157 wsJ3_checkIndex_8e157 { frames := 0, cells := 0, slots := 0, locals := 0 } [.int v0, .int v1, v2] v0 := by
  have h1 : ¬ v0 < 0 := fun z => by unfold z_chk at h; rw [if_pos z] at h; cases h
  have h2 : v0 < v1 := by
    unfold z_chk at h
    rw [if_neg h1] at h
    by_cases z : v0 < v1
    · exact z
    · rw [if_neg z] at h; cases h
  intro sz
  have hc : v2.category = 1 := by
    rcases hv with z | ⟨t, z⟩ <;> rw [z] <;> rfl
  refine xs_ofW (own := RJ3) (by decide) rfl rfl (by rcases hv with z | ⟨t, z⟩ <;> rw [z] <;> exact Nat.le_of_ble_eq_true rfl) ?_
  intro p e s m args below meth c ls X hr hlk hl Q hQ
  have hx := X.1
  have hb := X.2.1
  have hl : lv_has ls 3 [(0, .int v0), (1, .int v1), (2, v2)] := hl
  refine lv_iload_n hx hb dJ3_checkIndex_8e157_0 rfl (lv_at hl 0 rfl) ?_
  refine lv_if_lt (tgt := 9) hx hb dJ3_checkIndex_8e157_1 (by decide) (fun c1 => absurd c1 h1) (fun c1 => ?_)
  refine lv_iload_n hx hb dJ3_checkIndex_8e157_4 rfl (lv_at hl 0 rfl) ?_
  refine lv_iload_n hx hb dJ3_checkIndex_8e157_5 rfl (lv_at hl 1 rfl) ?_
  refine lv_icmp_lt (tgt := 16) hx hb dJ3_checkIndex_8e157_6 (by decide) (fun c2 => ?_) (fun c2 => absurd h2 c2)
  refine lv_iload_n hx hb dJ3_checkIndex_8e157_16 rfl (lv_at hl 0 rfl) ?_
  exact xs_iret hx hb hr hlk rfl rfl hQ dJ3_checkIndex_8e157_17
abbrev rmJ0_checkIndex_df160 : Room := { frames := 1, cells := 0, slots := 0, locals := 22 }
set_option maxHeartbeats 4000000 in
set_option maxRecDepth 100000 in
theorem ctJ0_checkIndex_df160 (l : Launch) (ad : Nat → Nat) (v0 v1 : Int32) (h : z_chk v0 v1 = some ()) : js_Mv l yJ0_checkIndex_df160 wsJ0_checkIndex_df160 rmJ0_checkIndex_df160 ad [.int v0, .int v1] := by
  intro sz A
  refine js_ofW (own := RJ0) (by decide) rfl rfl (Nat.le_of_ble_eq_true rfl) ?_
  intro p e s m args below meth c ls X hr hlk G hl Q hQ
  have hx := X.1.1
  have hb := X.1.2.1
  have hown := X.1.2.2.2.1
  have hts := X.1.2.2.2.2
  refine (fun (key : ∀ (H : Heap) (locs : List Loc), js_H s H locs → W p l e (headSpec wsJ0_checkIndex_df160 rmJ0_checkIndex_df160).room s m args below meth c H locs 0 0 Q (F0 m 0 ls [])) => key _ _ G) ?_
  clear G
  intro H locs G
  have hl : lv_has ls 2 [(0, .int v0), (1, .int v1)] := hl
  refine lv_iload_n hx hb dJ0_checkIndex_df160_0 rfl (lv_at hl 0 rfl) ?_
  refine lv_iload_n hx hb dJ0_checkIndex_df160_1 rfl (lv_at hl 1 rfl) ?_
  have fin : ∀ v2 : Value, (v2 = .null ∨ ∃ t, v2 = .ref t) → W p l e (headSpec wsJ0_checkIndex_df160 rmJ0_checkIndex_df160).room s m args below meth c H locs 0 0 Q (F0 m 5 ls [v2, .int v1, .int v0]) := by
    intro v2 hv
    have hM := ctJ3_checkIndex l v0 v1 h v2 hv
    refine js_csx X G hM (va_cwS 3 hts gJ0_checkIndex_df160_J3_checkIndex_8e157 rfl rfl rfl (by decide +kernel) ⟨Nat.le_of_ble_eq_true rfl, Nat.le_of_ble_eq_true rfl⟩) (rest := []) rfl hl.1 rfl (Nat.le_of_ble_eq_true rfl) dJ0_checkIndex_df160_5 (fun H locs G => ?_)
    refine lv_pop hx hb dJ0_checkIndex_df160_8 rfl ?_
    exact js_vret X hr hlk G hQ dJ0_checkIndex_df160_9
  rcases X.2.1.2.2 with hz | ⟨t, hz⟩
  · exact va_gets hx hb hz (js_S G) hown (hts (.fieldLink RJ0 1053 "jdk/internal/util/Preconditions" "SIOOBE_FORMATTER" "Ljava/util/function/BiFunction;") (by decide +kernel)) (fun _ z => z) dJ0_checkIndex_df160_2 (fin _ (Or.inl rfl))
  · exact va_gets hx hb hz (js_S G) hown (hts (.fieldLink RJ0 1053 "jdk/internal/util/Preconditions" "SIOOBE_FORMATTER" "Ljava/util/function/BiFunction;") (by decide +kernel)) (fun _ z => z) dJ0_checkIndex_df160_2 (fin _ (Or.inr ⟨t, rfl⟩))
