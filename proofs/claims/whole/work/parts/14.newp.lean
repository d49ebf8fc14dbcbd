def np_ci (v : Int32) : Nat := if v = 1 then 5 else if v = 2 then 0 else if v = 3 then 8 else if v = 4 then 9 else if v = 5 then 3 else 4
theorem np_isP (v : Int32) : cc_isP (np_ci v) := by
  unfold np_ci cc_isP
  by_cases h1 : v = 1
  · simp [h1]
  · by_cases h2 : v = 2
    · simp [h2]
    · by_cases h3 : v = 3
      · simp [h3]
      · by_cases h4 : v = 4
        · simp [h4]
        · by_cases h5 : v = 5 <;> simp [h1, h2, h3, h4, h5]
abbrev rmX10_newPlayer : Room := { frames := 4, cells := 1, slots := 4, locals := 84 }
set_option maxHeartbeats 4000000 in
set_option maxRecDepth 100000 in
theorem ctX10_newPlayer (l : Launch) (D : va_G) (v0 v1 v2 v3 : Int32) : cn_Mp l yX10_newPlayer wsX10_newPlayer rmX10_newPlayer D [.int v0, .int v1, .int v2, .int v3] (np_ci v0, cn_f v0 v1 v2 v3) := by
  intro sz
  refine Met.ofW (cc := cX10_newPlayer) (maxL := 4) (ret := (some (.object "BallsAtDodger$Player"))) (by decide) rfl ?_
  intro p e s m args below meth c s₁ B hml hv
  obtain ⟨rfl, hsz, hK⟩ := hv
  have hx := B.exec
  have hb := B.bytes
  have hr := B.returns
  have hts := atoms_spec (ws := wsX10_newPlayer) B.pre
  have hown : s.vm.findClass RX10 = some m.cls := findClass_of_methodNamed B.named
  have hlocks := B.notSynchronized
  subst hsz
  have hS : va_S (fun q : Nat => s.heap.size ≤ q) s.heap s.heap [] := va_S.rf
  have hA : ∀ q : Nat, s.heap.size ≤ q → (fun q : Nat => s.heap.size ≤ q) q := fun _ h => h
  have hP : va_P D vwCl [] s.heap := fun k q h => by simp at h
  have hD : va_D (fun q : Nat => s.heap.size ≤ q) [] := ⟨fun i j p q h => by simp at h, fun k q h => by simp at h⟩
  have hl := lv_entry ([.int v0, .int v1, .int v2, .int v3]) (n := 4) (Nat.le_of_ble_eq_true rfl)
  rw [lg_entry_eq]
  generalize (lg_sl ([.int v0, .int v1, .int v2, .int v3]) ++ List.replicate (4 - (lg_sl ([.int v0, .int v1, .int v2, .int v3])).length) Slot.unset).toArray = ls at hl ⊢
  have hl : lv_has ls 4 [(0, .int v0), (1, .int v1), (2, .int v2), (3, .int v3)] := hl
  refine lv_iload_n hx hb dX10_newPlayer_0 rfl (lv_at hl 0 rfl) ?_
  by_cases c1 : v0 = (1 : Int32)
  · refine lv_tableIn (off := 35) (tgt := 36) hx hb dX10_newPlayer_1 (by rw [c1]; decide) (by rw [c1]; decide) (by rw [c1]; decide) (by decide) ?_
    refine va_new (ci := 5) (fs := [.int 0, .int 0, .int 0, .int 0]) (C := RX5) (T := TX5) (N := 4) hx hb hts (fun _ z => List.mem_cons_of_mem _ (List.mem_append_left _ (List.mem_append_left _ (List.mem_append_left _ (List.mem_append_left _ (List.mem_append_left _ (List.mem_append_right _ z))))))) tyX5 tyX5_ok hown (hts (.classLink RX10 256 RX5) (by decide +kernel)) (hts (.instantiable RX5 4) (by decide +kernel)) (hts (.initialized RX5) (by decide +kernel)) hK hP hD hS hA rfl (fun j hj => by rcases (show j = 0 ∨ j = 1 ∨ j = 2 ∨ j = 3 by omega) with rfl | rfl | rfl | rfl <;> rfl) (Nat.le_of_ble_eq_true rfl) (Nat.le_of_ble_eq_true rfl) dX10_newPlayer_36 (fun a H hP hD hS => ?_)
    have hP : va_P D vwCl [(a, cc_plc (5, cn_f 0 0 0 0))] H := hP
    have ha : s.heap.size ≤ a := hD.2 0 _ rfl
    refine lv_dup hx hb dX10_newPlayer_39 rfl ?_
    refine lv_iload_n hx hb dX10_newPlayer_40 rfl (lv_at hl 0 rfl) ?_
    refine lv_iload_n hx hb dX10_newPlayer_41 rfl (lv_at hl 1 rfl) ?_
    refine lv_iload_n hx hb dX10_newPlayer_42 rfl (lv_at hl 2 rfl) ?_
    refine lv_iload_n hx hb dX10_newPlayer_43 rfl (lv_at hl 3 rfl) ?_
    refine va_callv (va_runI (As := [.int v0, .int v1, .int v2, .int v3]) (rest := [.ref a]) ⟨hx, hb, hml, hown, hts⟩ (ctX5_init l D a (5, cn_f 0 0 0 0) (by unfold cc_isP; decide) v0 v1 v2 v3 H.size) (cwI 4 hts gX10_newPlayer_X5_init rfl rfl rfl (hts (.initialized RX5) (by decide +kernel)) (hts (.methodLink RX10 258 yX5_init) (by decide +kernel)) (hts (.instanceMethod yX5_init) (by decide +kernel)) rfl (by decide +kernel) ⟨Nat.le_of_ble_eq_true rfl, Nat.le_of_ble_eq_true rfl⟩) ⟨cn_blind _ _ _ _, fun U hU hW => ⟨rfl, by show U.heap.size = H.size; rw [hU], by rw [hU]; exact hP, va_K.moved hW.alike hK⟩⟩ rfl rfl hl.1 rfl (lv_room (Nat.le_of_ble_eq_true rfl)) dX10_newPlayer_44 ⟨Nat.le_of_ble_eq_true rfl, Nat.le_of_ble_eq_true rfl⟩) hS (fun q _ h => h.elim (fun z => z ▸ ha) (fun z => Nat.le_trans hS.1 z)) (fun q h => h.elim (fun z => z ▸ ha) (fun z => Nat.le_trans hS.1 z)) (fun u t H1 locs ht hvm hw hB hz1 hk1 hS => ?_)
    have hB : va_P D vwCl [(a, cc_plc (5, cn_f v0 v1 v2 v3))] H1 := by rw [← ht]; exact hB
    have he : np_ci v0 = 5 := by rw [c1]; decide
    rw [← he] at hB
    exact W.aret hx hb hr (Or.inl ⟨_, rfl⟩) (Or.inr ⟨a, rfl⟩) (fun t2 ht2 hW => ⟨⟨(), a, rfl, trivial, ha, by rw [ht2]; exact hB⟩, hS.F ht2⟩) hS.2.2 dX10_newPlayer_47
  by_cases c2 : v0 = (2 : Int32)
  · refine lv_tableIn (off := 47) (tgt := 48) hx hb dX10_newPlayer_1 (by rw [c2]; decide) (by rw [c2]; decide) (by rw [c2]; decide) (by decide) ?_
    refine va_new (ci := 0) (fs := [.int 0, .int 0, .int 0, .int 0]) (C := RX0) (T := TX0) (N := 4) hx hb hts (fun _ z => List.mem_cons_of_mem _ (List.mem_append_left _ (List.mem_append_left _ (List.mem_append_left _ (List.mem_append_left _ (List.mem_append_right _ z)))))) tyX0 tyX0_ok hown (hts (.classLink RX10 260 RX0) (by decide +kernel)) (hts (.instantiable RX0 4) (by decide +kernel)) (hts (.initialized RX0) (by decide +kernel)) hK hP hD hS hA rfl (fun j hj => by rcases (show j = 0 ∨ j = 1 ∨ j = 2 ∨ j = 3 by omega) with rfl | rfl | rfl | rfl <;> rfl) (Nat.le_of_ble_eq_true rfl) (Nat.le_of_ble_eq_true rfl) dX10_newPlayer_48 (fun a H hP hD hS => ?_)
    have hP : va_P D vwCl [(a, cc_plc (0, cn_f 0 0 0 0))] H := hP
    have ha : s.heap.size ≤ a := hD.2 0 _ rfl
    refine lv_dup hx hb dX10_newPlayer_51 rfl ?_
    refine lv_iload_n hx hb dX10_newPlayer_52 rfl (lv_at hl 0 rfl) ?_
    refine lv_iload_n hx hb dX10_newPlayer_53 rfl (lv_at hl 1 rfl) ?_
    refine lv_iload_n hx hb dX10_newPlayer_54 rfl (lv_at hl 2 rfl) ?_
    refine lv_iload_n hx hb dX10_newPlayer_55 rfl (lv_at hl 3 rfl) ?_
    refine va_callv (va_runI (As := [.int v0, .int v1, .int v2, .int v3]) (rest := [.ref a]) ⟨hx, hb, hml, hown, hts⟩ (ctX0_init l D a (0, cn_f 0 0 0 0) (by unfold cc_isP; decide) v0 v1 v2 v3 H.size) (cwI 4 hts gX10_newPlayer_X0_init rfl rfl rfl (hts (.initialized RX0) (by decide +kernel)) (hts (.methodLink RX10 262 yX0_init) (by decide +kernel)) (hts (.instanceMethod yX0_init) (by decide +kernel)) rfl (by decide +kernel) ⟨Nat.le_of_ble_eq_true rfl, Nat.le_of_ble_eq_true rfl⟩) ⟨cn_blind _ _ _ _, fun U hU hW => ⟨rfl, by show U.heap.size = H.size; rw [hU], by rw [hU]; exact hP, va_K.moved hW.alike hK⟩⟩ rfl rfl hl.1 rfl (lv_room (Nat.le_of_ble_eq_true rfl)) dX10_newPlayer_56 ⟨Nat.le_of_ble_eq_true rfl, Nat.le_of_ble_eq_true rfl⟩) hS (fun q _ h => h.elim (fun z => z ▸ ha) (fun z => Nat.le_trans hS.1 z)) (fun q h => h.elim (fun z => z ▸ ha) (fun z => Nat.le_trans hS.1 z)) (fun u t H1 locs ht hvm hw hB hz1 hk1 hS => ?_)
    have hB : va_P D vwCl [(a, cc_plc (0, cn_f v0 v1 v2 v3))] H1 := by rw [← ht]; exact hB
    have he : np_ci v0 = 0 := by rw [c2]; decide
    rw [← he] at hB
    exact W.aret hx hb hr (Or.inl ⟨_, rfl⟩) (Or.inr ⟨a, rfl⟩) (fun t2 ht2 hW => ⟨⟨(), a, rfl, trivial, ha, by rw [ht2]; exact hB⟩, hS.F ht2⟩) hS.2.2 dX10_newPlayer_59
  by_cases c3 : v0 = (3 : Int32)
  · refine lv_tableIn (off := 59) (tgt := 60) hx hb dX10_newPlayer_1 (by rw [c3]; decide) (by rw [c3]; decide) (by rw [c3]; decide) (by decide) ?_
    refine va_new (ci := 8) (fs := [.int 0, .int 0, .int 0, .int 0]) (C := RX8) (T := TX8) (N := 4) hx hb hts (fun _ z => List.mem_cons_of_mem _ (List.mem_append_left _ (List.mem_append_left _ (List.mem_append_left _ (List.mem_append_right _ z))))) tyX8 tyX8_ok hown (hts (.classLink RX10 263 RX8) (by decide +kernel)) (hts (.instantiable RX8 4) (by decide +kernel)) (hts (.initialized RX8) (by decide +kernel)) hK hP hD hS hA rfl (fun j hj => by rcases (show j = 0 ∨ j = 1 ∨ j = 2 ∨ j = 3 by omega) with rfl | rfl | rfl | rfl <;> rfl) (Nat.le_of_ble_eq_true rfl) (Nat.le_of_ble_eq_true rfl) dX10_newPlayer_60 (fun a H hP hD hS => ?_)
    have hP : va_P D vwCl [(a, cc_plc (8, cn_f 0 0 0 0))] H := hP
    have ha : s.heap.size ≤ a := hD.2 0 _ rfl
    refine lv_dup hx hb dX10_newPlayer_63 rfl ?_
    refine lv_iload_n hx hb dX10_newPlayer_64 rfl (lv_at hl 0 rfl) ?_
    refine lv_iload_n hx hb dX10_newPlayer_65 rfl (lv_at hl 1 rfl) ?_
    refine lv_iload_n hx hb dX10_newPlayer_66 rfl (lv_at hl 2 rfl) ?_
    refine lv_iload_n hx hb dX10_newPlayer_67 rfl (lv_at hl 3 rfl) ?_
    refine va_callv (va_runI (As := [.int v0, .int v1, .int v2, .int v3]) (rest := [.ref a]) ⟨hx, hb, hml, hown, hts⟩ (ctX8_init l D a (8, cn_f 0 0 0 0) (by unfold cc_isP; decide) v0 v1 v2 v3 H.size) (cwI 4 hts gX10_newPlayer_X8_init rfl rfl rfl (hts (.initialized RX8) (by decide +kernel)) (hts (.methodLink RX10 265 yX8_init) (by decide +kernel)) (hts (.instanceMethod yX8_init) (by decide +kernel)) rfl (by decide +kernel) ⟨Nat.le_of_ble_eq_true rfl, Nat.le_of_ble_eq_true rfl⟩) ⟨cn_blind _ _ _ _, fun U hU hW => ⟨rfl, by show U.heap.size = H.size; rw [hU], by rw [hU]; exact hP, va_K.moved hW.alike hK⟩⟩ rfl rfl hl.1 rfl (lv_room (Nat.le_of_ble_eq_true rfl)) dX10_newPlayer_68 ⟨Nat.le_of_ble_eq_true rfl, Nat.le_of_ble_eq_true rfl⟩) hS (fun q _ h => h.elim (fun z => z ▸ ha) (fun z => Nat.le_trans hS.1 z)) (fun q h => h.elim (fun z => z ▸ ha) (fun z => Nat.le_trans hS.1 z)) (fun u t H1 locs ht hvm hw hB hz1 hk1 hS => ?_)
    have hB : va_P D vwCl [(a, cc_plc (8, cn_f v0 v1 v2 v3))] H1 := by rw [← ht]; exact hB
    have he : np_ci v0 = 8 := by rw [c3]; decide
    rw [← he] at hB
    exact W.aret hx hb hr (Or.inl ⟨_, rfl⟩) (Or.inr ⟨a, rfl⟩) (fun t2 ht2 hW => ⟨⟨(), a, rfl, trivial, ha, by rw [ht2]; exact hB⟩, hS.F ht2⟩) hS.2.2 dX10_newPlayer_71
  by_cases c4 : v0 = (4 : Int32)
  · refine lv_tableIn (off := 71) (tgt := 72) hx hb dX10_newPlayer_1 (by rw [c4]; decide) (by rw [c4]; decide) (by rw [c4]; decide) (by decide) ?_
    refine va_new (ci := 9) (fs := [.int 0, .int 0, .int 0, .int 0]) (C := RX9) (T := TX9) (N := 4) hx hb hts (fun _ z => List.mem_cons_of_mem _ (List.mem_append_left _ (List.mem_append_left _ (List.mem_append_right _ z)))) tyX9 tyX9_ok hown (hts (.classLink RX10 266 RX9) (by decide +kernel)) (hts (.instantiable RX9 4) (by decide +kernel)) (hts (.initialized RX9) (by decide +kernel)) hK hP hD hS hA rfl (fun j hj => by rcases (show j = 0 ∨ j = 1 ∨ j = 2 ∨ j = 3 by omega) with rfl | rfl | rfl | rfl <;> rfl) (Nat.le_of_ble_eq_true rfl) (Nat.le_of_ble_eq_true rfl) dX10_newPlayer_72 (fun a H hP hD hS => ?_)
    have hP : va_P D vwCl [(a, cc_plc (9, cn_f 0 0 0 0))] H := hP
    have ha : s.heap.size ≤ a := hD.2 0 _ rfl
    refine lv_dup hx hb dX10_newPlayer_75 rfl ?_
    refine lv_iload_n hx hb dX10_newPlayer_76 rfl (lv_at hl 0 rfl) ?_
    refine lv_iload_n hx hb dX10_newPlayer_77 rfl (lv_at hl 1 rfl) ?_
    refine lv_iload_n hx hb dX10_newPlayer_78 rfl (lv_at hl 2 rfl) ?_
    refine lv_iload_n hx hb dX10_newPlayer_79 rfl (lv_at hl 3 rfl) ?_
    refine va_callv (va_runI (As := [.int v0, .int v1, .int v2, .int v3]) (rest := [.ref a]) ⟨hx, hb, hml, hown, hts⟩ (ctX9_init l D a (9, cn_f 0 0 0 0) (by unfold cc_isP; decide) v0 v1 v2 v3 H.size) (cwI 4 hts gX10_newPlayer_X9_init rfl rfl rfl (hts (.initialized RX9) (by decide +kernel)) (hts (.methodLink RX10 268 yX9_init) (by decide +kernel)) (hts (.instanceMethod yX9_init) (by decide +kernel)) rfl (by decide +kernel) ⟨Nat.le_of_ble_eq_true rfl, Nat.le_of_ble_eq_true rfl⟩) ⟨cn_blind _ _ _ _, fun U hU hW => ⟨rfl, by show U.heap.size = H.size; rw [hU], by rw [hU]; exact hP, va_K.moved hW.alike hK⟩⟩ rfl rfl hl.1 rfl (lv_room (Nat.le_of_ble_eq_true rfl)) dX10_newPlayer_80 ⟨Nat.le_of_ble_eq_true rfl, Nat.le_of_ble_eq_true rfl⟩) hS (fun q _ h => h.elim (fun z => z ▸ ha) (fun z => Nat.le_trans hS.1 z)) (fun q h => h.elim (fun z => z ▸ ha) (fun z => Nat.le_trans hS.1 z)) (fun u t H1 locs ht hvm hw hB hz1 hk1 hS => ?_)
    have hB : va_P D vwCl [(a, cc_plc (9, cn_f v0 v1 v2 v3))] H1 := by rw [← ht]; exact hB
    have he : np_ci v0 = 9 := by rw [c4]; decide
    rw [← he] at hB
    exact W.aret hx hb hr (Or.inl ⟨_, rfl⟩) (Or.inr ⟨a, rfl⟩) (fun t2 ht2 hW => ⟨⟨(), a, rfl, trivial, ha, by rw [ht2]; exact hB⟩, hS.F ht2⟩) hS.2.2 dX10_newPlayer_83
  by_cases c5 : v0 = (5 : Int32)
  · refine lv_tableIn (off := 83) (tgt := 84) hx hb dX10_newPlayer_1 (by rw [c5]; decide) (by rw [c5]; decide) (by rw [c5]; decide) (by decide) ?_
    refine va_new (ci := 3) (fs := [.int 0, .int 0, .int 0, .int 0]) (C := RX3) (T := TX3) (N := 4) hx hb hts (fun _ z => List.mem_cons_of_mem _ (List.mem_append_left _ (List.mem_append_right _ z))) tyX3 tyX3_ok hown (hts (.classLink RX10 269 RX3) (by decide +kernel)) (hts (.instantiable RX3 4) (by decide +kernel)) (hts (.initialized RX3) (by decide +kernel)) hK hP hD hS hA rfl (fun j hj => by rcases (show j = 0 ∨ j = 1 ∨ j = 2 ∨ j = 3 by omega) with rfl | rfl | rfl | rfl <;> rfl) (Nat.le_of_ble_eq_true rfl) (Nat.le_of_ble_eq_true rfl) dX10_newPlayer_84 (fun a H hP hD hS => ?_)
    have hP : va_P D vwCl [(a, cc_plc (3, cn_f 0 0 0 0))] H := hP
    have ha : s.heap.size ≤ a := hD.2 0 _ rfl
    refine lv_dup hx hb dX10_newPlayer_87 rfl ?_
    refine lv_iload_n hx hb dX10_newPlayer_88 rfl (lv_at hl 0 rfl) ?_
    refine lv_iload_n hx hb dX10_newPlayer_89 rfl (lv_at hl 1 rfl) ?_
    refine lv_iload_n hx hb dX10_newPlayer_90 rfl (lv_at hl 2 rfl) ?_
    refine lv_iload_n hx hb dX10_newPlayer_91 rfl (lv_at hl 3 rfl) ?_
    refine va_callv (va_runI (As := [.int v0, .int v1, .int v2, .int v3]) (rest := [.ref a]) ⟨hx, hb, hml, hown, hts⟩ (ctX3_init l D a (3, cn_f 0 0 0 0) (by unfold cc_isP; decide) v0 v1 v2 v3 H.size) (cwI 4 hts gX10_newPlayer_X3_init rfl rfl rfl (hts (.initialized RX3) (by decide +kernel)) (hts (.methodLink RX10 271 yX3_init) (by decide +kernel)) (hts (.instanceMethod yX3_init) (by decide +kernel)) rfl (by decide +kernel) ⟨Nat.le_of_ble_eq_true rfl, Nat.le_of_ble_eq_true rfl⟩) ⟨cn_blind _ _ _ _, fun U hU hW => ⟨rfl, by show U.heap.size = H.size; rw [hU], by rw [hU]; exact hP, va_K.moved hW.alike hK⟩⟩ rfl rfl hl.1 rfl (lv_room (Nat.le_of_ble_eq_true rfl)) dX10_newPlayer_92 ⟨Nat.le_of_ble_eq_true rfl, Nat.le_of_ble_eq_true rfl⟩) hS (fun q _ h => h.elim (fun z => z ▸ ha) (fun z => Nat.le_trans hS.1 z)) (fun q h => h.elim (fun z => z ▸ ha) (fun z => Nat.le_trans hS.1 z)) (fun u t H1 locs ht hvm hw hB hz1 hk1 hS => ?_)
    have hB : va_P D vwCl [(a, cc_plc (3, cn_f v0 v1 v2 v3))] H1 := by rw [← ht]; exact hB
    have he : np_ci v0 = 3 := by rw [c5]; decide
    rw [← he] at hB
    exact W.aret hx hb hr (Or.inl ⟨_, rfl⟩) (Or.inr ⟨a, rfl⟩) (fun t2 ht2 hW => ⟨⟨(), a, rfl, trivial, ha, by rw [ht2]; exact hB⟩, hS.F ht2⟩) hS.2.2 dX10_newPlayer_95
  refine lv_tableOut (tgt := 96) hx hb dX10_newPlayer_1 (by have n0 := lv_neT c1 (a := 1) (by decide); have n1 := lv_neT c2 (a := 2) (by decide); have n2 := lv_neT c3 (a := 3) (by decide); have n3 := lv_neT c4 (a := 4) (by decide); have n4 := lv_neT c5 (a := 5) (by decide); omega) (by decide) ?_
  refine va_new (ci := 4) (fs := [.int 0, .int 0, .int 0, .int 0]) (C := RX4) (T := TX4) (N := 4) hx hb hts (fun _ z => List.mem_cons_of_mem _ (List.mem_append_right _ z)) tyX4 tyX4_ok hown (hts (.classLink RX10 272 RX4) (by decide +kernel)) (hts (.instantiable RX4 4) (by decide +kernel)) (hts (.initialized RX4) (by decide +kernel)) hK hP hD hS hA rfl (fun j hj => by rcases (show j = 0 ∨ j = 1 ∨ j = 2 ∨ j = 3 by omega) with rfl | rfl | rfl | rfl <;> rfl) (Nat.le_of_ble_eq_true rfl) (Nat.le_of_ble_eq_true rfl) dX10_newPlayer_96 (fun a H hP hD hS => ?_)
  have hP : va_P D vwCl [(a, cc_plc (4, cn_f 0 0 0 0))] H := hP
  have ha : s.heap.size ≤ a := hD.2 0 _ rfl
  refine lv_dup hx hb dX10_newPlayer_99 rfl ?_
  refine lv_iload_n hx hb dX10_newPlayer_100 rfl (lv_at hl 0 rfl) ?_
  refine lv_iload_n hx hb dX10_newPlayer_101 rfl (lv_at hl 1 rfl) ?_
  refine lv_iload_n hx hb dX10_newPlayer_102 rfl (lv_at hl 2 rfl) ?_
  refine lv_iload_n hx hb dX10_newPlayer_103 rfl (lv_at hl 3 rfl) ?_
  refine va_callv (va_runI (As := [.int v0, .int v1, .int v2, .int v3]) (rest := [.ref a]) ⟨hx, hb, hml, hown, hts⟩ (ctX4_init l D a (4, cn_f 0 0 0 0) (by unfold cc_isP; decide) v0 v1 v2 v3 H.size) (cwI 4 hts gX10_newPlayer_X4_init rfl rfl rfl (hts (.initialized RX4) (by decide +kernel)) (hts (.methodLink RX10 274 yX4_init) (by decide +kernel)) (hts (.instanceMethod yX4_init) (by decide +kernel)) rfl (by decide +kernel) ⟨Nat.le_of_ble_eq_true rfl, Nat.le_of_ble_eq_true rfl⟩) ⟨cn_blind _ _ _ _, fun U hU hW => ⟨rfl, by show U.heap.size = H.size; rw [hU], by rw [hU]; exact hP, va_K.moved hW.alike hK⟩⟩ rfl rfl hl.1 rfl (lv_room (Nat.le_of_ble_eq_true rfl)) dX10_newPlayer_104 ⟨Nat.le_of_ble_eq_true rfl, Nat.le_of_ble_eq_true rfl⟩) hS (fun q _ h => h.elim (fun z => z ▸ ha) (fun z => Nat.le_trans hS.1 z)) (fun q h => h.elim (fun z => z ▸ ha) (fun z => Nat.le_trans hS.1 z)) (fun u t H1 locs ht hvm hw hB hz1 hk1 hS => ?_)
  have hB : va_P D vwCl [(a, cc_plc (4, cn_f v0 v1 v2 v3))] H1 := by rw [← ht]; exact hB
  have he : np_ci v0 = 4 := by unfold np_ci; rw [if_neg c1, if_neg c2, if_neg c3, if_neg c4, if_neg c5]
  rw [← he] at hB
  exact W.aret hx hb hr (Or.inl ⟨_, rfl⟩) (Or.inr ⟨a, rfl⟩) (fun t2 ht2 hW => ⟨⟨(), a, rfl, trivial, ha, by rw [ht2]; exact hB⟩, hS.F ht2⟩) hS.2.2 dX10_newPlayer_107
