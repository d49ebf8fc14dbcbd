abbrev rmX6_init : Room := { frames := 1, cells := 1, slots := 8, locals := 12 }
set_option maxHeartbeats 8000000 in
set_option maxRecDepth 100000 in
theorem ctX6_init (l : Launch) (D : va_G) (cs : ClassId × ClassId × ClassId × ClassId) (a : Nat) : ck_Mk l yX6_init wsX6_init rmX6_init D cs a (.inr (6, [.int 0, .null, .int 0])) (fun u => [(a, .inr (6, [.int 0, .ref (u 1), .int 0])), (u 1, .inl (cs.1, 8, .inl (fun _ => 0)))]) 1 8 := by
  intro sz
  refine Met.ofW (cc := cX6_init) (maxL := 1) (ret := none) (by decide) rfl ?_
  intro p e s m args below meth c s₁ B hml hv
  obtain ⟨rfl, hsz, hP, hK0⟩ := hv
  have hx := B.exec
  have hb := B.bytes
  have hr := B.returns
  have hts := atoms_spec (ws := wsX6_init) B.pre
  have hown : s.vm.findClass RX6 = some m.cls := findClass_of_methodNamed B.named
  have hlocks := B.notSynchronized
  have hin : meth.name = "<init>" := (name_of_methodNamed B.named B.method).1
  subst hsz
  have hK := hK0.1
  have hD := ck_D1 a s.heap.size (.inr (6, [.int 0, .null, .int 0]))
  generalize hAe : va_A [(a, .inr (6, [.int 0, .null, .int 0]))] s.heap.size = A at hD ⊢
  have hA : ∀ q : Nat, s.heap.size ≤ q → A q := fun q h => by rw [← hAe]; exact Or.inr h
  have hS : va_S A s.heap s.heap [] := va_S.rf
  have hl := lv_entry ([.ref a]) (n := 1) (Nat.le_of_ble_eq_true rfl)
  rw [lg_entry_eq]
  generalize (lg_sl ([.ref a]) ++ List.replicate (1 - (lg_sl ([.ref a])).length) Slot.unset).toArray = ls at hl ⊢
  have hl : lv_has ls 1 [(0, .ref a)] := hl
  have hin6 : ∀ y ∈ wsX60, y ∈ wsX6_init := (fun _ z => List.mem_cons_of_mem _ (List.mem_append_right _ z))
  refine lv_aload_n hx hb dX6_init_0 rfl (lv_at hl 0 rfl) ?_
  refine W.objInit hx hb hown (hts (.methodLink RX6 3 objectInit) (by decide +kernel)) (hts (.instanceMethod objectInit) (by decide +kernel)) (hts (.code objectInit ⟨#[0xb1]⟩ 1 none) (by decide +kernel)) rfl (by rw [hml]; exact hl.1) rfl dX6_init_1 (Nat.le_of_ble_eq_true rfl) (Nat.le_of_ble_eq_true rfl) ?_
  refine W.eq (g2 := F0 m 4 ls []) rfl ?_
  refine lv_aload_n hx hb dX6_init_4 rfl (lv_at hl 0 rfl) ?_
  refine lv_bipush (v := 8) hx hb dX6_init_5 (by decide) ?_
  refine nw_i hx hb (hts (.arrayClass .int) (by decide +kernel)) hK 0 rfl hP hD hS hA (N := 8) (by decide) rfl (Nat.le_of_ble_eq_true rfl) (Nat.le_of_ble_eq_true rfl) (Nat.le_of_ble_eq_true rfl) dX6_init_7 (fun q1 H hP hD hS => ?_)
  have hP : va_P D vwCl [(a, .inr (6, [.int 0, .null, .int 0])), (q1, .inl (cs.1, 8, .inl (fun _ => 0)))] _ := hP
  have hD : va_D A [(a, .inr (6, [.int 0, .null, .int 0])), (q1, .inl (cs.1, 8, .inl (fun _ => 0)))] := hD
  refine va_putF (D := D) (ci := 6) (v := .ref q1) (C := RX6) (T := TX6) (N := 3) (ref := (TX6 1).1) hx hb hts hin6 tyX6 tyX6_ok nmX6 hown hK hP hD hS 0 rfl rfl 1 (by decide) (hts (.fieldLink RX6 9 "BallsAtDodger$Side" "waiting" "[I") (by decide +kernel)) (fun _ z => z) rfl hin rfl (ty := tyX6 1) (tyX6_ok 1 (by decide)) rfl rfl (Nat.le_of_ble_eq_true rfl) dX6_init_9 (fun H locs hP hD hS => ?_)
  have hP : va_P D vwCl [(a, .inr (6, [.int 0, .ref q1, .int 0])), (q1, .inl (cs.1, 8, .inl (fun _ => 0)))] _ := hP
  have hD : va_D A [(a, .inr (6, [.int 0, .ref q1, .int 0])), (q1, .inl (cs.1, 8, .inl (fun _ => 0)))] := hD
  have hPz := hP.sub (ws' := [(a, .inr (6, [.int 0, .ref q1, .int 0])), (q1, .inl (cs.1, 8, .inl (fun _ => 0)))]) [0, 1] rfl
  have hDz := hD.sub (ws' := [(a, .inr (6, [.int 0, .ref q1, .int 0])), (q1, .inl (cs.1, 8, .inl (fun _ => 0)))]) [0, 1] (by decide) rfl
  exact W.vret hx hb hr (fun t ht hW => ⟨⟨fun _ => q1, rfl, trivial, by rw [ht]; exact hPz, by exact hDz⟩, hS.F ht⟩) hS.2.2 dX6_init_12
abbrev rmX7_init : Room := { frames := 1, cells := 1, slots := 80, locals := 12 }
set_option maxHeartbeats 8000000 in
set_option maxRecDepth 100000 in
theorem ctX7_init (l : Launch) (D : va_G) (cs : ClassId × ClassId × ClassId × ClassId) (a : Nat) : ck_Mk l yX7_init wsX7_init rmX7_init D cs a (.inr (7, [.null, .int 0])) (fun u => [(a, .inr (7, [.ref (u 1), .int 0])), (u 1, .inl (cs.2.2.1, 80, .inl (fun _ => 0)))]) 1 80 := by
  intro sz
  refine Met.ofW (cc := cX7_init) (maxL := 1) (ret := none) (by decide) rfl ?_
  intro p e s m args below meth c s₁ B hml hv
  obtain ⟨rfl, hsz, hP, hK0⟩ := hv
  have hx := B.exec
  have hb := B.bytes
  have hr := B.returns
  have hts := atoms_spec (ws := wsX7_init) B.pre
  have hown : s.vm.findClass RX7 = some m.cls := findClass_of_methodNamed B.named
  have hlocks := B.notSynchronized
  have hin : meth.name = "<init>" := (name_of_methodNamed B.named B.method).1
  subst hsz
  have hK := hK0.1
  have hD := ck_D1 a s.heap.size (.inr (7, [.null, .int 0]))
  generalize hAe : va_A [(a, .inr (7, [.null, .int 0]))] s.heap.size = A at hD ⊢
  have hA : ∀ q : Nat, s.heap.size ≤ q → A q := fun q h => by rw [← hAe]; exact Or.inr h
  have hS : va_S A s.heap s.heap [] := va_S.rf
  have hl := lv_entry ([.ref a]) (n := 1) (Nat.le_of_ble_eq_true rfl)
  rw [lg_entry_eq]
  generalize (lg_sl ([.ref a]) ++ List.replicate (1 - (lg_sl ([.ref a])).length) Slot.unset).toArray = ls at hl ⊢
  have hl : lv_has ls 1 [(0, .ref a)] := hl
  have hin7 : ∀ y ∈ wsX70, y ∈ wsX7_init := (fun _ z => List.mem_cons_of_mem _ (List.mem_append_right _ z))
  refine lv_aload_n hx hb dX7_init_0 rfl (lv_at hl 0 rfl) ?_
  refine W.objInit hx hb hown (hts (.methodLink RX7 3 objectInit) (by decide +kernel)) (hts (.instanceMethod objectInit) (by decide +kernel)) (hts (.code objectInit ⟨#[0xb1]⟩ 1 none) (by decide +kernel)) rfl (by rw [hml]; exact hl.1) rfl dX7_init_1 (Nat.le_of_ble_eq_true rfl) (Nat.le_of_ble_eq_true rfl) ?_
  refine W.eq (g2 := F0 m 4 ls []) rfl ?_
  refine lv_aload_n hx hb dX7_init_4 rfl (lv_at hl 0 rfl) ?_
  refine lv_bipush (v := 80) hx hb dX7_init_5 (by decide) ?_
  refine nw_c hx hb (hts (.arrayClass .char) (by decide +kernel)) hK 2 rfl hP hD hS hA (N := 80) (by decide) rfl (Nat.le_of_ble_eq_true rfl) (Nat.le_of_ble_eq_true rfl) (Nat.le_of_ble_eq_true rfl) dX7_init_7 (fun q1 H hP hD hS => ?_)
  have hP : va_P D vwCl [(a, .inr (7, [.null, .int 0])), (q1, .inl (cs.2.2.1, 80, .inl (fun _ => 0)))] _ := hP
  have hD : va_D A [(a, .inr (7, [.null, .int 0])), (q1, .inl (cs.2.2.1, 80, .inl (fun _ => 0)))] := hD
  refine va_putF (D := D) (ci := 7) (v := .ref q1) (C := RX7) (T := TX7) (N := 2) (ref := (TX7 0).1) hx hb hts hin7 tyX7 tyX7_ok nmX7 hown hK hP hD hS 0 rfl rfl 0 (by decide) (hts (.fieldLink RX7 9 "BallsAtDodger$Text" "letters" "[C") (by decide +kernel)) (fun _ z => z) rfl hin rfl (ty := tyX7 0) (tyX7_ok 0 (by decide)) rfl rfl (Nat.le_of_ble_eq_true rfl) dX7_init_9 (fun H locs hP hD hS => ?_)
  have hP : va_P D vwCl [(a, .inr (7, [.ref q1, .int 0])), (q1, .inl (cs.2.2.1, 80, .inl (fun _ => 0)))] _ := hP
  have hD : va_D A [(a, .inr (7, [.ref q1, .int 0])), (q1, .inl (cs.2.2.1, 80, .inl (fun _ => 0)))] := hD
  have hPz := hP.sub (ws' := [(a, .inr (7, [.ref q1, .int 0])), (q1, .inl (cs.2.2.1, 80, .inl (fun _ => 0)))]) [0, 1] rfl
  have hDz := hD.sub (ws' := [(a, .inr (7, [.ref q1, .int 0])), (q1, .inl (cs.2.2.1, 80, .inl (fun _ => 0)))]) [0, 1] (by decide) rfl
  exact W.vret hx hb hr (fun t ht hW => ⟨⟨fun _ => q1, rfl, trivial, by rw [ht]; exact hPz, by exact hDz⟩, hS.F ht⟩) hS.2.2 dX7_init_12
abbrev rmX2_init : Room := { frames := 1, cells := 2, slots := 50, locals := 12 }
set_option maxHeartbeats 8000000 in
set_option maxRecDepth 100000 in
theorem ctX2_init (l : Launch) (D : va_G) (cs : ClassId × ClassId × ClassId × ClassId) (a : Nat) : ck_Mk l yX2_init wsX2_init rmX2_init D cs a (.inr (2, [.null, .null, .int 0, .int 0, .int 0, .long 0])) (fun u => [(a, .inr (2, [.ref (u 1), .ref (u 2), .int 0, .int 0, .int 0, .long 0])), (u 1, .inl (cs.2.1, 25, .inr (.inl (fun _ => 0)))), (u 2, .inl (cs.2.1, 25, .inr (.inl (fun _ => 0))))]) 2 50 := by
  intro sz
  refine Met.ofW (cc := cX2_init) (maxL := 1) (ret := none) (by decide) rfl ?_
  intro p e s m args below meth c s₁ B hml hv
  obtain ⟨rfl, hsz, hP, hK0⟩ := hv
  have hx := B.exec
  have hb := B.bytes
  have hr := B.returns
  have hts := atoms_spec (ws := wsX2_init) B.pre
  have hown : s.vm.findClass RX2 = some m.cls := findClass_of_methodNamed B.named
  have hlocks := B.notSynchronized
  have hin : meth.name = "<init>" := (name_of_methodNamed B.named B.method).1
  subst hsz
  have hK := hK0.1
  have hD := ck_D1 a s.heap.size (.inr (2, [.null, .null, .int 0, .int 0, .int 0, .long 0]))
  generalize hAe : va_A [(a, .inr (2, [.null, .null, .int 0, .int 0, .int 0, .long 0]))] s.heap.size = A at hD ⊢
  have hA : ∀ q : Nat, s.heap.size ≤ q → A q := fun q h => by rw [← hAe]; exact Or.inr h
  have hS : va_S A s.heap s.heap [] := va_S.rf
  have hl := lv_entry ([.ref a]) (n := 1) (Nat.le_of_ble_eq_true rfl)
  rw [lg_entry_eq]
  generalize (lg_sl ([.ref a]) ++ List.replicate (1 - (lg_sl ([.ref a])).length) Slot.unset).toArray = ls at hl ⊢
  have hl : lv_has ls 1 [(0, .ref a)] := hl
  have hin2 : ∀ y ∈ wsX20, y ∈ wsX2_init := (fun _ z => List.mem_cons_of_mem _ (List.mem_append_right _ z))
  refine lv_aload_n hx hb dX2_init_0 rfl (lv_at hl 0 rfl) ?_
  refine W.objInit hx hb hown (hts (.methodLink RX2 3 objectInit) (by decide +kernel)) (hts (.instanceMethod objectInit) (by decide +kernel)) (hts (.code objectInit ⟨#[0xb1]⟩ 1 none) (by decide +kernel)) rfl (by rw [hml]; exact hl.1) rfl dX2_init_1 (Nat.le_of_ble_eq_true rfl) (Nat.le_of_ble_eq_true rfl) ?_
  refine W.eq (g2 := F0 m 4 ls []) rfl ?_
  refine lv_aload_n hx hb dX2_init_4 rfl (lv_at hl 0 rfl) ?_
  refine lv_bipush (v := 25) hx hb dX2_init_5 (by decide) ?_
  refine nw_l hx hb (hts (.arrayClass .long) (by decide +kernel)) hK 1 rfl hP hD hS hA (N := 25) (by decide) rfl (Nat.le_of_ble_eq_true rfl) (Nat.le_of_ble_eq_true rfl) (Nat.le_of_ble_eq_true rfl) dX2_init_7 (fun q1 H hP hD hS => ?_)
  have hP : va_P D vwCl [(a, .inr (2, [.null, .null, .int 0, .int 0, .int 0, .long 0])), (q1, .inl (cs.2.1, 25, .inr (.inl (fun _ => 0))))] _ := hP
  have hD : va_D A [(a, .inr (2, [.null, .null, .int 0, .int 0, .int 0, .long 0])), (q1, .inl (cs.2.1, 25, .inr (.inl (fun _ => 0))))] := hD
  refine va_putF (D := D) (ci := 2) (v := .ref q1) (C := RX2) (T := TX2) (N := 6) (ref := (TX2 0).1) hx hb hts hin2 tyX2 tyX2_ok nmX2 hown hK hP hD hS 0 rfl rfl 0 (by decide) (hts (.fieldLink RX2 11 "BallsAtDodger$Duel" "ways" "[J") (by decide +kernel)) (fun _ z => z) rfl hin rfl (ty := tyX2 0) (tyX2_ok 0 (by decide)) rfl rfl (Nat.le_of_ble_eq_true rfl) dX2_init_9 (fun H locs hP hD hS => ?_)
  have hP : va_P D vwCl [(a, .inr (2, [.ref q1, .null, .int 0, .int 0, .int 0, .long 0])), (q1, .inl (cs.2.1, 25, .inr (.inl (fun _ => 0))))] _ := hP
  have hD : va_D A [(a, .inr (2, [.ref q1, .null, .int 0, .int 0, .int 0, .long 0])), (q1, .inl (cs.2.1, 25, .inr (.inl (fun _ => 0))))] := hD
  refine lv_aload_n hx hb dX2_init_12 rfl (lv_at hl 0 rfl) ?_
  refine lv_bipush (v := 25) hx hb dX2_init_13 (by decide) ?_
  refine nw_l hx hb (hts (.arrayClass .long) (by decide +kernel)) hK 1 rfl hP hD hS hA (N := 25) (by decide) rfl (Nat.le_of_ble_eq_true rfl) (Nat.le_of_ble_eq_true rfl) (Nat.le_of_ble_eq_true rfl) dX2_init_15 (fun q2 H hP hD hS => ?_)
  have hP : va_P D vwCl [(a, .inr (2, [.ref q1, .null, .int 0, .int 0, .int 0, .long 0])), (q1, .inl (cs.2.1, 25, .inr (.inl (fun _ => 0)))), (q2, .inl (cs.2.1, 25, .inr (.inl (fun _ => 0))))] _ := hP
  have hD : va_D A [(a, .inr (2, [.ref q1, .null, .int 0, .int 0, .int 0, .long 0])), (q1, .inl (cs.2.1, 25, .inr (.inl (fun _ => 0)))), (q2, .inl (cs.2.1, 25, .inr (.inl (fun _ => 0))))] := hD
  refine va_putF (D := D) (ci := 2) (v := .ref q2) (C := RX2) (T := TX2) (N := 6) (ref := (TX2 1).1) hx hb hts hin2 tyX2 tyX2_ok nmX2 hown hK hP hD hS 0 rfl rfl 1 (by decide) (hts (.fieldLink RX2 15 "BallsAtDodger$Duel" "before" "[J") (by decide +kernel)) (fun _ z => z) rfl hin rfl (ty := tyX2 1) (tyX2_ok 1 (by decide)) rfl rfl (Nat.le_of_ble_eq_true rfl) dX2_init_17 (fun H locs hP hD hS => ?_)
  have hP : va_P D vwCl [(a, .inr (2, [.ref q1, .ref q2, .int 0, .int 0, .int 0, .long 0])), (q1, .inl (cs.2.1, 25, .inr (.inl (fun _ => 0)))), (q2, .inl (cs.2.1, 25, .inr (.inl (fun _ => 0))))] _ := hP
  have hD : va_D A [(a, .inr (2, [.ref q1, .ref q2, .int 0, .int 0, .int 0, .long 0])), (q1, .inl (cs.2.1, 25, .inr (.inl (fun _ => 0)))), (q2, .inl (cs.2.1, 25, .inr (.inl (fun _ => 0))))] := hD
  have hPz := hP.sub (ws' := [(a, .inr (2, [.ref q1, .ref q2, .int 0, .int 0, .int 0, .long 0])), (q1, .inl (cs.2.1, 25, .inr (.inl (fun _ => 0)))), (q2, .inl (cs.2.1, 25, .inr (.inl (fun _ => 0))))]) [0, 1, 2] rfl
  have hDz := hD.sub (ws' := [(a, .inr (2, [.ref q1, .ref q2, .int 0, .int 0, .int 0, .long 0])), (q1, .inl (cs.2.1, 25, .inr (.inl (fun _ => 0)))), (q2, .inl (cs.2.1, 25, .inr (.inl (fun _ => 0))))]) [0, 1, 2] (by decide) rfl
  exact W.vret hx hb hr (fun t ht hW => ⟨⟨fun j => if j = 1 then q1 else q2, rfl, trivial, by rw [ht]; exact hPz, by exact hDz⟩, hS.F ht⟩) hS.2.2 dX2_init_20
