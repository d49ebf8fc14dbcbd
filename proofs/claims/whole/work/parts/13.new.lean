def cn_f (k0 k1 k2 k3 : Int32) : Nat → Int32 := fun j => if j = 0 then k0 else if j = 1 then k1 else if j = 2 then k2 else k3
def cn_A (a sz : Nat) : Nat → Prop := fun q => q = a ∨ sz ≤ q
theorem cn_D (a sz : Nat) (e : va_E) : va_D (cn_A a sz) [(a, e)] := by
  refine ⟨fun i j p q hp hq _ => ?_, fun k q hk => ?_⟩
  · have h1 : i < 1 := (List.getElem?_eq_some_iff.mp hp).1
    have h2 : j < 1 := (List.getElem?_eq_some_iff.mp hq).1
    omega
  · have h1 : k < 1 := (List.getElem?_eq_some_iff.mp hk).1
    have h2 : k = 0 := by omega
    subst h2
    cases hk
    exact Or.inl rfl
/-- a player's maker: its cell is filled -/
def cn_Mc (l : Launch) (y : MethodName) (ws : List Cond) (rm : Room) (D : va_G) (a : Nat) (d0 : cc_PD) (k0 k1 k2 k3 : Int32) : Prop := ∀ sz, Met l y ws rm (va_Pc [.ref a, .int k0, .int k1, .int k2, .int k3] (fun U => U.heap.size = sz ∧ va_P D vwCl [(a, cc_plc d0)] U.heap ∧ va_K D vwCl [] U)) (va_Qv (fun (_ : Unit) => True) (fun _ t => va_P D vwCl [(a, cc_plc (d0.1, cn_f k0 k1 k2 k3))] t.heap) (cn_A a sz)) 0 0 (cn_A a sz)
def cn_Mp (l : Launch) (y : MethodName) (ws : List Cond) (rm : Room) (D : va_G) (av : List Value) (d : cc_PD) : Prop := ∀ sz, Met l y ws rm (va_Pc av (fun U => U.heap.size = sz ∧ va_K D vwCl [] U)) (va_Qr (fun (_ : Unit) => True) (fun _ a t => sz ≤ a ∧ va_P D vwCl [(a, cc_plc d)] t.heap) (fun q => sz ≤ q)) 1 4 (fun q => sz ≤ q)
theorem cn_blind {D : va_G} (av : List Value) (a sz : Nat) (e : va_E) : FrameBlind (va_Pc av (fun U => U.heap.size = sz ∧ va_P D vwCl [(a, e)] U.heap ∧ va_K D vwCl [] U)) := fun b U f mk z => by
  obtain ⟨q0, q1, qP, qK⟩ := z
  exact ⟨q0, q1, qP, va_K.moved (u := U) (U := U.calling f mk b) (Vm.Alike.refl U.vm) qK⟩
theorem cn_blind2 {D : va_G} (av : List Value) (sz : Nat) : FrameBlind (va_Pc av (fun U => U.heap.size = sz ∧ va_K D vwCl [] U)) := fun b U f mk z => by
  obtain ⟨q0, q1, qK⟩ := z
  exact ⟨q0, q1, va_K.moved (u := U) (U := U.calling f mk b) (Vm.Alike.refl U.vm) qK⟩
abbrev rmX4_init : Room := { frames := 1, cells := 0, slots := 0, locals := 12 }
set_option maxHeartbeats 4000000 in
set_option maxRecDepth 100000 in
theorem ctX4_init (l : Launch) (D : va_G) (a : Nat) (d0 : cc_PD) (hci : cc_isP d0.1) (k0 k1 k2 k3 : Int32) : cn_Mc l yX4_init wsX4_init rmX4_init D a d0 k0 k1 k2 k3 := by
  intro sz
  refine Met.ofW (cc := cX4_init) (maxL := 5) (ret := none) (by decide) rfl ?_
  intro p e s m args below meth c s₁ B hml hv
  obtain ⟨rfl, hsz, hP, hK⟩ := hv
  have hx := B.exec
  have hb := B.bytes
  have hr := B.returns
  have hts := atoms_spec (ws := wsX4_init) B.pre
  have hown : s.vm.findClass RX4 = some m.cls := findClass_of_methodNamed B.named
  have hlocks := B.notSynchronized
  have hin : meth.name = "<init>" := (name_of_methodNamed B.named B.method).1
  subst hsz
  obtain ⟨ci, f⟩ := d0
  have hpw : cc_pW wsX4_init := ⟨(fun _ z => List.mem_cons_of_mem _ (List.mem_append_left _ (List.mem_append_left _ (List.mem_append_left _ (List.mem_append_left _ (List.mem_append_left _ (List.mem_append_right _ z))))))), (fun _ z => List.mem_cons_of_mem _ (List.mem_append_left _ (List.mem_append_left _ (List.mem_append_left _ (List.mem_append_left _ (List.mem_append_right _ z)))))), (fun _ z => List.mem_cons_of_mem _ (List.mem_append_left _ (List.mem_append_left _ (List.mem_append_left _ (List.mem_append_right _ z))))), (fun _ z => List.mem_cons_of_mem _ (List.mem_append_left _ (List.mem_append_left _ (List.mem_append_right _ z)))), (fun _ z => List.mem_cons_of_mem _ (List.mem_append_left _ (List.mem_append_right _ z))), (fun _ z => List.mem_cons_of_mem _ (List.mem_append_right _ z))⟩
  obtain ⟨C, hC, hw⟩ := cc_cl hci hpw
  have hD := cn_D a s.heap.size (cc_plc (ci, f))
  have hS : va_S (cn_A a s.heap.size) s.heap s.heap [] := va_S.rf
  have hl := lv_entry ([.ref a, .int k0, .int k1, .int k2, .int k3]) (n := 5) (Nat.le_of_ble_eq_true rfl)
  rw [lg_entry_eq]
  generalize (lg_sl ([.ref a, .int k0, .int k1, .int k2, .int k3]) ++ List.replicate (5 - (lg_sl ([.ref a, .int k0, .int k1, .int k2, .int k3])).length) Slot.unset).toArray = ls at hl ⊢
  have hl : lv_has ls 5 [(0, .ref a), (1, .int k0), (2, .int k1), (3, .int k2), (4, .int k3)] := hl
  have hP : va_P D vwCl [(a, .inr (ci, [.int (f 0), .int (f 1), .int (f 2), .int (f 3)]))] s.heap := hP
  have hD : va_D (cn_A a s.heap.size) [(a, .inr (ci, [.int (f 0), .int (f 1), .int (f 2), .int (f 3)]))] := hD
  refine lv_aload_n hx hb dX4_init_0 rfl (lv_at hl 0 rfl) ?_
  refine W.objInit hx hb hown (hts (.methodLink RX4 1 objectInit) (by decide +kernel)) (hts (.instanceMethod objectInit) (by decide +kernel)) (hts (.code objectInit ⟨#[0xb1]⟩ 1 none) (by decide +kernel)) rfl (by rw [hml]; exact hl.1) rfl dX4_init_1 (Nat.le_of_ble_eq_true rfl) (Nat.le_of_ble_eq_true rfl) ?_
  refine W.eq (g2 := F0 m 4 ls []) rfl ?_
  refine lv_aload_n hx hb dX4_init_4 rfl (lv_at hl 0 rfl) ?_
  refine lv_iload_n hx hb dX4_init_5 rfl (lv_at hl 1 rfl) ?_
  refine va_putF (D := D) (ci := ci) (v := .int k0) (ty := .int) (C := C) (T := TX4) (N := 4) (ref := (TX4 0).1) hx hb hts hw tyX4 tyX4_ok nmX4 hown hK hP hD hS 0 rfl hC 0 (by decide) (hts (.fieldLink RX4 7 "BallsAtDodger$Player" "kind" "I") (by decide +kernel)) (fun _ z => z) rfl hin rfl (by decide +kernel) rfl rfl (Nat.le_of_ble_eq_true rfl) dX4_init_6 (fun H locs hP hD hS => ?_)
  have hP : va_P D vwCl [(a, .inr (ci, [.int k0, .int (f 1), .int (f 2), .int (f 3)]))] H := hP
  have hD : va_D (cn_A a s.heap.size) [(a, .inr (ci, [.int k0, .int (f 1), .int (f 2), .int (f 3)]))] := hD
  refine lv_aload_n hx hb dX4_init_9 rfl (lv_at hl 0 rfl) ?_
  refine lv_iload_n hx hb dX4_init_10 rfl (lv_at hl 2 rfl) ?_
  refine va_putF (D := D) (ci := ci) (v := .int k1) (ty := .int) (C := C) (T := TX4) (N := 4) (ref := (TX4 1).1) hx hb hts hw tyX4 tyX4_ok nmX4 hown hK hP hD hS 0 rfl hC 1 (by decide) (hts (.fieldLink RX4 13 "BallsAtDodger$Player" "side" "I") (by decide +kernel)) (fun _ z => z) rfl hin rfl (by decide +kernel) rfl rfl (Nat.le_of_ble_eq_true rfl) dX4_init_11 (fun H locs hP hD hS => ?_)
  have hP : va_P D vwCl [(a, .inr (ci, [.int k0, .int k1, .int (f 2), .int (f 3)]))] H := hP
  have hD : va_D (cn_A a s.heap.size) [(a, .inr (ci, [.int k0, .int k1, .int (f 2), .int (f 3)]))] := hD
  refine lv_aload_n hx hb dX4_init_14 rfl (lv_at hl 0 rfl) ?_
  refine lv_iload_n hx hb dX4_init_15 rfl (lv_at hl 3 rfl) ?_
  refine va_putF (D := D) (ci := ci) (v := .int k2) (ty := .int) (C := C) (T := TX4) (N := 4) (ref := (TX4 2).1) hx hb hts hw tyX4 tyX4_ok nmX4 hown hK hP hD hS 0 rfl hC 2 (by decide) (hts (.fieldLink RX4 16 "BallsAtDodger$Player" "arm" "I") (by decide +kernel)) (fun _ z => z) rfl hin rfl (by decide +kernel) rfl rfl (Nat.le_of_ble_eq_true rfl) dX4_init_16 (fun H locs hP hD hS => ?_)
  have hP : va_P D vwCl [(a, .inr (ci, [.int k0, .int k1, .int k2, .int (f 3)]))] H := hP
  have hD : va_D (cn_A a s.heap.size) [(a, .inr (ci, [.int k0, .int k1, .int k2, .int (f 3)]))] := hD
  refine lv_aload_n hx hb dX4_init_19 rfl (lv_at hl 0 rfl) ?_
  refine lv_iload hx hb dX4_init_20 (lv_at hl 4 rfl) ?_
  refine va_putF (D := D) (ci := ci) (v := .int k3) (ty := .int) (C := C) (T := TX4) (N := 4) (ref := (TX4 3).1) hx hb hts hw tyX4 tyX4_ok nmX4 hown hK hP hD hS 0 rfl hC 3 (by decide) (hts (.fieldLink RX4 19 "BallsAtDodger$Player" "eye" "I") (by decide +kernel)) (fun _ z => z) rfl hin rfl (by decide +kernel) rfl rfl (Nat.le_of_ble_eq_true rfl) dX4_init_22 (fun H locs hP hD hS => ?_)
  have hP : va_P D vwCl [(a, .inr (ci, [.int k0, .int k1, .int k2, .int k3]))] H := hP
  have hD : va_D (cn_A a s.heap.size) [(a, .inr (ci, [.int k0, .int k1, .int k2, .int k3]))] := hD
  exact W.vret hx hb hr (fun t ht hW => ⟨⟨(), rfl, trivial, by dsimp only; rw [ht]; exact hP⟩, hS.F ht⟩) hS.2.2 dX4_init_25
abbrev rmX5_init : Room := { frames := 2, cells := 0, slots := 0, locals := 36 }
set_option maxHeartbeats 4000000 in
set_option maxRecDepth 100000 in
theorem ctX5_init (l : Launch) (D : va_G) (a : Nat) (d0 : cc_PD) (hci : cc_isP d0.1) (k0 k1 k2 k3 : Int32) : cn_Mc l yX5_init wsX5_init rmX5_init D a d0 k0 k1 k2 k3 := by
  intro sz
  refine Met.ofW (cc := cX5_init) (maxL := 5) (ret := none) (by decide) rfl ?_
  intro p e s m args below meth c s₁ B hml hv
  obtain ⟨rfl, hsz, hP, hK⟩ := hv
  have hx := B.exec
  have hb := B.bytes
  have hr := B.returns
  have hts := atoms_spec (ws := wsX5_init) B.pre
  have hown : s.vm.findClass RX5 = some m.cls := findClass_of_methodNamed B.named
  have hlocks := B.notSynchronized
  subst hsz
  have hS : va_S (cn_A a s.heap.size) s.heap s.heap [] := va_S.rf
  have hl := lv_entry ([.ref a, .int k0, .int k1, .int k2, .int k3]) (n := 5) (Nat.le_of_ble_eq_true rfl)
  rw [lg_entry_eq]
  generalize (lg_sl ([.ref a, .int k0, .int k1, .int k2, .int k3]) ++ List.replicate (5 - (lg_sl ([.ref a, .int k0, .int k1, .int k2, .int k3])).length) Slot.unset).toArray = ls at hl ⊢
  have hl : lv_has ls 5 [(0, .ref a), (1, .int k0), (2, .int k1), (3, .int k2), (4, .int k3)] := hl
  refine lv_aload_n hx hb dX5_init_0 rfl (lv_at hl 0 rfl) ?_
  refine lv_iload_n hx hb dX5_init_1 rfl (lv_at hl 1 rfl) ?_
  refine lv_iload_n hx hb dX5_init_2 rfl (lv_at hl 2 rfl) ?_
  refine lv_iload_n hx hb dX5_init_3 rfl (lv_at hl 3 rfl) ?_
  refine lv_iload hx hb dX5_init_4 (lv_at hl 4 rfl) ?_
  refine va_callv (va_runI (As := [.int k0, .int k1, .int k2, .int k3]) (rest := []) ⟨hx, hb, hml, hown, hts⟩ (ctX4_init l D a d0 hci k0 k1 k2 k3 s.heap.size) (cwI 4 hts gX5_init_X4_init rfl rfl rfl (hts (.initialized RX4) (by decide +kernel)) (hts (.methodLink RX5 1 yX4_init) (by decide +kernel)) (hts (.instanceMethod yX4_init) (by decide +kernel)) rfl (by decide +kernel) ⟨Nat.le_of_ble_eq_true rfl, Nat.le_of_ble_eq_true rfl⟩) ⟨cn_blind _ _ _ _, fun U hU hW => ⟨rfl, by show U.heap.size = s.heap.size; rw [hU], by rw [hU]; exact hP, va_K.moved hW.alike hK⟩⟩ rfl rfl hl.1 rfl (lv_room (Nat.le_of_ble_eq_true rfl)) dX5_init_6 ⟨Nat.zero_le _, Nat.zero_le _⟩) hS (fun q _ h => h) (fun q h => h) (fun u t H locs ht hvm hw hB hz1 hk1 hS => ?_)
  exact W.vret hx hb hr (fun t2 ht2 hW => ⟨⟨(), rfl, trivial, by dsimp only; rw [ht2, ← ht]; exact hB⟩, hS.F ht2⟩) hS.2.2 dX5_init_9
abbrev rmX0_init : Room := { frames := 2, cells := 0, slots := 0, locals := 36 }
set_option maxHeartbeats 4000000 in
set_option maxRecDepth 100000 in
theorem ctX0_init (l : Launch) (D : va_G) (a : Nat) (d0 : cc_PD) (hci : cc_isP d0.1) (k0 k1 k2 k3 : Int32) : cn_Mc l yX0_init wsX0_init rmX0_init D a d0 k0 k1 k2 k3 := by
  intro sz
  refine Met.ofW (cc := cX0_init) (maxL := 5) (ret := none) (by decide) rfl ?_
  intro p e s m args below meth c s₁ B hml hv
  obtain ⟨rfl, hsz, hP, hK⟩ := hv
  have hx := B.exec
  have hb := B.bytes
  have hr := B.returns
  have hts := atoms_spec (ws := wsX0_init) B.pre
  have hown : s.vm.findClass RX0 = some m.cls := findClass_of_methodNamed B.named
  have hlocks := B.notSynchronized
  subst hsz
  have hS : va_S (cn_A a s.heap.size) s.heap s.heap [] := va_S.rf
  have hl := lv_entry ([.ref a, .int k0, .int k1, .int k2, .int k3]) (n := 5) (Nat.le_of_ble_eq_true rfl)
  rw [lg_entry_eq]
  generalize (lg_sl ([.ref a, .int k0, .int k1, .int k2, .int k3]) ++ List.replicate (5 - (lg_sl ([.ref a, .int k0, .int k1, .int k2, .int k3])).length) Slot.unset).toArray = ls at hl ⊢
  have hl : lv_has ls 5 [(0, .ref a), (1, .int k0), (2, .int k1), (3, .int k2), (4, .int k3)] := hl
  refine lv_aload_n hx hb dX0_init_0 rfl (lv_at hl 0 rfl) ?_
  refine lv_iload_n hx hb dX0_init_1 rfl (lv_at hl 1 rfl) ?_
  refine lv_iload_n hx hb dX0_init_2 rfl (lv_at hl 2 rfl) ?_
  refine lv_iload_n hx hb dX0_init_3 rfl (lv_at hl 3 rfl) ?_
  refine lv_iload hx hb dX0_init_4 (lv_at hl 4 rfl) ?_
  refine va_callv (va_runI (As := [.int k0, .int k1, .int k2, .int k3]) (rest := []) ⟨hx, hb, hml, hown, hts⟩ (ctX4_init l D a d0 hci k0 k1 k2 k3 s.heap.size) (cwI 4 hts gX0_init_X4_init rfl rfl rfl (hts (.initialized RX4) (by decide +kernel)) (hts (.methodLink RX0 1 yX4_init) (by decide +kernel)) (hts (.instanceMethod yX4_init) (by decide +kernel)) rfl (by decide +kernel) ⟨Nat.le_of_ble_eq_true rfl, Nat.le_of_ble_eq_true rfl⟩) ⟨cn_blind _ _ _ _, fun U hU hW => ⟨rfl, by show U.heap.size = s.heap.size; rw [hU], by rw [hU]; exact hP, va_K.moved hW.alike hK⟩⟩ rfl rfl hl.1 rfl (lv_room (Nat.le_of_ble_eq_true rfl)) dX0_init_6 ⟨Nat.zero_le _, Nat.zero_le _⟩) hS (fun q _ h => h) (fun q h => h) (fun u t H locs ht hvm hw hB hz1 hk1 hS => ?_)
  exact W.vret hx hb hr (fun t2 ht2 hW => ⟨⟨(), rfl, trivial, by dsimp only; rw [ht2, ← ht]; exact hB⟩, hS.F ht2⟩) hS.2.2 dX0_init_9
abbrev rmX8_init : Room := { frames := 2, cells := 0, slots := 0, locals := 36 }
set_option maxHeartbeats 4000000 in
set_option maxRecDepth 100000 in
theorem ctX8_init (l : Launch) (D : va_G) (a : Nat) (d0 : cc_PD) (hci : cc_isP d0.1) (k0 k1 k2 k3 : Int32) : cn_Mc l yX8_init wsX8_init rmX8_init D a d0 k0 k1 k2 k3 := by
  intro sz
  refine Met.ofW (cc := cX8_init) (maxL := 5) (ret := none) (by decide) rfl ?_
  intro p e s m args below meth c s₁ B hml hv
  obtain ⟨rfl, hsz, hP, hK⟩ := hv
  have hx := B.exec
  have hb := B.bytes
  have hr := B.returns
  have hts := atoms_spec (ws := wsX8_init) B.pre
  have hown : s.vm.findClass RX8 = some m.cls := findClass_of_methodNamed B.named
  have hlocks := B.notSynchronized
  subst hsz
  have hS : va_S (cn_A a s.heap.size) s.heap s.heap [] := va_S.rf
  have hl := lv_entry ([.ref a, .int k0, .int k1, .int k2, .int k3]) (n := 5) (Nat.le_of_ble_eq_true rfl)
  rw [lg_entry_eq]
  generalize (lg_sl ([.ref a, .int k0, .int k1, .int k2, .int k3]) ++ List.replicate (5 - (lg_sl ([.ref a, .int k0, .int k1, .int k2, .int k3])).length) Slot.unset).toArray = ls at hl ⊢
  have hl : lv_has ls 5 [(0, .ref a), (1, .int k0), (2, .int k1), (3, .int k2), (4, .int k3)] := hl
  refine lv_aload_n hx hb dX8_init_0 rfl (lv_at hl 0 rfl) ?_
  refine lv_iload_n hx hb dX8_init_1 rfl (lv_at hl 1 rfl) ?_
  refine lv_iload_n hx hb dX8_init_2 rfl (lv_at hl 2 rfl) ?_
  refine lv_iload_n hx hb dX8_init_3 rfl (lv_at hl 3 rfl) ?_
  refine lv_iload hx hb dX8_init_4 (lv_at hl 4 rfl) ?_
  refine va_callv (va_runI (As := [.int k0, .int k1, .int k2, .int k3]) (rest := []) ⟨hx, hb, hml, hown, hts⟩ (ctX4_init l D a d0 hci k0 k1 k2 k3 s.heap.size) (cwI 4 hts gX8_init_X4_init rfl rfl rfl (hts (.initialized RX4) (by decide +kernel)) (hts (.methodLink RX8 1 yX4_init) (by decide +kernel)) (hts (.instanceMethod yX4_init) (by decide +kernel)) rfl (by decide +kernel) ⟨Nat.le_of_ble_eq_true rfl, Nat.le_of_ble_eq_true rfl⟩) ⟨cn_blind _ _ _ _, fun U hU hW => ⟨rfl, by show U.heap.size = s.heap.size; rw [hU], by rw [hU]; exact hP, va_K.moved hW.alike hK⟩⟩ rfl rfl hl.1 rfl (lv_room (Nat.le_of_ble_eq_true rfl)) dX8_init_6 ⟨Nat.zero_le _, Nat.zero_le _⟩) hS (fun q _ h => h) (fun q h => h) (fun u t H locs ht hvm hw hB hz1 hk1 hS => ?_)
  exact W.vret hx hb hr (fun t2 ht2 hW => ⟨⟨(), rfl, trivial, by dsimp only; rw [ht2, ← ht]; exact hB⟩, hS.F ht2⟩) hS.2.2 dX8_init_9
abbrev rmX9_init : Room := { frames := 3, cells := 0, slots := 0, locals := 60 }
set_option maxHeartbeats 4000000 in
set_option maxRecDepth 100000 in
theorem ctX9_init (l : Launch) (D : va_G) (a : Nat) (d0 : cc_PD) (hci : cc_isP d0.1) (k0 k1 k2 k3 : Int32) : cn_Mc l yX9_init wsX9_init rmX9_init D a d0 k0 k1 k2 k3 := by
  intro sz
  refine Met.ofW (cc := cX9_init) (maxL := 5) (ret := none) (by decide) rfl ?_
  intro p e s m args below meth c s₁ B hml hv
  obtain ⟨rfl, hsz, hP, hK⟩ := hv
  have hx := B.exec
  have hb := B.bytes
  have hr := B.returns
  have hts := atoms_spec (ws := wsX9_init) B.pre
  have hown : s.vm.findClass RX9 = some m.cls := findClass_of_methodNamed B.named
  have hlocks := B.notSynchronized
  subst hsz
  have hS : va_S (cn_A a s.heap.size) s.heap s.heap [] := va_S.rf
  have hl := lv_entry ([.ref a, .int k0, .int k1, .int k2, .int k3]) (n := 5) (Nat.le_of_ble_eq_true rfl)
  rw [lg_entry_eq]
  generalize (lg_sl ([.ref a, .int k0, .int k1, .int k2, .int k3]) ++ List.replicate (5 - (lg_sl ([.ref a, .int k0, .int k1, .int k2, .int k3])).length) Slot.unset).toArray = ls at hl ⊢
  have hl : lv_has ls 5 [(0, .ref a), (1, .int k0), (2, .int k1), (3, .int k2), (4, .int k3)] := hl
  refine lv_aload_n hx hb dX9_init_0 rfl (lv_at hl 0 rfl) ?_
  refine lv_iload_n hx hb dX9_init_1 rfl (lv_at hl 1 rfl) ?_
  refine lv_iload_n hx hb dX9_init_2 rfl (lv_at hl 2 rfl) ?_
  refine lv_iload_n hx hb dX9_init_3 rfl (lv_at hl 3 rfl) ?_
  refine lv_iload hx hb dX9_init_4 (lv_at hl 4 rfl) ?_
  refine va_callv (va_runI (As := [.int k0, .int k1, .int k2, .int k3]) (rest := []) ⟨hx, hb, hml, hown, hts⟩ (ctX5_init l D a d0 hci k0 k1 k2 k3 s.heap.size) (cwI 4 hts gX9_init_X5_init rfl rfl rfl (hts (.initialized RX5) (by decide +kernel)) (hts (.methodLink RX9 1 yX5_init) (by decide +kernel)) (hts (.instanceMethod yX5_init) (by decide +kernel)) rfl (by decide +kernel) ⟨Nat.le_of_ble_eq_true rfl, Nat.le_of_ble_eq_true rfl⟩) ⟨cn_blind _ _ _ _, fun U hU hW => ⟨rfl, by show U.heap.size = s.heap.size; rw [hU], by rw [hU]; exact hP, va_K.moved hW.alike hK⟩⟩ rfl rfl hl.1 rfl (lv_room (Nat.le_of_ble_eq_true rfl)) dX9_init_6 ⟨Nat.zero_le _, Nat.zero_le _⟩) hS (fun q _ h => h) (fun q h => h) (fun u t H locs ht hvm hw hB hz1 hk1 hS => ?_)
  exact W.vret hx hb hr (fun t2 ht2 hW => ⟨⟨(), rfl, trivial, by dsimp only; rw [ht2, ← ht]; exact hB⟩, hS.F ht2⟩) hS.2.2 dX9_init_9
abbrev rmX3_init : Room := { frames := 3, cells := 0, slots := 0, locals := 60 }
set_option maxHeartbeats 4000000 in
set_option maxRecDepth 100000 in
theorem ctX3_init (l : Launch) (D : va_G) (a : Nat) (d0 : cc_PD) (hci : cc_isP d0.1) (k0 k1 k2 k3 : Int32) : cn_Mc l yX3_init wsX3_init rmX3_init D a d0 k0 k1 k2 k3 := by
  intro sz
  refine Met.ofW (cc := cX3_init) (maxL := 5) (ret := none) (by decide) rfl ?_
  intro p e s m args below meth c s₁ B hml hv
  obtain ⟨rfl, hsz, hP, hK⟩ := hv
  have hx := B.exec
  have hb := B.bytes
  have hr := B.returns
  have hts := atoms_spec (ws := wsX3_init) B.pre
  have hown : s.vm.findClass RX3 = some m.cls := findClass_of_methodNamed B.named
  have hlocks := B.notSynchronized
  subst hsz
  have hS : va_S (cn_A a s.heap.size) s.heap s.heap [] := va_S.rf
  have hl := lv_entry ([.ref a, .int k0, .int k1, .int k2, .int k3]) (n := 5) (Nat.le_of_ble_eq_true rfl)
  rw [lg_entry_eq]
  generalize (lg_sl ([.ref a, .int k0, .int k1, .int k2, .int k3]) ++ List.replicate (5 - (lg_sl ([.ref a, .int k0, .int k1, .int k2, .int k3])).length) Slot.unset).toArray = ls at hl ⊢
  have hl : lv_has ls 5 [(0, .ref a), (1, .int k0), (2, .int k1), (3, .int k2), (4, .int k3)] := hl
  refine lv_aload_n hx hb dX3_init_0 rfl (lv_at hl 0 rfl) ?_
  refine lv_iload_n hx hb dX3_init_1 rfl (lv_at hl 1 rfl) ?_
  refine lv_iload_n hx hb dX3_init_2 rfl (lv_at hl 2 rfl) ?_
  refine lv_iload_n hx hb dX3_init_3 rfl (lv_at hl 3 rfl) ?_
  refine lv_iload hx hb dX3_init_4 (lv_at hl 4 rfl) ?_
  refine va_callv (va_runI (As := [.int k0, .int k1, .int k2, .int k3]) (rest := []) ⟨hx, hb, hml, hown, hts⟩ (ctX0_init l D a d0 hci k0 k1 k2 k3 s.heap.size) (cwI 4 hts gX3_init_X0_init rfl rfl rfl (hts (.initialized RX0) (by decide +kernel)) (hts (.methodLink RX3 1 yX0_init) (by decide +kernel)) (hts (.instanceMethod yX0_init) (by decide +kernel)) rfl (by decide +kernel) ⟨Nat.le_of_ble_eq_true rfl, Nat.le_of_ble_eq_true rfl⟩) ⟨cn_blind _ _ _ _, fun U hU hW => ⟨rfl, by show U.heap.size = s.heap.size; rw [hU], by rw [hU]; exact hP, va_K.moved hW.alike hK⟩⟩ rfl rfl hl.1 rfl (lv_room (Nat.le_of_ble_eq_true rfl)) dX3_init_6 ⟨Nat.zero_le _, Nat.zero_le _⟩) hS (fun q _ h => h) (fun q h => h) (fun u t H locs ht hvm hw hB hz1 hk1 hS => ?_)
  exact W.vret hx hb hr (fun t2 ht2 hW => ⟨⟨(), rfl, trivial, by dsimp only; rw [ht2, ← ht]; exact hB⟩, hS.F ht2⟩) hS.2.2 dX3_init_9
