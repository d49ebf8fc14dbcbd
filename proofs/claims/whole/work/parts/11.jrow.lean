section JR
variable {p : Program} {l : Launch} {e : Env} {R : Room} {s : State} {m : MethodId} {args : Array Value} {below : List Frame} {meth : Method} {c : Code} {H : Heap} {locs : List Loc} {cells slots : Nat} {Q : State → Prop}
variable {cc : ByteArray} {pc nL : Nat} {ls : Array Slot} {rest : List Value} {Ts : List Cond} {own : String} {ad : Nat → Nat} {A : Nat → Prop} {i : Nat}
def pp_l5 {β : Type} (n : Nat) (a : Option β) : Option β := if n < 5 then a else none
theorem pp_l5_ex {β : Type} {n : Nat} {a : Option β} {r : β} (h : pp_l5 n a = some r) : n < 5 ∧ a = some r := by
  unfold pp_l5 at h
  by_cases q : n < 5
  · rw [if_pos q] at h; exact ⟨q, h⟩
  · rw [if_neg q] at h; cases h
def js_X (p : Program) (m : MethodId) (c : Code) (cc : ByteArray) (nL : Nat) (s : State) (args : Array Value) (Ts : List Cond) (own : String) (ad : Nat → Nat) (A : Nat → Prop) : Prop := CallFix p m c cc nL s args Ts own ∧ js_K ad A s s.heap
def js_H (s : State) (H : Heap) (locs : List Loc) : Prop := va_S (fun _ => False) s.heap H locs
theorem js_S (G : js_H s H locs) : va_S A s.heap H locs := ⟨G.1, fun q h _ => G.2.1 q h (fun z => z), fun x hx => (G.2.2 x hx).elim⟩
abbrev js_Pre (ad : Nat → Nat) (A : Nat → Prop) (av : List Value) (sz : Nat) : Array Value → State → Prop := va_Pc av (fun U => U.heap.size = sz ∧ js_K ad A U U.heap)
def js_Mi (l : Launch) (y : MethodName) (ws : List Cond) (rm : Room) (ad : Nat → Nat) (av : List Value) (r : Int32) : Prop := ∀ (sz : Nat) (A : Nat → Prop), Met l y ws rm (js_Pre ad A av sz) (va_Qi (fun (x : Int32) (_ : Unit) => x = r) (fun _ _ => True) (fun _ => False)) 0 0 (fun _ => False)
def js_Mv (l : Launch) (y : MethodName) (ws : List Cond) (rm : Room) (ad : Nat → Nat) (av : List Value) : Prop := ∀ (sz : Nat) (A : Nat → Prop), Met l y ws rm (js_Pre ad A av sz) (va_Qv (fun (_ : Unit) => True) (fun _ _ => True) (fun _ => False)) 0 0 (fun _ => False)
def js_Mo (l : Launch) (y : MethodName) (ws : List Cond) (rm : Room) (ad : Nat → Nat) (av : List Value) (r : Nat) : Prop := ∀ (sz : Nat) (A : Nat → Prop), Met l y ws rm (js_Pre ad A av sz) (va_Qr (fun (_ : Unit) => True) (fun _ a _ => a = r) (fun _ => False)) 0 0 (fun _ => False)
theorem js_blind (av : List Value) (sz : Nat) : FrameBlind (js_Pre ad A av sz) := fun a U f mk z => by
  obtain ⟨q0, q1, qZ, qR⟩ := z
  exact ⟨q0, q1, js_Z.moved (u := U) (U := U.calling f mk a) (Vm.Alike.refl U.vm) qZ, js_R.same (u := U) (U := U.calling f mk a) rfl qR⟩
theorem js_at (hK : js_K ad A s s.heap) (hS : va_S A s.heap H locs) {U : State} (hU : U.heap = H) (hW : s.WarmedH U.vm) : js_K ad A U U.heap := by
  refine ⟨?_, js_R.warm hW hK.2⟩
  rw [hU]
  exact (hK.1.moved hW.alike).kept hS.2.1
theorem js_val (X : js_X p m c cc nL s args Ts own ad A) (G : js_H s H locs) (hi : i < 5) {index : Nat} (hl : Cond.fieldLink own index "java/lang/String" "value" "[B" ∈ Ts) (hdg : decode cc pc = .ok (.getfield index, 3))
    (kk : W p l e R s m args below meth c H locs cells slots Q (F0 m (pc + 3) ls (.ref (ad (120 + i)) :: rest))) : W p l e R s m args below meth c H locs cells slots Q (F0 m pc ls (.ref (ad (100 + i)) :: rest)) :=
  vk_getf X.1.1 X.1.2.1 (X.2.1.1.1 i hi).2.2.1 (js_S G) X.1.2.2.2.1 (X.1.2.2.2.2 _ hl) (fun _ h => h) hdg kk
theorem js_cod (X : js_X p m c cc nL s args Ts own ad A) (G : js_H s H locs) (hi : i < 5) {index : Nat} (hl : Cond.fieldLink own index "java/lang/String" "coder" "B" ∈ Ts) (hdg : decode cc pc = .ok (.getfield index, 3))
    (kk : W p l e R s m args below meth c H locs cells slots Q (F0 m (pc + 3) ls (.int 0 :: rest))) : W p l e R s m args below meth c H locs cells slots Q (F0 m pc ls (.ref (ad (100 + i)) :: rest)) :=
  vk_getf X.1.1 X.1.2.1 (X.2.1.1.1 i hi).2.1 (js_S G) X.1.2.2.2.1 (X.1.2.2.2.2 _ hl) (fun _ h => h) hdg kk
theorem js_alen (X : js_X p m c cc nL s args Ts own ad A) (G : js_H s H locs) (hi : i < 5) {v : Int32} (hv : Int32.ofNat (js_len.getD i 0) = v) (hdg : decode cc pc = .ok (.arraylength, 1))
    (kk : W p l e R s m args below meth c H locs cells slots Q (F0 m (pc + 1) ls (.int v :: rest))) : W p l e R s m args below meth c H locs cells slots Q (F0 m pc ls (.ref (ad (120 + i)) :: rest)) :=
  va_tlen X.1.1 X.1.2.1 (X.2.1.1.1 i hi).2.2.2 (js_S G) hv hdg kk
theorem js_bald (X : js_X p m c cc nL s args Ts own ad A) (G : js_H s H locs) (hi : i < 5) {j : Int32} (hin : vp_in j (js_len.getD i 0)) (hdg : decode cc pc = .ok (.baload, 1))
    (kk : W p l e R s m args below meth c H locs cells slots Q (F0 m (pc + 1) ls (.int ((js_byt.getD i []).getD j.toNatClampNeg 0) :: rest))) : W p l e R s m args below meth c H locs cells slots Q (F0 m pc ls (.int j :: .ref (ad (120 + i)) :: rest)) :=
  va_tb X.1.1 X.1.2.1 (X.2.1.1.1 i hi).2.2.2 (js_S G) hin rfl hdg kk
theorem js_cs (X : js_X p m c cc nL s args Ts own ad A) (G : js_H s H locs) {index : Nat} (hl : Cond.fieldLink own index "java/lang/String" "COMPACT_STRINGS" "Z" ∈ Ts) (hdg : decode cc pc = .ok (.getstatic index, 3))
    (kk : W p l e R s m args below meth c H locs cells slots Q (F0 m (pc + 3) ls (.int 1 :: rest))) : W p l e R s m args below meth c H locs cells slots Q (F0 m pc ls rest) :=
  va_gets X.1.1 X.1.2.1 X.2.1.2.1 (js_S G) X.1.2.2.2.1 (X.1.2.2.2.2 _ hl) (fun _ h => h) hdg kk
theorem js_calV (X : js_X p m c cc nL s args Ts own ad A) (G : js_H s H locs) (hi : i < 5) {y : MethodName} {bytes : ByteArray} {maxL n index : Nat} {ret : Option FieldType} {wsc : List Cond} {rmc : Room} {As st0 : List Value} {r : Int32} (hM : js_Mi l y wsc rmc ad (.ref (ad (100 + i)) :: As) r) (cw : CallW R s args own RJ0 index y bytes maxL ret wsc rmc 0 0 n) (hn : As.length = n) (hsz : ls.size = nL) (hst : st0 = As.reverse ++ .ref (ad (100 + i)) :: rest) (hW : (rest.map fun v => v.category).sum ≤ 8) (hdg : decode cc pc = .ok (.invokevirtual index, 3))
    (kk : ∀ (H1 : Heap) (locs1 : List Loc), js_H s H1 locs1 → W p l e R s m args below meth c H1 locs1 0 0 Q (F0 m (pc + 3) ls (.int r :: rest))) : W p l e R s m args below meth c H locs 0 0 Q (F0 m pc ls st0) := by
  have hp : PreV s H RJ0 (ad (100 + i)) (js_Pre ad A (.ref (ad (100 + i)) :: As) H.size) As := ⟨js_blind _ _, vk_recv (adK := fun i => ad (100 + i)) (i := i) X.2.1.1 hi (js_S G), fun U hU hW => ⟨rfl, by show U.heap.size = H.size; rw [hU], js_at X.2 (js_S G) hU hW⟩⟩
  refine va_calli (va_runV (As := As) (rest := rest) X.1 (hM H.size A) cw hp rfl hn hsz hst (lv_room hW) hdg ⟨Nat.zero_le _, Nat.zero_le _⟩) G (fun _ _ h => h) (fun _ h => h) (fun r1 u t H1 locs1 ht hvm hw hB hz hk hS => ?_)
  obtain rfl := hw
  exact kk H1 locs1 hS
theorem js_csi (X : js_X p m c cc nL s args Ts own ad A) (G : js_H s H locs) {y : MethodName} {bytes : ByteArray} {maxL n index : Nat} {ret : Option FieldType} {wsc : List Cond} {rmc : Room} {As st0 : List Value} {r : Int32} (hM : js_Mi l y wsc rmc ad As r) (cw : CallB R s args own index y bytes maxL ret wsc rmc 0 0 n ∧ (Cond.static y).before args s = true) (hn : As.length = n) (hsz : ls.size = nL) (hst : st0 = As.reverse ++ rest) (hW : (rest.map fun v => v.category).sum ≤ 8) (hdg : decode cc pc = .ok (.invokestatic index, 3))
    (kk : ∀ (H1 : Heap) (locs1 : List Loc), js_H s H1 locs1 → W p l e R s m args below meth c H1 locs1 0 0 Q (F0 m (pc + 3) ls (.int r :: rest))) : W p l e R s m args below meth c H locs 0 0 Q (F0 m pc ls st0) := by
  have hp : PreS s H (js_Pre ad A As H.size) As := ⟨js_blind _ _, fun U hU hW => ⟨rfl, by show U.heap.size = H.size; rw [hU], js_at X.2 (js_S G) hU hW⟩⟩
  refine va_calli (va_runS (As := As) (rest := rest) X.1 (hM H.size A) cw hp rfl hn hsz hst (lv_room hW) hdg ⟨Nat.zero_le _, Nat.zero_le _⟩) G (fun _ _ h => h) (fun _ h => h) (fun r1 u t H1 locs1 ht hvm hw hB hz hk hS => ?_)
  obtain rfl := hw
  exact kk H1 locs1 hS
theorem js_csv (X : js_X p m c cc nL s args Ts own ad A) (G : js_H s H locs) {y : MethodName} {bytes : ByteArray} {maxL n index : Nat} {ret : Option FieldType} {wsc : List Cond} {rmc : Room} {As st0 : List Value} (hM : js_Mv l y wsc rmc ad As) (cw : CallB R s args own index y bytes maxL ret wsc rmc 0 0 n ∧ (Cond.static y).before args s = true) (hn : As.length = n) (hsz : ls.size = nL) (hst : st0 = As.reverse ++ rest) (hW : (rest.map fun v => v.category).sum ≤ 8) (hdg : decode cc pc = .ok (.invokestatic index, 3))
    (kk : ∀ (H1 : Heap) (locs1 : List Loc), js_H s H1 locs1 → W p l e R s m args below meth c H1 locs1 0 0 Q (F0 m (pc + 3) ls rest)) : W p l e R s m args below meth c H locs 0 0 Q (F0 m pc ls st0) := by
  have hp : PreS s H (js_Pre ad A As H.size) As := ⟨js_blind _ _, fun U hU hW => ⟨rfl, by show U.heap.size = H.size; rw [hU], js_at X.2 (js_S G) hU hW⟩⟩
  refine va_callv (va_runS (As := As) (rest := rest) X.1 (hM H.size A) cw hp rfl hn hsz hst (lv_room hW) hdg ⟨Nat.zero_le _, Nat.zero_le _⟩) G (fun _ _ h => h) (fun _ h => h) (fun u t H1 locs1 ht hvm hw hB hz hk hS => ?_)
  exact kk H1 locs1 hS
theorem js_csx (X : js_X p m c cc nL s args Ts own ad A) (G : js_H s H locs) {y : MethodName} {bytes : ByteArray} {maxL n index : Nat} {ret : Option FieldType} {wsc : List Cond} {rmc : Room} {As st0 : List Value} {r : Int32} (hM : xs_Mi l y wsc rmc As r) (cw : CallB R s args own index y bytes maxL ret wsc rmc 0 0 n ∧ (Cond.static y).before args s = true) (hn : As.length = n) (hsz : ls.size = nL) (hst : st0 = As.reverse ++ rest) (hW : (rest.map fun v => v.category).sum ≤ 8) (hdg : decode cc pc = .ok (.invokestatic index, 3))
    (kk : ∀ (H1 : Heap) (locs1 : List Loc), js_H s H1 locs1 → W p l e R s m args below meth c H1 locs1 0 0 Q (F0 m (pc + 3) ls (.int r :: rest))) : W p l e R s m args below meth c H locs 0 0 Q (F0 m pc ls st0) := by
  refine va_calli (va_runS (As := As) (rest := rest) X.1 (hM H.size) cw (xs_pre As) rfl hn hsz hst (lv_room hW) hdg ⟨Nat.zero_le _, Nat.zero_le _⟩) G (fun _ _ h => h) (fun _ h => h) (fun r1 u t H1 locs1 ht hvm hw hB hz hk hS => ?_)
  obtain rfl := hw
  exact kk H1 locs1 hS
theorem js_iret {ty : FieldType} {r v : Int32} (X : js_X p m c cc nL s args Ts own ad A) (hr : meth.sig.returnType = some ty) (hlk : meth.locks = false) (hn : narrow ty (.int v) = .int v) (G : js_H s H locs) (h : some v = some r) (hQ : Q = MQ below (va_Qi (fun (x : Int32) (_ : Unit) => x = r) (fun _ _ => True) (fun _ => False)) args s 0 0 (fun _ => False)) (hdg : decode cc pc = .ok (.ireturn, 1)) : W p l e R s m args below meth c H locs 0 0 Q (F0 m pc ls [.int v]) := by
  subst hQ
  obtain rfl := Option.some.inj h
  exact W.zret X.1.1 X.1.2.1 hr hn (fun t ht hW => ⟨⟨v, (), rfl, rfl, trivial⟩, va_S.F G ht⟩) G.2.2 hdg hlk
theorem js_vret (X : js_X p m c cc nL s args Ts own ad A) (hr : meth.sig.returnType = none) (hlk : meth.locks = false) (G : js_H s H locs) (hQ : Q = MQ below (va_Qv (fun (_ : Unit) => True) (fun _ _ => True) (fun _ => False)) args s 0 0 (fun _ => False)) (hdg : decode cc pc = .ok (.return_, 1)) : W p l e R s m args below meth c H locs 0 0 Q (F0 m pc ls []) := by
  subst hQ
  exact W.vret X.1.1 X.1.2.1 hr (fun t ht hW => ⟨⟨(), rfl, trivial, trivial⟩, va_S.F G ht⟩) G.2.2 hdg hlk
theorem js_oret {rt : FieldType} {r v : Nat} (X : js_X p m c cc nL s args Ts own ad A) (hr : meth.sig.returnType = some rt) (hrt : ∃ n, rt = .object n) (hlk : meth.locks = false) (G : js_H s H locs) (h : v = r) (hQ : Q = MQ below (va_Qr (fun (_ : Unit) => True) (fun _ a _ => a = r) (fun _ => False)) args s 0 0 (fun _ => False)) (hdg : decode cc pc = .ok (.areturn, 1)) : W p l e R s m args below meth c H locs 0 0 Q (F0 m pc ls [.ref v]) := by
  subst hQ; subst h
  exact W.aret X.1.1 X.1.2.1 hr (Or.inl hrt) (Or.inr ⟨v, rfl⟩) (fun t ht hW => ⟨⟨(), v, rfl, trivial, rfl⟩, va_S.F G ht⟩) G.2.2 hdg hlk
theorem js_ofW {y : MethodName} {ws ws' : List Cond} {rm : Room} {maxL : Nat} {ret : Option FieldType} {av : List Value} {Qc : Array Value → State → Outcome → State → Prop} {sz : Nat} {free : Addr → Prop} (hy : plainName y.cls = true) (hw : ws = Cond.code y cc maxL ret :: ws') (hcls : y.cls = own) (hmx : (lg_sl av).length ≤ maxL)
    (body : ∀ (p : Program) (e : Env) (s : State) (m : MethodId) (args : Array Value) (below : List Frame) (meth : Method) (c : Code) (ls : Array Slot), js_X p m c cc maxL s args ws own ad A → meth.sig.returnType = ret → meth.locks = false → js_H s s.heap [] → lv_has ls maxL (lv_args 0 av) → ∀ (Q : State → Prop), Q = MQ below Qc args s 0 0 free → W p l e (headSpec ws rm).room s m args below meth c s.heap [] 0 0 Q (F0 m 0 ls [])) : Met l y ws rm (js_Pre ad A av sz) Qc 0 0 free := by
  refine Met.ofW (cc := cc) (maxL := maxL) (ret := ret) hy hw ?_
  intro p e s m args below meth c s₁ B hml hv
  obtain ⟨rfl, hsz, hK⟩ := hv
  have hts := atoms_spec (ws := ws) B.pre
  have hown : s.vm.findClass own = some m.cls := hcls ▸ findClass_of_methodNamed B.named
  have hl := lv_entry av (n := maxL) hmx
  rw [lg_entry_eq]
  exact body p e s m _ below meth c _ ⟨⟨B.exec, B.bytes, hml, hown, hts⟩, hK⟩ B.returns B.notSynchronized va_S.rf hl _ rfl
/-! the landed side's texts -/
variable {g : cc_G} {pls : va_W} {q : cc_S}
theorem cc_jK (X : cc_X p m c cc nL s args Ts own g A) : js_K g.2.2.1 A s s.heap := ⟨X.2.1.2.2.1.2.2.2.2, X.2.1.2.2.2⟩
theorem cc_calj (X : cc_X p m c cc nL s args Ts own g A) (G : cc_H g A pls q s H locs) (hi : i < 5) {y : MethodName} {bytes : ByteArray} {maxL n index : Nat} {ret : Option FieldType} {wsc : List Cond} {rmc : Room} {As st0 : List Value} {r : Int32} (hM : js_Mi l y wsc rmc g.2.2.1 (.ref (cc_ad g (100 + i)) :: As) r) (cw : CallW R s args own RJ0 index y bytes maxL ret wsc rmc 0 0 n) (hn : As.length = n) (hsz : ls.size = nL) (hst : st0 = As.reverse ++ .ref (cc_ad g (100 + i)) :: rest) (hW : (rest.map fun v => v.category).sum ≤ 8) (hdg : decode cc pc = .ok (.invokevirtual index, 3))
    (kk : ∀ (H1 : Heap) (locs1 : List Loc), cc_H g A pls q s H1 locs1 → W p l e R s m args below meth c H1 locs1 0 0 Q (F0 m (pc + 3) ls (.int r :: rest))) : W p l e R s m args below meth c H locs 0 0 Q (F0 m pc ls st0) := by
  have hp : PreV s H RJ0 (cc_ad g (100 + i)) (js_Pre g.2.2.1 A (.ref (cc_ad g (100 + i)) :: As) H.size) As := ⟨js_blind _ _, vk_recv (adK := fun i => cc_ad g (100 + i)) (i := i) (cc_jK X).1.1 hi G.2, fun U hU hW => ⟨rfl, by show U.heap.size = H.size; rw [hU], js_at (cc_jK X) G.2 hU hW⟩⟩
  refine va_calli (va_runV (As := As) (rest := rest) X.1 (hM H.size A) cw hp rfl hn hsz hst (lv_room hW) hdg ⟨Nat.zero_le _, Nat.zero_le _⟩) G.2 (fun _ _ h => h.elim) (fun _ h => h.elim) (fun r1 u t H1 locs1 ht hvm hw hB hz hk hS => ?_)
  obtain rfl := hw
  exact kk H1 locs1 (cc_kept G hk hS)
theorem cc_csj (X : cc_X p m c cc nL s args Ts own g A) (G : cc_H g A pls q s H locs) {y : MethodName} {bytes : ByteArray} {maxL n index : Nat} {ret : Option FieldType} {wsc : List Cond} {rmc : Room} {As st0 : List Value} {r : Int32} (hM : js_Mi l y wsc rmc g.2.2.1 As r) (cw : CallB R s args own index y bytes maxL ret wsc rmc 0 0 n ∧ (Cond.static y).before args s = true) (hn : As.length = n) (hsz : ls.size = nL) (hst : st0 = As.reverse ++ rest) (hW : (rest.map fun v => v.category).sum ≤ 8) (hdg : decode cc pc = .ok (.invokestatic index, 3))
    (kk : ∀ (H1 : Heap) (locs1 : List Loc), cc_H g A pls q s H1 locs1 → W p l e R s m args below meth c H1 locs1 0 0 Q (F0 m (pc + 3) ls (.int r :: rest))) : W p l e R s m args below meth c H locs 0 0 Q (F0 m pc ls st0) := by
  have hp : PreS s H (js_Pre g.2.2.1 A As H.size) As := ⟨js_blind _ _, fun U hU hW => ⟨rfl, by show U.heap.size = H.size; rw [hU], js_at (cc_jK X) G.2 hU hW⟩⟩
  refine va_calli (va_runS (As := As) (rest := rest) X.1 (hM H.size A) cw hp rfl hn hsz hst (lv_room hW) hdg ⟨Nat.zero_le _, Nat.zero_le _⟩) G.2 (fun _ _ h => h.elim) (fun _ h => h.elim) (fun r1 u t H1 locs1 ht hvm hw hB hz hk hS => ?_)
  obtain rfl := hw
  exact kk H1 locs1 (cc_kept G hk hS)
theorem cc_coj (X : cc_X p m c cc nL s args Ts own g A) (G : cc_H g A pls q s H locs) {y : MethodName} {bytes : ByteArray} {maxL n index : Nat} {ret : Option FieldType} {wsc : List Cond} {rmc : Room} {As st0 : List Value} {r : Nat} (hM : js_Mo l y wsc rmc g.2.2.1 As r) (cw : CallB R s args own index y bytes maxL ret wsc rmc 0 0 n ∧ (Cond.static y).before args s = true) (hn : As.length = n) (hsz : ls.size = nL) (hst : st0 = As.reverse ++ rest) (hW : (rest.map fun v => v.category).sum ≤ 8) (hdg : decode cc pc = .ok (.invokestatic index, 3))
    (kk : ∀ (H1 : Heap) (locs1 : List Loc), cc_H g A pls q s H1 locs1 → W p l e R s m args below meth c H1 locs1 0 0 Q (F0 m (pc + 3) ls (.ref r :: rest))) : W p l e R s m args below meth c H locs 0 0 Q (F0 m pc ls st0) := by
  have hp : PreS s H (js_Pre g.2.2.1 A As H.size) As := ⟨js_blind _ _, fun U hU hW => ⟨rfl, by show U.heap.size = H.size; rw [hU], js_at (cc_jK X) G.2 hU hW⟩⟩
  refine va_callr (va_runS (As := As) (rest := rest) X.1 (hM H.size A) cw hp rfl hn hsz hst (lv_room hW) hdg ⟨Nat.zero_le _, Nat.zero_le _⟩) G.2 (fun _ _ h => h.elim) (fun _ h => h.elim) (fun u a t H1 locs1 ht hvm hw hB hz hk hS => ?_)
  obtain rfl := hB
  exact kk H1 locs1 (cc_kept G hk hS)
end JR
