section PR
variable {p : Program} {l : Launch} {e : Env} {R : Room} {s : State} {m : MethodId} {args : Array Value} {below : List Frame} {meth : Method} {c : Code} {H : Heap} {locs : List Loc} {cells slots : Nat} {Q : State → Prop}
variable {cc : ByteArray} {pc nL : Nat} {ls : Array Slot} {rest : List Value} {Ts : List Cond} {own : String} {D : va_G} {a : Nat} {d : cc_PD}
def cp_H (D : va_G) (a : Nat) (d : cc_PD) (s : State) (H : Heap) (locs : List Loc) : Prop := va_P D vwCl [(a, cc_plc d)] H ∧ va_S (fun _ => False) s.heap H locs
def cp_X (p : Program) (m : MethodId) (c : Code) (cc : ByteArray) (nL : Nat) (s : State) (args : Array Value) (Ts : List Cond) (own : String) (D : va_G) (d : cc_PD) : Prop := CallFix p m c cc nL s args Ts own ∧ va_K D vwCl [] s ∧ cc_isP d.1 ∧ cc_pW Ts
abbrev cp_Pre (D : va_G) (av : List Value) (a : Nat) (d : cc_PD) (sz : Nat) : Array Value → State → Prop := va_Pc av (fun U => U.heap.size = sz ∧ va_P D vwCl [(a, cc_plc d)] U.heap ∧ va_K D vwCl [] U)
theorem cp_blind (av : List Value) (sz : Nat) : FrameBlind (cp_Pre D av a d sz) := fun b U f mk z => by
  obtain ⟨q0, q1, qP, qK⟩ := z
  exact ⟨q0, q1, qP, va_K.moved (u := U) (U := U.calling f mk b) (Vm.Alike.refl U.vm) qK⟩
theorem cp_getf (X : cp_X p m c cc nL s args Ts own D d) (G : cp_H D a d s H locs) (k : Nat) (hk : k < 4) {index : Nat} (hl : Cond.fieldLink own index (TX4 k).1 (TX4 k).2.1 (TX4 k).2.2.1 ∈ Ts) {v : Value} (hv : ([.int (d.2 0), .int (d.2 1), .int (d.2 2), .int (d.2 3)] : List Value)[k]? = some v) (hdg : decode cc pc = .ok (.getfield index, 3))
    (kk : W p l e R s m args below meth c H locs cells slots Q (F0 m (pc + 3) ls (v :: rest))) : W p l e R s m args below meth c H locs cells slots Q (F0 m pc ls (.ref a :: rest)) :=
  cp_get X.1.1 X.1.2.1 X.1.2.2.2.2 X.1.2.2.2.1 X.2.1 G.1 (q0 := 0) rfl X.2.2.1 X.2.2.2 k hk (X.1.2.2.2.2 _ hl) hv hdg kk
theorem cp_kept {H1 : Heap} {locs1 : List Loc} (G : cp_H D a d s H locs) (hk : ∀ x : Nat, x < H.size → ¬ False → H1[x]? = H[x]?) (hS : va_S (fun _ => False) s.heap H1 locs1) : cp_H D a d s H1 locs1 :=
  ⟨G.1.kept (fun k x hx => hk x.1 (va_at.lt (G.1 k x hx)) (fun z => z)), hS⟩
theorem cp_super (X : cp_X p m c cc nL s args Ts own D d) (G : cp_H D a d s H locs) {y : MethodName} {bytes : ByteArray} {maxL n index : Nat} {ret : Option FieldType} {wsc : List Cond} {rmc : Room} {As st0 : List Value} {r : Int32} (hM : cp_Mi l y wsc rmc D (.ref a :: As) a d r) (cw : va_CS R s args own index y bytes maxL ret wsc rmc 0 0 n) (hn : As.length = n) (hsz : ls.size = nL) (hst : st0 = As.reverse ++ .ref a :: rest) (hW : (rest.map fun v => v.category).sum ≤ 8) (hdg : decode cc pc = .ok (.invokespecial index, 3))
    (kk : ∀ (H1 : Heap) (locs1 : List Loc), cp_H D a d s H1 locs1 → W p l e R s m args below meth c H1 locs1 0 0 Q (F0 m (pc + 3) ls (.int r :: rest))) : W p l e R s m args below meth c H locs 0 0 Q (F0 m pc ls st0) := by
  obtain ⟨C, h1, -⟩ := cc_cl X.2.2.1 X.2.2.2
  have hp : PreV s H C a (cp_Pre D (.ref a :: As) a d H.size) As := ⟨cp_blind _ _, va_recv X.2.1 G.1 (q := (C, TX4, 4)) (q0 := 0) (ci := d.1) (fs := [.int (d.2 0), .int (d.2 1), .int (d.2 2), .int (d.2 3)]) h1 rfl, fun U hU hW => ⟨rfl, by show U.heap.size = H.size; rw [hU], by rw [hU]; exact G.1, va_K.moved hW.alike X.2.1⟩⟩
  refine va_calli (va_runSU (As := As) (rest := rest) (C := C) (cC := D.1 d.1) (X.2.1.1 d.1 (C, TX4, 4) h1).2 X.1 (hM H.size) cw hp rfl hn hsz hst (lv_room hW) hdg ⟨Nat.zero_le _, Nat.zero_le _⟩) G.2 (fun _ _ h => h) (fun _ h => h) (fun r1 u t H1 locs1 ht hvm hw hB hz hk hS => ?_)
  obtain rfl := hw
  exact kk H1 locs1 (cp_kept G hk hS)
theorem cp_iret {ty : FieldType} {r v : Int32} (X : cp_X p m c cc nL s args Ts own D d) (hr : meth.sig.returnType = some ty) (hlk : meth.locks = false) (hn : narrow ty (.int v) = .int v) (G : cp_H D a d s H locs) (h : some v = some r) (hQ : Q = MQ below (va_Qi (fun (x : Int32) (_ : Unit) => x = r) (fun _ _ => True) (fun _ => False)) args s 0 0 (fun _ => False)) (hdg : decode cc pc = .ok (.ireturn, 1)) : W p l e R s m args below meth c H locs 0 0 Q (F0 m pc ls [.int v]) := by
  subst hQ
  obtain rfl := Option.some.inj h
  exact W.zret X.1.1 X.1.2.1 hr hn (fun t ht hW => ⟨⟨v, (), rfl, rfl, trivial⟩, G.2.F ht⟩) G.2.2.2 hdg hlk
theorem cp_ofW {y : MethodName} {ws ws' : List Cond} {rm : Room} {maxL : Nat} {ret : Option FieldType} {av : List Value} {Qc : Array Value → State → Outcome → State → Prop} {sz : Nat} {free : Addr → Prop} (hci : cc_isP d.1) (hpw : cc_pW ws) (hy : plainName y.cls = true) (hw : ws = Cond.code y cc maxL ret :: ws') (hcls : y.cls = own) (hmx : (lg_sl av).length ≤ maxL)
    (body : ∀ (p : Program) (e : Env) (s : State) (m : MethodId) (args : Array Value) (below : List Frame) (meth : Method) (c : Code) (ls : Array Slot), cp_X p m c cc maxL s args ws own D d → meth.sig.returnType = ret → meth.locks = false → cp_H D a d s s.heap [] → lv_has ls maxL (lv_args 0 av) → ∀ (Q : State → Prop), Q = MQ below Qc args s 0 0 free → W p l e (headSpec ws rm).room s m args below meth c s.heap [] 0 0 Q (F0 m 0 ls [])) : Met l y ws rm (cp_Pre D av a d sz) Qc 0 0 free := by
  refine Met.ofW (cc := cc) (maxL := maxL) (ret := ret) hy hw ?_
  intro p e s m args below meth c s₁ B hml hv
  obtain ⟨rfl, hsz, hW, hK⟩ := hv
  have hts := atoms_spec (ws := ws) B.pre
  have hown : s.vm.findClass own = some m.cls := hcls ▸ findClass_of_methodNamed B.named
  have hl := lv_entry av (n := maxL) hmx
  rw [lg_entry_eq]
  exact body p e s m _ below meth c _ ⟨⟨B.exec, B.bytes, hml, hown, hts⟩, hK, hci, hpw⟩ B.returns B.notSynchronized ⟨hW, va_S.rf⟩ hl _ rfl
theorem cp_math {H1 : Heap} (h : H1 = H) : H1 = H := h
variable {g : cc_G} {A : Nat → Prop} {pls : va_W} {q : cc_S}
theorem cc_prP (hm : (a, cc_plc d) ∈ pls) (X : cc_X p m c cc nL s args Ts own g A) (G : cc_H g A pls q s H locs) {ci : Nat} (hci : d.1 = ci) {C : String} {TT : u_T} {N : Nat} (hcl : vwCl[ci]? = some (C, TT, N)) (As : List Value) : PreV s H C a (cp_Pre g.1 (.ref a :: As) a d H.size) As := by
  obtain ⟨⟨pa, hok, hP, -⟩, -⟩ := G
  obtain ⟨k0, hk0⟩ := cc_mem (g := g) (pa := pa) (q := q) hm
  have hK := X.2.1.1
  refine ⟨cp_blind _ _, ?_, fun U hU hW => ⟨rfl, by show U.heap.size = H.size; rw [hU], ?_, va_K.moved hW.alike (hK.sub [] rfl)⟩⟩
  · exact va_recv hK hP (q := (C, TT, N)) (ci := d.1) (by rw [hci]; exact hcl) hk0
  · rw [hU]
    exact hP.sub [k0] (by simp [hk0])
theorem cc_calPU (hm : (a, cc_plc d) ∈ pls) (X : cc_X p m c cc nL s args Ts own g A) (G : cc_H g A pls q s H locs) {ci : Nat} (hci : d.1 = ci) {C : String} {TT : u_T} {N : Nat} (hcl : vwCl[ci]? = some (C, TT, N)) {x y : MethodName} {owner : String} {bytes : ByteArray} {maxL n index : Nat} {ret : Option FieldType} {wsc : List Cond} {rmc : Room} {As st0 : List Value} {r : Int32} (hM : cp_Mi l y wsc rmc g.1 (.ref a :: As) a d r) (cw : va_CU R s args own C owner index x y bytes maxL ret wsc rmc 0 0 n) (hn : As.length = n) (hsz : ls.size = nL) (hst : st0 = As.reverse ++ .ref a :: rest) (hW : (rest.map fun v => v.category).sum ≤ 8) (hdg : decode cc pc = .ok (.invokevirtual index, 3))
    (kk : ∀ (H1 : Heap) (locs1 : List Loc), cc_H g A pls q s H1 locs1 → W p l e R s m args below meth c H1 locs1 0 0 Q (F0 m (pc + 3) ls (.int r :: rest))) : W p l e R s m args below meth c H locs 0 0 Q (F0 m pc ls st0) := by
  refine va_calli (va_runU (As := As) (rest := rest) X.1 (hM H.size) cw (cc_prP hm X G hci hcl As) rfl hn hsz hst (lv_room hW) hdg ⟨Nat.zero_le _, Nat.zero_le _⟩) G.2 (fun _ _ h => h.elim) (fun _ h => h.elim) (fun r1 u t H1 locs1 ht hvm hw hB hz hk hS => ?_)
  obtain rfl := hw
  exact kk H1 locs1 (cc_kept G hk hS)
theorem cc_calPV (hm : (a, cc_plc d) ∈ pls) (X : cc_X p m c cc nL s args Ts own g A) (G : cc_H g A pls q s H locs) {ci : Nat} (hci : d.1 = ci) {C : String} {TT : u_T} {N : Nat} (hcl : vwCl[ci]? = some (C, TT, N)) {y : MethodName} {bytes : ByteArray} {maxL n index : Nat} {ret : Option FieldType} {wsc : List Cond} {rmc : Room} {As st0 : List Value} {r : Int32} (hM : cp_Mi l y wsc rmc g.1 (.ref a :: As) a d r) (cw : CallW R s args own C index y bytes maxL ret wsc rmc 0 0 n) (hn : As.length = n) (hsz : ls.size = nL) (hst : st0 = As.reverse ++ .ref a :: rest) (hW : (rest.map fun v => v.category).sum ≤ 8) (hdg : decode cc pc = .ok (.invokevirtual index, 3))
    (kk : ∀ (H1 : Heap) (locs1 : List Loc), cc_H g A pls q s H1 locs1 → W p l e R s m args below meth c H1 locs1 0 0 Q (F0 m (pc + 3) ls (.int r :: rest))) : W p l e R s m args below meth c H locs 0 0 Q (F0 m pc ls st0) := by
  refine va_calli (va_runV (As := As) (rest := rest) X.1 (hM H.size) cw (cc_prP hm X G hci hcl As) rfl hn hsz hst (lv_room hW) hdg ⟨Nat.zero_le _, Nat.zero_le _⟩) G.2 (fun _ _ h => h.elim) (fun _ h => h.elim) (fun r1 u t H1 locs1 ht hvm hw hB hz hk hS => ?_)
  obtain rfl := hw
  exact kk H1 locs1 (cc_kept G hk hS)
end PR
/-! guards for chars and sides; which method a player's kind answers with -/
def pp_l2 {β : Type} (n : Nat) (a : Option β) : Option β := if n < 2 then a else none
theorem pp_l2_ex {β : Type} {n : Nat} {a : Option β} {r : β} (h : pp_l2 n a = some r) : n < 2 ∧ a = some r := by
  unfold pp_l2 at h
  by_cases q : n < 2
  · rw [if_pos q] at h; exact ⟨q, h⟩
  · rw [if_neg q] at h; cases h
def pp_cz {β : Type} (v : Int32) (a : Option β) : Option β := if vp_nar .char v = v then a else none
theorem pp_cz_ex {β : Type} {v : Int32} {a : Option β} {r : β} (h : pp_cz v a = some r) : narrow .char (.int v) = .int v ∧ a = some r := by
  unfold pp_cz at h
  by_cases q : vp_nar .char v = v
  · rw [if_pos q] at h; exact ⟨congrArg Value.int q, h⟩
  · rw [if_neg q] at h; cases h
theorem cc_plen {p : Program} {l : Launch} {e : Env} {R : Room} {s : State} {m : MethodId} {args : Array Value} {below : List Frame} {meth : Method} {c : Code} {H : Heap} {locs : List Loc} {cells slots : Nat} {Q : State → Prop} {cc : ByteArray} {pc nL : Nat} {ls : Array Slot} {rest : List Value} {Ts : List Cond} {own : String} {g : cc_G} {A : Nat → Prop} {pls : va_W} {q : cc_S} {k : Nat} {y : cc_CT} (hc : k < 3) (X : cc_X p m c cc nL s args Ts own g A) (G : cc_H g A pls (cc_pC q k y) s H locs) {v : Int32} (hv : Int32.ofNat 8 = v) (hdg : decode cc pc = .ok (.arraylength, 1))
    (kk : W p l e R s m args below meth c H locs cells slots Q (F0 m (pc + 1) ls (.int v :: rest))) : W p l e R s m args below meth c H locs cells slots Q (F0 m pc ls (.ref (cc_ad g (10 + 20 * k + 1)) :: rest)) := by
  obtain ⟨pl, hp⟩ := co_pl g q hc
  obtain ⟨⟨pa, -, hP, -⟩, -⟩ := G
  exact va_alen X.1.1 X.1.2.1 X.2.1.1 hP pl 3 (hp pa pls y) rfl hv hdg kk
section CW
variable {p : Program} {l : Launch} {e : Env} {R : Room} {s : State} {m : MethodId} {args : Array Value} {below : List Frame} {meth : Method} {c : Code} {H : Heap} {locs : List Loc} {Q : State → Prop}
variable {cc : ByteArray} {pc nL : Nat} {ls : Array Slot} {Ts : List Cond} {own : String} {g : cc_G} {A : Nat → Prop} {pls : va_W} {T : Type}
theorem cc_iretW (w : T → cc_S) {x : T} {ty : FieldType} {res : Int32 × T} {v : Int32} (X : cc_X p m c cc nL s args Ts own g A) (hr : meth.sig.returnType = some ty) (hlk : meth.locks = false) (hn : narrow ty (.int v) = .int v) (G : cc_H g A pls (w x) s H locs) (h : some (v, x) = some res) (hQ : Q = MQ below (va_Qi (fun (x : Int32) (u : cc_S) => x = res.1 ∧ u = w res.2) (cc_B g A pls) A) args s 0 0 A) (hdg : decode cc pc = .ok (.ireturn, 1)) : W p l e R s m args below meth c H locs 0 0 Q (F0 m pc ls [.int v]) := by
  obtain rfl := Option.some.inj h
  exact cc_iret X hr hlk hn G rfl rfl hQ hdg
theorem cc_lretW (w : T → cc_S) {x : T} {res : Int64 × T} {v : Int64} (X : cc_X p m c cc nL s args Ts own g A) (hr : meth.sig.returnType = some .long) (hlk : meth.locks = false) (G : cc_H g A pls (w x) s H locs) (h : some (v, x) = some res) (hQ : Q = MQ below (va_Ql (fun (x : Int64) (u : cc_S) => x = res.1 ∧ u = w res.2) (cc_B g A pls) A) args s 0 0 A) (hdg : decode cc pc = .ok (.lreturn, 1)) : W p l e R s m args below meth c H locs 0 0 Q (F0 m pc ls [.long v]) := by
  obtain rfl := Option.some.inj h
  exact cc_lret X hr hlk G rfl rfl hQ hdg
end CW
