theorem pp_loopN {α β : Type} {F : (α → Option β) → α → Option β} {r : β} (I : Nat → α → Prop) (hstep : ∀ (n : Nat) (self : α → Option β), (∀ a, self a = some r → I n a) → ∀ a, F self a = some r → I (n + 1) a) (n : Nat) : ∀ (a : α), pp_it F n a = some r → I n a := by
  induction n with
  | zero => intro a h; cases h
  | succ n ih => exact fun a h => hstep n (pp_it F n) ih a h
def cc_Ni (l : Launch) (y : MethodName) (ws : List Cond) (rm : Room) (g : cc_G) (pls : va_W) (av : List Value) (q : cc_S) (r : Int32) (q1 : cc_S) (mc ms : Nat) : Prop := ∀ (sz : Nat) (A : Nat → Prop), (∀ x, sz ≤ x → A x) → Met l y ws rm (cc_Pre g A pls q av sz) (va_Qi (fun (x : Int32) (u : cc_S) => x = r ∧ u = q1) (fun u t => ∃ pls1 : va_W, (∀ z ∈ pls, z ∈ pls1) ∧ cc_B g A pls1 u t) A) mc ms A
section NR
variable {p : Program} {l : Launch} {e : Env} {R : Room} {s : State} {m : MethodId} {args : Array Value} {below : List Frame} {meth : Method} {c : Code} {H : Heap} {locs : List Loc} {cells slots : Nat} {Q : State → Prop}
variable {cc : ByteArray} {pc nL : Nat} {ls : Array Slot} {rest : List Value} {Ts : List Cond} {own : String} {g : cc_G} {A : Nat → Prop} {pls : va_W} {T : Type} {w : T → cc_S} {id ci : Nat} {fs : T → List Value} {x : T}
theorem cc_caliC {q q1 q2 : cc_S} {r : Int32} (hf : cells ≤ R.cells ∧ slots ≤ R.slots) (hq : q = w x) (hq2 : q1 = q2) (ho : cc_Ob g w id ci fs) (X : cc_X p m c cc nL s args Ts own g A) (G : cc_H g A pls (w x) s H locs) {C : String} {TT : u_T} {N : Nat} (hcl : vwCl[ci]? = some (C, TT, N)) {y : MethodName} {bytes : ByteArray} {maxL n index : Nat} {ret : Option FieldType} {wsc : List Cond} {rmc : Room} {As st0 : List Value} (hM : cc_Mi l y wsc rmc g pls (.ref (cc_ad g id) :: As) q r q1) (cw : CallW R s args own C index y bytes maxL ret wsc rmc 0 0 n) (hn : As.length = n) (hsz : ls.size = nL) (hst : st0 = As.reverse ++ .ref (cc_ad g id) :: rest) (hW : (rest.map fun v => v.category).sum ≤ 8) (hdg : decode cc pc = .ok (.invokevirtual index, 3))
    (kk : ∀ (H1 : Heap) (locs1 : List Loc), cc_H g A pls q2 s H1 locs1 → W p l e R s m args below meth c H1 locs1 cells slots Q (F0 m (pc + 3) ls (.int r :: rest))) : W p l e R s m args below meth c H locs cells slots Q (F0 m pc ls st0) := by
  subst hq2
  have hA : ∀ x, H.size ≤ x → A x := fun x h => X.2.2 x (Nat.le_trans G.2.1 h)
  refine va_calli (va_runV (As := As) (rest := rest) X.1 (hM H.size A hA) cw (cc_preV hq ho X G hcl As) rfl hn hsz hst (lv_room hW) hdg hf) G.2 (fun _ _ h => h) (fun _ h => h) (fun r1 u t H1 locs1 ht hvm hw hB hz hk hS => ?_)
  obtain ⟨rfl, rfl⟩ := hw
  exact kk H1 locs1 ⟨by rw [← ht]; exact hB.1, hS⟩
theorem cc_calvC {q q1 q2 : cc_S} (hf : cells ≤ R.cells ∧ slots ≤ R.slots) (hq : q = w x) (hq2 : q1 = q2) (ho : cc_Ob g w id ci fs) (X : cc_X p m c cc nL s args Ts own g A) (G : cc_H g A pls (w x) s H locs) {C : String} {TT : u_T} {N : Nat} (hcl : vwCl[ci]? = some (C, TT, N)) {y : MethodName} {bytes : ByteArray} {maxL n index : Nat} {ret : Option FieldType} {wsc : List Cond} {rmc : Room} {As st0 : List Value} (hM : cc_Mv l y wsc rmc g pls (.ref (cc_ad g id) :: As) q q1) (cw : CallW R s args own C index y bytes maxL ret wsc rmc 0 0 n) (hn : As.length = n) (hsz : ls.size = nL) (hst : st0 = As.reverse ++ .ref (cc_ad g id) :: rest) (hW : (rest.map fun v => v.category).sum ≤ 8) (hdg : decode cc pc = .ok (.invokevirtual index, 3))
    (kk : ∀ (H1 : Heap) (locs1 : List Loc), cc_H g A pls q2 s H1 locs1 → W p l e R s m args below meth c H1 locs1 cells slots Q (F0 m (pc + 3) ls rest)) : W p l e R s m args below meth c H locs cells slots Q (F0 m pc ls st0) := by
  subst hq2
  have hA : ∀ x, H.size ≤ x → A x := fun x h => X.2.2 x (Nat.le_trans G.2.1 h)
  refine va_callv (va_runV (As := As) (rest := rest) X.1 (hM H.size A hA) cw (cc_preV hq ho X G hcl As) rfl hn hsz hst (lv_room hW) hdg hf) G.2 (fun _ _ h => h) (fun _ h => h) (fun u t H1 locs1 ht hvm hw hB hz hk hS => ?_)
  obtain rfl := hw
  exact kk H1 locs1 ⟨by rw [← ht]; exact hB.1, hS⟩
theorem cc_calNi {q q1 q2 : cc_S} {r : Int32} {mc ms : Nat} (hf : cells + mc ≤ R.cells ∧ slots + ms ≤ R.slots) (hq : q = w x) (hq2 : q1 = q2) (ho : cc_Ob g w id ci fs) (X : cc_X p m c cc nL s args Ts own g A) (G : cc_H g A pls (w x) s H locs) {C : String} {TT : u_T} {N : Nat} (hcl : vwCl[ci]? = some (C, TT, N)) {y : MethodName} {bytes : ByteArray} {maxL n index : Nat} {ret : Option FieldType} {wsc : List Cond} {rmc : Room} {As st0 : List Value} (hM : cc_Ni l y wsc rmc g pls (.ref (cc_ad g id) :: As) q r q1 mc ms) (cw : CallW R s args own C index y bytes maxL ret wsc rmc mc ms n) (hn : As.length = n) (hsz : ls.size = nL) (hst : st0 = As.reverse ++ .ref (cc_ad g id) :: rest) (hW : (rest.map fun v => v.category).sum ≤ 8) (hdg : decode cc pc = .ok (.invokevirtual index, 3))
    (kk : ∀ (pls1 : va_W) (H1 : Heap) (locs1 : List Loc), (∀ z ∈ pls, z ∈ pls1) → cc_H g A pls1 q2 s H1 locs1 → W p l e R s m args below meth c H1 locs1 (cells + mc) (slots + ms) Q (F0 m (pc + 3) ls (.int r :: rest))) : W p l e R s m args below meth c H locs cells slots Q (F0 m pc ls st0) := by
  subst hq2
  have hA : ∀ x, H.size ≤ x → A x := fun x h => X.2.2 x (Nat.le_trans G.2.1 h)
  refine va_calli (va_runV (As := As) (rest := rest) X.1 (hM H.size A hA) cw (cc_preV hq ho X G hcl As) rfl hn hsz hst (lv_room hW) hdg hf) G.2 (fun _ _ h => h) (fun _ h => h) (fun r1 u t H1 locs1 ht hvm hw hB hz hk hS => ?_)
  obtain ⟨rfl, rfl⟩ := hw
  obtain ⟨pls1, hsub, hB⟩ := hB
  exact kk pls1 H1 locs1 hsub ⟨by rw [← ht]; exact hB.1, hS⟩
theorem cc_iretN {ty : FieldType} {q q1 : cc_S} {r v : Int32} {pls0 : va_W} {mc ms : Nat} (hc : cells ≤ mc) (hs : slots ≤ ms) (hsub : ∀ z ∈ pls0, z ∈ pls) (X : cc_X p m c cc nL s args Ts own g A) (hr : meth.sig.returnType = some ty) (hlk : meth.locks = false) (hn : narrow ty (.int v) = .int v) (G : cc_H g A pls q s H locs) (h1 : v = r) (h2 : q = q1) (hQ : Q = MQ below (va_Qi (fun (x : Int32) (u : cc_S) => x = r ∧ u = q1) (fun u t => ∃ pls1 : va_W, (∀ z ∈ pls0, z ∈ pls1) ∧ cc_B g A pls1 u t) A) args s mc ms A) (hdg : decode cc pc = .ok (.ireturn, 1)) : W p l e R s m args below meth c H locs cells slots Q (F0 m pc ls [.int v]) := by
  subst hQ; subst h1; subst h2
  refine W.widen hc hs ?_
  exact W.zret X.1.1 X.1.2.1 hr hn (fun t ht hW => ⟨⟨v, q, rfl, ⟨rfl, rfl⟩, pls, hsub, by rw [ht]; exact G.1, cc_Kat X G ht hW⟩, G.2.F ht⟩) G.2.2.2 hdg hlk
theorem cc_ofWN {y : MethodName} {ws ws' : List Cond} {rm : Room} {maxL mc ms : Nat} {ret : Option FieldType} {av : List Value} {q : cc_S} {Qc : Array Value → State → Outcome → State → Prop} {sz : Nat} (hA : ∀ x, sz ≤ x → A x) (hy : plainName y.cls = true) (hw : ws = Cond.code y cc maxL ret :: ws') (hcls : y.cls = own) (hmx : (lg_sl av).length ≤ maxL)
    (body : ∀ (p : Program) (e : Env) (s : State) (m : MethodId) (args : Array Value) (below : List Frame) (meth : Method) (c : Code) (ls : Array Slot), cc_X p m c cc maxL s args ws own g A → meth.sig.returnType = ret → meth.locks = false → cc_H g A pls q s s.heap [] → lv_has ls maxL (lv_args 0 av) → ∀ (Q : State → Prop), Q = MQ below Qc args s mc ms A → W p l e (headSpec ws rm).room s m args below meth c s.heap [] 0 0 Q (F0 m 0 ls [])) : Met l y ws rm (cc_Pre g A pls q av sz) Qc mc ms A := by
  refine Met.ofW (cc := cc) (maxL := maxL) (ret := ret) hy hw ?_
  intro p e s m args below meth c s₁ B hml hv
  obtain ⟨rfl, hsz, hW, hK⟩ := hv
  have hts := atoms_spec (ws := ws) B.pre
  have hown : s.vm.findClass own = some m.cls := hcls ▸ findClass_of_methodNamed B.named
  have hl := lv_entry av (n := maxL) hmx
  rw [lg_entry_eq]
  exact body p e s m _ below meth c _ ⟨⟨B.exec, B.bytes, hml, hown, hts⟩, hK, hsz ▸ hA⟩ B.returns B.notSynchronized ⟨hW, va_S.rf⟩ hl _ rfl
theorem cc_np {q : cc_S} (hf : cells + 1 ≤ R.cells ∧ slots + 4 ≤ R.slots) (X : cc_X p m c cc nL s args Ts own g A) (G : cc_H g A pls q s H locs) {index n maxL : Nat} {bytes : ByteArray} {ret : Option FieldType} {wsc : List Cond} {rmc : Room} {y : MethodName} {host : String} {v0 v1 v2 v3 : Int32} {d : cc_PD} (hd : cc_isP d.1) (hM : cn_Mp l y wsc rmc g.1 [.int v0, .int v1, .int v2, .int v3] d) (cw : va_CN R s args own index y host bytes maxL ret wsc rmc 1 4 n ∧ (Cond.static y).before args s = true ∧ True) (hn : 4 = n) (hsz : ls.size = nL) (hW : (rest.map fun v => v.category).sum ≤ 8) (hdg : decode cc pc = .ok (.invokestatic index, 3))
    (kk : ∀ (a : Nat) (H1 : Heap) (locs1 : List Loc), cc_H g A (pls ++ [(a, cc_plc d)]) q s H1 locs1 → W p l e R s m args below meth c H1 locs1 (cells + 1) (slots + 4) Q (F0 m (pc + 3) ls (.ref a :: rest))) : W p l e R s m args below meth c H locs cells slots Q (F0 m pc ls (.int v3 :: .int v2 :: .int v1 :: .int v0 :: rest)) := by
  have hp : PreS s H (va_Pc [.int v0, .int v1, .int v2, .int v3] (fun U => U.heap.size = H.size ∧ va_K g.1 vwCl [] U)) [.int v0, .int v1, .int v2, .int v3] := ⟨cn_blind2 _ _, fun U hU hW => ⟨rfl, by show U.heap.size = H.size; rw [hU], va_K.moved hW.alike (X.2.1.1.sub [] rfl)⟩⟩
  refine va_callr (va_runSN (As := [.int v0, .int v1, .int v2, .int v3]) (rest := rest) X.1 (hM H.size) cw hp rfl hn hsz rfl (lv_room hW) hdg hf) G.2 (fun x h1 h2 => absurd h1 (Nat.not_lt.mpr h2)) (fun x h => X.2.2 x (Nat.le_trans G.2.1 h)) (fun u a t H1 locs1 ht hvm hw hB hz hk hS => ?_)
  obtain ⟨ha, hnew⟩ := hB
  rw [ht] at hnew
  obtain ⟨⟨pa, hok, hP, hD⟩, hS0⟩ := G
  refine kk a H1 locs1 ⟨⟨pa, ⟨fun c hc j hj => List.mem_append_left _ (hok.1 c hc j hj), fun z hz => ?_⟩, ?_, ?_⟩, hS⟩
  · rcases List.mem_append.mp hz with h | h
    · exact hok.2 z h
    · rw [List.mem_singleton] at h; rw [h]; exact ⟨d, rfl, hd⟩
  · have e1 : cc_F g pa (pls ++ [(a, cc_plc d)]) q = cc_F g pa pls q ++ [(a, cc_plc d)] := by rw [cc_tail, cc_tail g pa pls, List.append_assoc]
    rw [e1]
    exact (hP.kept (fun k x hx => hk x.1 (va_at.lt (hP k x hx)) (fun z => absurd (va_at.lt (hP k x hx)) (Nat.not_lt.mpr z)))).app hnew
  · have e1 : cc_F g pa (pls ++ [(a, cc_plc d)]) q = cc_F g pa pls q ++ [(a, cc_plc d)] := by rw [cc_tail, cc_tail g pa pls, List.append_assoc]
    rw [e1]
    refine hD.app ((cn_D a H.size (cc_plc d)).weaken (fun k x hx h => ?_)) (fun i j x z hx hz h => ?_)
    · rcases h with h | h
      · exact X.2.2 _ (h ▸ Nat.le_trans hS0.1 ha)
      · exact X.2.2 _ (Nat.le_trans hS0.1 h)
    · have h1 : x.1 < H.size := va_at.lt (hP i x hx)
      have h2 : j < 1 := (List.getElem?_eq_some_iff.mp hz).1
      have h3 : j = 0 := by omega
      subst h3
      cases hz
      have h4 : x.1 = a := h
      omega
end NR
