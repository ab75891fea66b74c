/-! the throw itself; out of a caller; into a handler -/
def WpT (G : GG) (ws : va_W) (sz : Nat) : State → Prop := fun U => Wp G ws sz U ∧ TZ (fun _ => False) U U.heap
theorem WpT_blind {G : GG} {ws : va_W} {sz : Nat} {av : List Value} : FrameBlind (va_Pc av (WpT G ws sz)) := by
  intro a U g mk q
  obtain ⟨q0, ⟨q1, qP, qK, qD⟩, qZ⟩ := q
  exact ⟨q0, ⟨q1, qP, va_K.moved (u := U) (U := U.calling g mk a) (Vm.Alike.refl U.vm) qK, qD⟩, TZ.same (u := U) (U := U.calling g mk a) rfl qZ⟩
/-- how a method ends that throws: an object of the class, the world as it was -/
def QT (G : GG) (ws : va_W) (X : String) (A : Nat → Prop) : Array Value → State → Outcome → State → Prop := fun _ st oc t =>
  ∃ a : Addr, oc = .threw a ∧ (∃ cell : Cell, t.heap[a]? = some cell ∧ cell.vm.isStatics = false ∧ t.vm.findClass X = some cell.cls) ∧ va_P G.1 classes ws t.heap ∧ va_K G.1 classes (tysG G) t ∧ va_D A ws ∧ va_F A st t
def CtT (l : Launch) (y : MethodName) (b : ByteArray) (maxL : Nat) (ret : Option FieldType) (rm : Room) (G : GG) (ws : va_W) (sz : Nat) (av : List Value) (X : String) : Prop :=
  MetT l y (lw_ws y b maxL ret) rm (va_Pc av (WpT G ws sz)) (QT G ws X (va_A ws sz)) 1 6 (va_A ws sz)
def BodyT (l : Launch) (y : MethodName) (b : ByteArray) (maxL : Nat) (ret : Option FieldType) (rm : Room) (G : GG) (ws : va_W) (av : List Value) (X : String) : Prop :=
  ∀ (p : Program) (e : Env) (s : State) (m : MethodId) (below : List Frame) (meth : Method) (c : Code), l.admits e → p.tables.exec = Jvm.exec → c.code = b → meth.sig.returnType = ret → c.maxLocals = maxL → s.vm.findClass y.cls = some m.cls → meth.locks = false → c.exceptionTable.toList = [] →
    (∀ w ∈ lw_g, w.before av.toArray s = true) → va_K G.1 classes (tysG G) s → ∀ A : Nat → Prop, (∀ q, s.heap.size ≤ q → A q) → TZ A s s.heap → va_P G.1 classes ws s.heap → va_D A ws → va_S A s.heap s.heap [] →
    ∀ ls : Array Slot, lv_has ls maxL (lv_args 0 av) → W p l e rm s m av.toArray below meth c s.heap [] 0 0 (MQT below (QT G ws X A) av.toArray s 1 6 A) (F0 m 0 ls [])
theorem MetT_of {l : Launch} {y : MethodName} {b : ByteArray} {maxL : Nat} {ret : Option FieldType} {rm : Room} {G : GG} {ws : va_W} {sz : Nat} {av : List Value} {X : String} (hy : plainName y.cls = true) (hlen : (lg_sl av).length ≤ maxL) (body : BodyT l y b maxL ret rm G ws av X) :
    CtT l y b maxL ret rm G ws sz av X := by
  refine MetT.ofW (cc := b) (maxL := maxL) (ret := ret) hy rfl ?_
  intro p e s m args below meth c s₁ B hml hv
  obtain ⟨rfl, ⟨hsz, hP, hK, hD0⟩, hZ⟩ := hv
  have hts := atoms_spec (ws := lw_ws y b maxL ret) B.pre
  subst hsz
  have hex : c.exceptionTable.toList = [] := by
    obtain ⟨meth', c', h1, h2, -, -, -, -, h7, -⟩ := Cond.code_spec B.named (hts _ List.mem_cons_self)
    cases B.method.symm.trans h1
    cases ((Stand.of_body B).code).symm.trans h2
    simpa using h7
  rw [lg_entry_eq]
  exact body p e s m below meth c B.admits B.exec B.bytes B.returns hml (findClass_of_methodNamed B.named) B.notSynchronized hex (fun w h => hts w (List.mem_cons_of_mem _ h)) hK (va_A ws s.heap.size) (fun q h => Or.inr h) (hZ.self hP) hP hD0.self va_S.rf _ (lv_entry av hlen)
section Catch
variable {p : Program} {l : Launch} {e : Env} {R : Room} {s : State} {m : MethodId} {args : Array Value} {below : List Frame} {meth : Method} {c : Code} {H H0 : Heap} {locs : List Loc} {cells slots : Nat} {Q : State → Prop}
  {G : GG} {ws : va_W} {A : Nat → Prop} {pc : Nat} {ls : Array Slot} {st0 rest : List Value} {cc bytes : ByteArray} {nL maxL index n : Nat} {own C X : String} {y : MethodName} {ret : Option FieldType} {rm : Room} {b ci q0 N : Nat} {T : u_T} {fs As : List Value}
/-- throw new X("..."), with nothing written since the entry -/
theorem thr_row {ia ib ic : Nat} {tx : String} (hfl : l.flags = flags0) (hx : p.tables.exec = Jvm.exec) (hb : c.code = cc) (hml : c.maxLocals = nL) (hown : s.vm.findClass "BookTrees" = some m.cls) (hlocks : meth.locks = false) (hex : c.exceptionTable.toList = []) (ht : ∀ w ∈ lw_g, w.before args s = true) (hK : va_K G.1 classes (tysG G) s) (hZ : TZ A s s.heap) (hA : ∀ q, s.heap.size ≤ q → A q) (hP : va_P G.1 classes ws s.heap) (hD : va_D A ws)
    (hfit : Bundle.fit X = true) (hall : (Bundle.ownAtoms "BookTrees" ic X exNames).all exOk = true) (hcl : Cond.classLink "BookTrees" ia X ∈ lw_g) (hins : Cond.instantiable X 6 ∈ lw_g) (hini : Cond.initialized X ∈ lw_g) (hstr : ∃ q, vk_R "BookTrees" ib tx q s) (hls : ls.size = nL)
    (d0 : decode cc pc = .ok (.new ia, 3)) (d3 : decode cc (pc + 3) = .ok (.dup, 1)) (d4 : decode cc (pc + 4) = .ok (.ldc ib, 2)) (d6 : decode cc (pc + 6) = .ok (.invokespecial ic, 3)) (d9 : decode cc (pc + 9) = .ok (.athrow, 1)) (hRf : 5 < R.frames) (hRl : 82 ≤ R.locals) (hRc : 1 ≤ R.cells) (hRs : 6 ≤ R.slots) :
    W p l e R s m args below meth c s.heap [] 0 0 (MQT below (QT G ws X A) args s 1 6 A) (F0 m pc ls []) := by
  obtain ⟨q, hq⟩ := hstr
  obtain ⟨cX, kX0, hfc, -⟩ := Cond.instantiable_spec (ht _ hins)
  refine W.newcK hx hb hown (ht _ hcl) (ht _ hins) (ht _ hini) rfl d0 (by omega) (by omega) hfc rfl (fun H1 kC hkC e1 z1 o1 => ?_)
  refine lv_dup hx hb d3 rfl ?_
  refine va_ldcS hx hb hown hq d4 ?_
  intro T0 hT X0
  obtain ⟨U, st, hrun, hend, hW, hsame, ce, hce, hoc⟩ := X0.ctorThrowS hx (Launch.traces_off hfl X0.admits) (own := "BookTrees") (cls := X) (names := exNames) (ic := ic) hown hfit (by decide) (atoms_hold hall ht hZ) (fun x h => by cases h) hfc hkC (a := s.heap.size) (by rw [hT]; exact e1) (Nat.le_refl _) (msg := .ref q) rfl
    (g := F0 m (pc + 6) ls [.ref q, .ref s.heap.size, .ref s.heap.size]) rfl (hls.trans hml.symm) rfl rfl (rest := []) rfl (by rw [hb]; exact d6) (by rw [hb]; exact d9) (by rw [hex]; intro x h; cases h) (by show 2 + 3 < R.frames; omega) (by show 2 * 0 + 1 + (13 * 3 + 42) ≤ R.locals; omega) hlocks
  have hkeep : ∀ j : Nat, j < s.heap.size → U.heap[j]? = s.heap[j]? := by
    intro j hj
    obtain ⟨c0, hc0⟩ : ∃ c0, s.heap[j]? = some c0 := ⟨_, Array.getElem?_eq_getElem hj⟩
    obtain ⟨c', h1, h2, h3, h4⟩ := hsame.2.2.2.2.2 j c0 hc0
    have h5 : c'.slots = c0.slots := Array.ext_getElem? (fun i => h4 i (by simp))
    have h1' : U.heap[j]? = some c' := h1
    rw [h1', hc0, h2, h5]
  refine ⟨U, st, .threw s.heap.size, hrun, hend, ⟨s.heap.size, rfl, ⟨ce, hce, by rw [hoc.vm]; rfl, by rw [hW.alike.findClass]; exact hoc.cls⟩, ?_, va_K.moved hW.alike hK, hD, ⟨hsame.2.1, fun j h1 _ => hkeep j h1⟩⟩, [], ⟨⟨_, rfl⟩, hW, hsame⟩, fun q h => by cases h⟩
  exact hP.kept (fun k x hx => hkeep x.1 ((hP k x hx).lt))
theorem run_VT {F : Array Value → State → Outcome → State → Prop} {free : Addr → Prop} {mc ms : Nat} (hx : p.tables.exec = Jvm.exec) (hb : c.code = cc) (hml : c.maxLocals = nL) (hown : s.vm.findClass own = some m.cls) (ht : ∀ w ∈ lw_g, w.before args s = true) (hK : va_K G.1 classes (tysG G) s) (hP : va_P G.1 classes ws H) (hD : va_D A ws) (hZ : TZ A s H)
    (hM : MetT l y (lw_ws y bytes maxL ret) rm (va_Pc (.ref b :: As) (WpT G ws H.size)) F mc ms free) (cw : CallW R s args own y.cls index y bytes maxL ret (lw_ws y bytes maxL ret) rm mc ms n) (he : ws[q0]? = some (b, .inr (ci, fs))) (hc : classes[ci]? = some (y.cls, T, N))
    (hn : As.length = n) (hsize : ls.size = nL) (hstack : st0 = As.reverse ++ .ref b :: rest) (hW : (rest.map fun v => v.category).sum ≤ 8) (hdg : decode cc pc = .ok (.invokevirtual index, 3)) (hf : cells + mc ≤ R.cells ∧ slots + ms ≤ R.slots) :
    RunT p l e R s m args below meth c H locs cells slots mc ms (F0 m pc ls st0) rest (F (Value.ref b :: As).toArray) free :=
  runVT ⟨hx, hb, hml, hown, ht⟩ hM cw ⟨WpT_blind, va_recv hK hP hc he, fun U hU hW => ⟨rfl, ⟨by rw [hU], by rw [hU]; exact hP, va_K.moved hW.alike hK, hD.weaken (fun _ _ _ _ => trivial)⟩, by rw [hU]; exact (hZ.weak (fun _ z => z.elim)).warm hW⟩⟩ rfl hn hsize hstack (lv_room hW) hdg hf
/-- out of the caller, who has no handler -/
theorem out_T {a : Array Value} (hr : RunT p l e R s m args below meth c H locs 0 0 1 6 (F0 m pc ls st0) rest (QT G ws X (va_A ws H.size) a) (va_A ws H.size)) (hlocks : meth.locks = false) (hex : c.exceptionTable.toList = []) (hD : va_D A ws) (hS : va_S A s.heap H locs) (hA : ∀ q, s.heap.size ≤ q → A q) :
    W p l e R s m args below meth c H locs 0 0 (MQT below (QT G ws X A) args s 1 6 A) (F0 m pc ls st0) := by
  have hF := own_free hD hS hA
  intro T0 hT X0
  obtain ⟨v, st₀, t, T', L, h0, X', hL, e1, e2, ⟨a1, ha1, ⟨cell, hc1, hc2, hc3⟩, hP1, hK1, hD1, hF1⟩, st⟩ := hr T0 hT X0
  cases ha1
  obtain ⟨l1, l2, l3, l4, l5⟩ := X'.leaveThrown v (g := { F0 m pc ls st0 with stack := rest }) rfl rfl rfl (by rw [hex]; intro x h; cases h) hlocks
  obtain ⟨hF1, hF2⟩ := hF1
  rw [h0] at hF1 hF2
  refine ⟨T'.setFrames (.throwing v :: below), st.trans l1, .threw v, l2, l3, ⟨v, rfl, ⟨cell, by show T'.heap[v]? = _; rw [e1]; exact hc1, hc2, by show T'.vm.findClass X = _; rw [e2]; exact hc3⟩, by show va_P _ _ _ T'.heap; rw [e1]; exact hP1, ?_, hD, ?_⟩, locs ++ L, ⟨⟨_, rfl⟩, l4, l5⟩, ?_⟩
  · exact va_K.moved (u := t) (U := T'.setFrames (.throwing v :: below)) (by show t.vm.Alike T'.vm; rw [e2]; exact Vm.Alike.refl _) hK1
  · refine ⟨?_, fun q h1 h2 => ?_⟩
    · show s.heap.size ≤ T'.heap.size
      rw [e1]; exact Nat.le_trans hS.1 hF1
    · show T'.heap[q]? = s.heap[q]?
      rw [e1, hF2 q (Nat.lt_of_lt_of_le h1 hS.1) (fun z => h2 (hF q z))]
      exact hS.2.1 q h1 h2
  · intro q hq
    rcases List.mem_append.mp hq with h | h
    · exact hS.2.2 q h
    · exact hF _ (hL q h)
end Catch
